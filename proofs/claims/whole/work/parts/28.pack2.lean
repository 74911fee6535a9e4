theorem cnt_one (p : Nat → Bool) (a : Nat) : ∀ n, cnt (fun i => decide (a = i) || p i) n = cnt p n + if a < n ∧ p a = false then 1 else 0
  | 0 => by simp [cnt]
  | n + 1 => by
    simp only [cnt]
    rw [cnt_one p a n]
    by_cases h : a = n
    · subst h
      by_cases q : p a = true
      · simp [q]
      · simp [q]
    · have h1 : (a < n + 1) = (a < n) := by apply propext; omega
      simp only [h, decide_false, Bool.false_or, h1]
      omega
theorem cont_cons (a x : Nat) (t : List Nat) : (a :: t).contains x = (decide (a = x) || t.contains x) := by
  rw [List.contains_cons]
  rw [show (x == a) = decide (a = x) by rw [Bool.eq_iff_iff]; simp only [beq_iff_eq, decide_eq_true_eq]; exact eq_comm]
/-- how many different numbers in a bundle -/
def dif (b : List Nat) : Nat := cnt (fun i => b.contains i) 16
theorem dif_cons {a : Nat} {t : List Nat} (ha : a < 16) : dif (a :: t) = dif t + if t.contains a = false then 1 else 0 := by
  unfold dif
  rw [show (fun i => (a :: t).contains i) = fun i => decide (a = i) || t.contains i from funext fun i => cont_cons a i t, cnt_one]
  simp only [ha, true_and]
theorem dif_le : ∀ b : List Nat, (∀ x, x ∈ b → x < 16) → dif b ≤ b.length
  | [], _ => by simp [dif, cnt]
  | a :: t, h => by
    rw [dif_cons (h a List.mem_cons_self)]
    have := dif_le t fun x hx => h x (List.mem_cons_of_mem _ hx)
    simp only [List.length_cons]
    split <;> omega
theorem dif_nd : ∀ b : List Nat, (∀ x, x ∈ b → x < 16) → (dif b = b.length ↔ b.Nodup)
  | [], _ => by simp [dif, cnt]
  | a :: t, h => by
    have h2 : ∀ x, x ∈ t → x < 16 := fun x hx => h x (List.mem_cons_of_mem _ hx)
    rw [dif_cons (h a List.mem_cons_self), List.nodup_cons, ← dif_nd t h2]
    have := dif_le t h2
    simp only [List.length_cons]
    by_cases c : a ∈ t
    · simp [c]; omega
    · simp [c]
theorem dif_pos {b : List Nat} (h : ∀ x, x ∈ b → x < 16) : dif b = 0 ↔ b = [] := by
  cases b with
  | nil => simp [dif, cnt]
  | cons a t =>
    simp only [reduceCtorEq, iff_false]
    rw [dif_cons (h a List.mem_cons_self)]
    intro q
    have q1 : dif t = 0 := by omega
    have : t = [] := (dif_pos fun x hx => h x (List.mem_cons_of_mem _ hx)).mp q1
    subst this
    simp at q
theorem dif_1 : ∀ (a : Nat) (t : List Nat), (∀ x, x ∈ a :: t → x < 16) → (dif (a :: t) = 1 ↔ ∀ x, x ∈ t → x = a)
  | a, [], h => by
    rw [dif_cons (h a List.mem_cons_self)]
    simp [dif, cnt]
  | a, c :: u, h => by
    have h2 : ∀ x, x ∈ c :: u → x < 16 := fun x hx => h x (List.mem_cons_of_mem _ hx)
    have ih := dif_1 c u h2
    have p := mt (dif_pos h2).mp (by simp)
    rw [dif_cons (h a List.mem_cons_self)]
    by_cases m : a ∈ c :: u
    · have : (c :: u).contains a = true := by simpa using m
      rw [this, if_neg (by simp), Nat.add_zero, ih]
      constructor
      · intro q
        have ac : a = c := by
          rcases List.mem_cons.mp m with r | r
          · exact r
          · exact q a r
        intro x hx
        rcases List.mem_cons.mp hx with r | r
        · rw [r, ac]
        · rw [q x r, ac]
      · intro q x hx
        rw [q x (List.mem_cons_of_mem _ hx), q c List.mem_cons_self]
    · have : (c :: u).contains a = false := by simpa using m
      rw [this, if_pos rfl]
      constructor
      · intro q; omega
      · intro q
        exact absurd (by rw [q c List.mem_cons_self]; exact List.mem_cons_self) m
theorem nd_ln {w : Nat} {b : List Nat} (h : b.length = w) : b.Nodup ↔ ∀ k l, k < w → l < k → ln b l ≠ ln b k := by
  unfold ln
  constructor
  · intro q k l hk hl
    rw [List.getD_eq_getElem?_getD, List.getD_eq_getElem?_getD, List.getElem?_eq_getElem (by omega), List.getElem?_eq_getElem (by omega)]
    intro e
    rw [List.nodup_iff_pairwise_ne, List.pairwise_iff_getElem] at q
    exact q l k (by omega) (by omega) hl e
  · intro q
    rw [List.nodup_iff_pairwise_ne, List.pairwise_iff_getElem]
    intro i j hi hj hij
    have := q j i (by omega) hij
    rw [List.getD_eq_getElem?_getD, List.getD_eq_getElem?_getD, List.getElem?_eq_getElem hi, List.getElem?_eq_getElem hj] at this
    exact this
def qLn (P : PC) (d : Nat → Nat → Bool) (w : Nat) (b : List Nat) (k : Nat) : Bool := decide (pK P (ln b k) = pK P (ln b 0)) && allB (fun l => !d (ln b l) (ln b k)) w && (!pMem P (ln b k) || decide (pa P (ln b k) = pa P (ln b 0)) && decide (pb P (ln b k) = pb P (ln b 0) + k))
theorem qPk {P : PC} {d : Nat → Nat → Bool} (hd : ∀ x, d x x = false) {w : Nat} {b : List Nat} (hb : b.length = w) (h : ∀ x, x ∈ b → x < 16) : pPk P d w b = (pHd P b && (decide (dif b = w) && allB (qLn P d w b) w)) := by
  unfold pPk
  congr 1
  apply Bool.eq_iff_iff.mpr
  rw [Bool.and_eq_true, decide_eq_true_eq]
  conv => rhs; lhs; rw [← hb]
  rw [dif_nd b h, nd_ln hb, allB_iff, allB_iff]
  simp only [pLn, qLn, Bool.and_eq_true, allB_iff, pOv, decide_eq_true_eq, Bool.not_eq_true', ne_eq, decide_not]
  constructor
  · intro q
    refine ⟨fun k l hk hl => by simpa using ((q k hk).1.2 l hl).1.1, fun k hk => ⟨⟨(q k hk).1.1, fun l hl => ?_⟩, (q k hk).2⟩⟩
    rcases Nat.lt_trichotomy l k with r | r | r
    · exact ((q k hk).1.2 l r).1.2
    · rw [r]; exact hd _
    · exact ((q l hl).1.2 k r).2
  · rintro ⟨q1, q⟩ k hk
    exact ⟨⟨(q k hk).1.1, fun l hl => ⟨⟨by simpa using q1 k l hk hl, (q k hk).1.2 l (by omega)⟩, (q l (by omega)).1.2 k hk⟩⟩, (q k hk).2⟩
theorem pDep_xx (f : Nat → Nat → Bool) (x : Nat) : pDep f x x = false := by
  cases e : pDep f x x with
  | false => rfl
  | true => exact absurd (pDep_lt f x e) (Nat.lt_irrefl x)
