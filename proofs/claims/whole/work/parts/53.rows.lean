def LR (P : PC) (w c : Nat) (L : List (List Nat)) (s : MS) : Prop := (∀ i, i < P.1 → L.flatten.contains i = false → s.1 c i = -9) ∧ ∀ p, p < L.length → ∀ k, k < w → s.1 c (ln (L.getD p []) k) = nI k
theorem getD_ap {K T : List (List Nat)} {p : Nat} : (K ++ T).getD p [] = if p < K.length then K.getD p [] else T.getD (p - K.length) [] := by
  rw [List.getD_eq_getElem?_getD, List.getD_eq_getElem?_getD, List.getD_eq_getElem?_getD, List.getElem?_append]
  split <;> rfl
theorem fl_ap (K T : List (List Nat)) (i : Nat) : (K ++ T).flatten.contains i = (K.flatten.contains i || T.flatten.contains i) := by
  rw [Bool.eq_iff_iff]; simp
theorem NR_app {P : PC} {w c : Nat} {K T : List (List Nat)} {s s' : MS} (hP : okP P) (hA : ∀ B, B ∈ K → wfP P w B) (h : NR P w c K s) (h1 : ∀ i, T.flatten.contains i = false → s'.1 c i = s.1 c i) (h2 : ∀ q, q < T.length → ∀ k, k < w → s'.1 c (ln (T.getD q []) k) = nI (K.length + q)) (hd : ∀ x, K.flatten.contains x = true → T.flatten.contains x = false) : NR P w c (K ++ T) s' := by
  refine ⟨fun i hi hc => ?_, fun p hp k hk => ?_⟩
  · rw [fl_ap, Bool.or_eq_false_iff] at hc
    rw [h1 i hc.2]
    exact h.1 i hi hc.1
  · rw [getD_ap]
    split
    · next q =>
      rw [h1 _ (hd _ ((in_flat hP hA).mpr ⟨p, k, q, hk, rfl⟩))]
      exact h.2 p q k hk
    · next q =>
      simp only [List.length_append] at hp
      have := h2 (p - K.length) (by omega) k hk
      rw [this]
      congr 1
      omega
theorem LR_app {P : PC} {w c : Nat} {K T : List (List Nat)} {s s' : MS} (hP : okP P) (hA : ∀ B, B ∈ K → wfP P w B) (h : LR P w c K s) (h1 : ∀ i, T.flatten.contains i = false → s'.1 c i = s.1 c i) (h2 : ∀ q, q < T.length → ∀ k, k < w → s'.1 c (ln (T.getD q []) k) = nI k) (hd : ∀ x, K.flatten.contains x = true → T.flatten.contains x = false) : LR P w c (K ++ T) s' := by
  refine ⟨fun i hi hc => ?_, fun p hp k hk => ?_⟩
  · rw [fl_ap, Bool.or_eq_false_iff] at hc
    rw [h1 i hc.2]
    exact h.1 i hi hc.1
  · rw [getD_ap]
    split
    · next q =>
      rw [h1 _ (hd _ ((in_flat hP hA).mpr ⟨p, k, q, hk, rfl⟩))]
      exact h.2 p q k hk
    · next q =>
      simp only [List.length_append] at hp
      exact h2 (p - K.length) (by omega) k hk
/-- what the class's packer holds -/
def mPk (P : PC) (b w : Nat) (C : CS) (s : MS) : Prop := s.1 b 3 = nI w ∧ s.1 b 10 = nI C.1.length ∧ s.1 b 11 = mS C.1.flatten ∧ s.1 b 12 = nI C.2.1 ∧ s.1 b 13 = C.2.2 ∧ mPt b C.1 s ∧ NR P w (b + 2) C.1 s ∧ LR P w (b + 3) C.1 s
abbrev FC (b : Nat) : Nat → Nat → Prop := fun r k => (r = b ∧ 9 ≤ k) ∨ (b + 1 ≤ r ∧ r ≤ b + 5) ∨ (b + 10 ≤ r ∧ r ≤ b + 12)
theorem mk_K {K : List (List Nat)} : mk (mS K.flatten) (kpf K) := fun k hk => mS_bit _ hk
/-- the nodes when a tree has joined, and when it has gone again -/
theorem join_pt {b : Nat} {K T : List (List Nat)} {jn : Bool} {s s' : MS} (hd : ∀ x, K.flatten.contains x = true → T.flatten.contains x = false) (h0 : ∀ i, i < 16 → T.flatten.contains i = false → mk (s.1 (b + 1) i) (nd K i)) (h1 : ∀ i, T.flatten.contains i = true → mk (s'.1 (b + 1) i) (tgt T jn i)) (h2 : ∀ i, T.flatten.contains i = false → s'.1 (b + 1) i = s.1 (b + 1) i) : mPt b (if jn then K ++ T else K) s' := by
  have nT : ∀ i j, T.flatten.contains i = false → sm T i j = false := by
    intro i j q
    rw [Bool.eq_false_iff]
    intro z
    obtain ⟨B, b1, b2, b3⟩ := sm_iff.mp z
    rw [show T.flatten.contains i = true by rw [List.contains_iff_mem]; exact List.mem_flatten.mpr ⟨B, b1, b2⟩] at q
    simp at q
  have nK : ∀ i j, T.flatten.contains i = true → sm K i j = false := by
    intro i j q
    rw [Bool.eq_false_iff]
    intro z
    obtain ⟨B, b1, b2, b3⟩ := sm_iff.mp z
    have := hd i (by rw [List.contains_iff_mem]; exact List.mem_flatten.mpr ⟨B, b1, b2⟩)
    rw [q] at this
    simp at this
  have e1' : ∀ L i j, nd L i j = (decide (i = j) || sm L i j) := fun _ _ _ => rfl
  intro i hi j hj
  cases c : T.flatten.contains i with
  | true =>
    rw [h1 i c j hj]
    cases jn with
    | true =>
      show nd T i j = nd (K ++ T) i j
      rw [nd_app, nK i j c, e1', Bool.false_or]
    | false =>
      show decide (i = j) = nd K i j
      rw [e1', nK i j c, Bool.or_false]
  | false =>
    rw [h2 i c, h0 i hi c j hj]
    cases jn with
    | true =>
      show nd K i j = nd (K ++ T) i j
      rw [nd_app, nT i j c, e1', Bool.or_false]
    | false => rfl
