/-! the schedule -/
def nd (L : List (List Nat)) (i j : Nat) : Bool := decide (i = j) || L.any (fun B => B.contains i && B.contains j)
def rdy (P : PC) (g : Nat → Nat → Bool) (L : List (List Nat)) (D : Nat → Bool) (i : Nat) : Bool := allB (fun j => !nd L i j || allB (fun k => !g k j || D k || nd L i k) P.1) P.1
abbrev SS : Type := (Nat → Bool) × Nat × (Nat → Nat) × List Nat
def nxt (P : PC) (g : Nat → Nat → Bool) (L : List (List Nat)) (D : Nat → Bool) : Option Nat := lstO (fun i => !D i && rdy P g L D i) P.1
def sNext (P : PC) (L : List (List Nat)) (S : SS) : Option Nat → SS
  | some i => (fun j => S.1 j || nd L i j, S.2.1 + 1, fun j => if nd L i j then S.2.1 else S.2.2.1 j, S.2.2.2 ++ (List.range P.1).filter (nd L i))
  | none => S
def sStep (P : PC) (g : Nat → Nat → Bool) (L : List (List Nat)) (S : SS) : SS := sNext P L S (nxt P g L S.1)
def sAt (P : PC) (g : Nat → Nat → Bool) (L : List (List Nat)) (D0 : Nat → Bool) : Nat → SS
  | 0 => (D0, 0, fun _ => 0, [])
  | n + 1 => sStep P g L (sAt P g L D0 n)
def sFin (P : PC) (g : Nat → Nat → Bool) (L : List (List Nat)) (D0 : Nat → Bool) : SS := sAt P g L D0 16
def sOk (P : PC) (g : Nat → Nat → Bool) (L : List (List Nat)) (D0 : Nat → Bool) : Bool := allB (sFin P g L D0).1 P.1
theorem nd_self (L : List (List Nat)) (i : Nat) : nd L i i = true := by simp [nd]
theorem cnt_mono {p q : Nat → Bool} (h : ∀ k, p k = true → q k = true) : ∀ n, cnt p n ≤ cnt q n
  | 0 => Nat.le_refl 0
  | n + 1 => by
    have := cnt_mono h n
    simp only [cnt]
    by_cases c : p n = true
    · rw [if_pos c, if_pos (h n c)]; omega
    · rw [if_neg c]; omega
theorem cnt_strict {p q : Nat → Bool} (h : ∀ k, p k = true → q k = true) {i : Nat} (h1 : p i = false) (h2 : q i = true) : ∀ n, i < n → cnt p n + 1 ≤ cnt q n
  | 0, hi => absurd hi (Nat.not_lt_zero i)
  | n + 1, hi => by
    simp only [cnt]
    rcases Nat.lt_succ_iff_lt_or_eq.mp hi with r | r
    · have := cnt_strict h h1 h2 n r
      by_cases c : p n = true
      · rw [if_pos c, if_pos (h n c)]; omega
      · rw [if_neg c]; omega
    · subst r
      have := cnt_mono h i
      rw [h1, h2]
      simp
      omega
theorem cnt_full {p : Nat → Bool} : ∀ n, n ≤ cnt p n → ∀ k, k < n → p k = true
  | 0, _, k, hk => absurd hk (Nat.not_lt_zero k)
  | n + 1, h, k, hk => by
    have := cnt_le p n
    simp only [cnt] at h
    have hn : p n = true := by
      cases c : p n with
      | true => rfl
      | false => rw [c] at h; simp at h; omega
    rw [hn] at h
    simp at h
    rcases Nat.lt_succ_iff_lt_or_eq.mp hk with r | r
    · exact cnt_full n h k r
    · rw [r]; exact hn
theorem nxt_spec {P : PC} {g : Nat → Nat → Bool} {L : List (List Nat)} {D : Nat → Bool} : LSp (fun i => !D i && rdy P g L D i) 0 P.1 (nxt P g L D) := lstO_LS _ _
theorem nxt_all {P : PC} {g : Nat → Nat → Bool} {L : List (List Nat)} {D : Nat → Bool} (h : allB D P.1 = true) : nxt P g L D = none := by
  unfold nxt
  refine lstO_eq fun j _ hj => ?_
  rw [allB_iff] at h
  simp [h j hj]
theorem sAt_prog (P : PC) (g : Nat → Nat → Bool) (L : List (List Nat)) (D0 : Nat → Bool) : ∀ n, nxt P g L (sAt P g L D0 n).1 = none ∨ n ≤ cnt (sAt P g L D0 n).1 P.1
  | 0 => Or.inr (Nat.zero_le _)
  | n + 1 => by
    rcases sAt_prog P g L D0 n with q | q
    · left
      rw [sAt, sStep, q]
      exact q
    · cases hn : nxt P g L (sAt P g L D0 n).1 with
      | none =>
        left
        rw [sAt, sStep, hn]
        exact hn
      | some i =>
        right
        have := nxt_spec (P := P) (g := g) (L := L) (D := (sAt P g L D0 n).1)
        rw [hn] at this
        obtain ⟨-, hi, hd, -⟩ := this
        simp only [Bool.and_eq_true, Bool.not_eq_true'] at hd
        rw [sAt, sStep, hn]
        refine Nat.le_trans (Nat.succ_le_succ q) (cnt_strict (fun k hk => ?_) hd.1 ?_ P.1 hi)
        · simp [sNext, hk]
        · simp [sNext, nd_self]
theorem sAt_lt {P : PC} {g : Nat → Nat → Bool} {L : List (List Nat)} {D0 : Nat → Bool} {n i : Nat} (hP : okP P) (h : nxt P g L (sAt P g L D0 n).1 = some i) : n < 16 := by
  have h16 := hP.1
  rcases sAt_prog P g L D0 n with q | q
  · rw [h] at q; simp at q
  · have sp := nxt_spec (P := P) (g := g) (L := L) (D := (sAt P g L D0 n).1)
    rw [h] at sp
    obtain ⟨-, hi, hd, -⟩ := sp
    simp only [Bool.and_eq_true, Bool.not_eq_true'] at hd
    have c := cnt_le (sAt P g L D0 n).1 P.1
    rcases Nat.lt_or_ge (cnt (sAt P g L D0 n).1 P.1) P.1 with r | r
    · omega
    · have := cnt_full P.1 r i hi
      rw [hd.1] at this
      exact absurd this (by simp)
theorem sAt_stay {P : PC} {g : Nat → Nat → Bool} {L : List (List Nat)} {D0 : Nat → Bool} {n : Nat} (h : nxt P g L (sAt P g L D0 n).1 = none) : ∀ m, sAt P g L D0 (n + m) = sAt P g L D0 n
  | 0 => rfl
  | m + 1 => by
    have ih := sAt_stay h m
    show sStep P g L (sAt P g L D0 (n + m)) = _
    rw [ih, sStep, h]
    rfl
theorem sAt_fin {P : PC} {g : Nat → Nat → Bool} {L : List (List Nat)} {D0 : Nat → Bool} {n : Nat} (hn : n ≤ 16) (h : nxt P g L (sAt P g L D0 n).1 = none) : sAt P g L D0 n = sFin P g L D0 := by
  have := sAt_stay h (16 - n)
  rw [show n + (16 - n) = 16 by omega] at this
  exact this.symm
theorem sFin_none {P : PC} {g : Nat → Nat → Bool} {L : List (List Nat)} {D0 : Nat → Bool} (hP : okP P) : nxt P g L (sFin P g L D0).1 = none := by
  cases h : nxt P g L (sFin P g L D0).1 with
  | none => rfl
  | some i => exact absurd (sAt_lt hP h) (by omega)
theorem rdy_mono {P : PC} {g : Nat → Nat → Bool} {L : List (List Nat)} {D E : Nat → Bool} (h : ∀ k, k < P.1 → D k = true → E k = true) {i : Nat} (hr : rdy P g L D i = true) : rdy P g L E i = true := by
  unfold rdy at hr ⊢
  rw [allB_iff] at hr ⊢
  intro j hj
  have a := hr j hj
  cases c : nd L i j with
  | false => rfl
  | true =>
    rw [c] at a
    simp only [Bool.not_true, Bool.false_or] at a ⊢
    rw [allB_iff] at a ⊢
    intro k hk
    have b := a k hk
    cases c1 : g k j with
    | false => rfl
    | true =>
      cases c2 : nd L i k with
      | true => simp
      | false =>
        rw [c1, c2] at b
        simp at b
        simp [h k hk b]
/-- what is closed under readiness holds all that the schedule ever holds -/
theorem sAt_sub {P : PC} {g : Nat → Nat → Bool} {L : List (List Nat)} {D0 E : Nat → Bool} (h0 : ∀ k, k < P.1 → D0 k = true → E k = true) (hE : ∀ i, i < P.1 → rdy P g L E i = true → ∀ j, j < P.1 → nd L i j = true → E j = true) : ∀ n k, k < P.1 → (sAt P g L D0 n).1 k = true → E k = true
  | 0, k, hk, h => h0 k hk h
  | n + 1, k, hk, h => by
    have ih := sAt_sub h0 hE n
    rw [sAt, sStep] at h
    cases hn : nxt P g L (sAt P g L D0 n).1 with
    | none =>
      rw [hn] at h
      exact ih k hk h
    | some i =>
      rw [hn] at h
      have sp := nxt_spec (P := P) (g := g) (L := L) (D := (sAt P g L D0 n).1)
      rw [hn] at sp
      obtain ⟨-, hi, hd, -⟩ := sp
      simp only [Bool.and_eq_true, Bool.not_eq_true'] at hd
      simp only [sNext, Bool.or_eq_true] at h
      rcases h with h | h
      · exact ih k hk h
      · exact hE i hi (rdy_mono ih hd.2) k hk h
theorem sFin_clo {P : PC} {g : Nat → Nat → Bool} {L : List (List Nat)} {D0 : Nat → Bool} (hP : okP P) (hnd : ∀ n i j, (sAt P g L D0 n).1 i = true → nd L i j = true → (sAt P g L D0 n).1 j = true) : ∀ i, i < P.1 → rdy P g L (sFin P g L D0).1 i = true → ∀ j, j < P.1 → nd L i j = true → (sFin P g L D0).1 j = true := by
  intro i hi hr j hj hij
  have sp := nxt_spec (P := P) (g := g) (L := L) (D := (sFin P g L D0).1)
  rw [sFin_none hP] at sp
  have := sp i (Nat.zero_le _) hi
  simp only [hr, Bool.and_true, Bool.not_eq_false'] at this
  exact hnd 16 i j this hij
