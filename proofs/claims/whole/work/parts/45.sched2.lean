theorem nd_iff {L : List (List Nat)} {i j : Nat} : nd L i j = true ↔ i = j ∨ ∃ B, B ∈ L ∧ i ∈ B ∧ j ∈ B := by
  unfold nd
  rw [Bool.or_eq_true, decide_eq_true_eq, List.any_eq_true]
  simp only [Bool.and_eq_true, List.contains_iff_mem]
theorem flat_one {L : List (List Nat)} (h : L.flatten.Nodup) : ∀ B C, B ∈ L → C ∈ L → ∀ x, x ∈ B → x ∈ C → B = C := by
  induction L with
  | nil => intro B C hB; simp at hB
  | cons A t ih =>
    rw [List.flatten_cons, List.nodup_append] at h
    intro B C hB hC x hx hy
    rcases List.mem_cons.mp hB with r | r
    · rcases List.mem_cons.mp hC with q | q
      · rw [r, q]
      · exact absurd rfl (h.2.2 x (by rw [← r]; exact hx) x (List.mem_flatten.mpr ⟨C, q, hy⟩))
    · rcases List.mem_cons.mp hC with q | q
      · exact absurd rfl (h.2.2 x (by rw [← q]; exact hy) x (List.mem_flatten.mpr ⟨B, r, hx⟩))
      · exact ih h.2.1 B C r q x hx hy
theorem nd_symm {L : List (List Nat)} {i j : Nat} (h : nd L i j = true) : nd L j i = true := by
  rw [nd_iff] at h ⊢
  rcases h with h | ⟨B, h1, h2, h3⟩
  · exact Or.inl h.symm
  · exact Or.inr ⟨B, h1, h3, h2⟩
theorem nd_trans {L : List (List Nat)} (hL : L.flatten.Nodup) {i j k : Nat} (h : nd L i j = true) (h2 : nd L j k = true) : nd L i k = true := by
  rw [nd_iff] at h h2 ⊢
  rcases h with rfl | ⟨B, b1, b2, b3⟩
  · exact h2
  · rcases h2 with rfl | ⟨C, c1, c2, c3⟩
    · exact Or.inr ⟨B, b1, b2, b3⟩
    · have := flat_one hL B C b1 c1 j b3 c2
      subst this
      exact Or.inr ⟨B, b1, b2, c3⟩
theorem sAt_nd {P : PC} {g : Nat → Nat → Bool} {L : List (List Nat)} {D0 : Nat → Bool} (hL : L.flatten.Nodup) (h0 : ∀ i j, D0 i = true → nd L i j = true → D0 j = true) : ∀ n i j, (sAt P g L D0 n).1 i = true → nd L i j = true → (sAt P g L D0 n).1 j = true
  | 0, i, j, h, q => h0 i j h q
  | n + 1, i, j, h, q => by
    have ih := sAt_nd (P := P) (g := g) hL h0 n
    rw [sAt, sStep] at h ⊢
    cases hn : nxt P g L (sAt P g L D0 n).1 with
    | none =>
      rw [hn] at h
      exact ih i j h q
    | some m =>
      rw [hn] at h
      simp only [sNext, Bool.or_eq_true] at h ⊢
      rcases h with h | h
      · exact Or.inl (ih i j h q)
      · exact Or.inr (nd_trans hL h q)
/-- what is omitted does not matter for whether all can be set in order -/
theorem sOk_eq {P : PC} {g : Nat → Nat → Bool} {L : List (List Nat)} {out : Nat → Bool} (hP : okP P) (hL : L.flatten.Nodup) (ho : ∀ i, out i = true → L.flatten.contains i = false) (hg : ∀ k j, g k j = true → out k = false ∧ out j = false) : sOk P g L out = sOk P g L (fun _ => false) := by
  have o1 : ∀ i j, out i = true → nd L i j = true → i = j := by
    intro i j h q
    rw [nd_iff] at q
    rcases q with q | ⟨B, b1, b2, b3⟩
    · exact q
    · have := ho i h
      rw [show L.flatten.contains i = true by rw [List.contains_iff_mem]; exact List.mem_flatten.mpr ⟨B, b1, b2⟩] at this
      exact absurd this (by simp)
  have c1 := sFin_clo (P := P) (g := g) (L := L) (D0 := out) hP (sAt_nd hL fun i j h q => by rw [← o1 i j h q]; exact h)
  have c2 := sFin_clo (P := P) (g := g) (L := L) (D0 := fun _ => false) hP (sAt_nd hL fun i j h _ => absurd h (by simp))
  have s1 : ∀ k, k < P.1 → (sFin P g L (fun _ => false)).1 k = true → (sFin P g L out).1 k = true := fun k hk h => sAt_sub (fun k _ h => absurd h (by simp)) c1 16 k hk h
  have s2 : ∀ k, k < P.1 → (sFin P g L out).1 k = true → (sFin P g L (fun _ => false)).1 k = true := fun k hk h => sAt_sub (fun k hk h => by
    refine c2 k hk ?_ k hk (nd_self L k)
    unfold rdy
    rw [allB_iff]
    intro j hj
    cases c : nd L k j with
    | false => rfl
    | true =>
      have e := o1 k j h c
      subst e
      simp only [Bool.not_true, Bool.false_or]
      rw [allB_iff]
      intro m hm
      cases c3 : g m k with
      | false => rfl
      | true =>
        have := (hg m k c3).2
        rw [h] at this
        exact absurd this (by simp)) c2 16 k hk h
  unfold sOk
  rw [Bool.eq_iff_iff, allB_iff, allB_iff]
  exact ⟨fun h k hk => s2 k hk (h k hk), fun h k hk => s1 k hk (h k hk)⟩
/-- with nothing packed, all can be set in order -/
theorem sOk_nil {P : PC} {g : Nat → Nat → Bool} (hP : okP P) (hg : ∀ k j, g k j = true → k < j) (D0 : Nat → Bool) : sOk P g [] D0 = true := by
  unfold sOk
  rw [allB_iff]
  have sp := nxt_spec (P := P) (g := g) (L := []) (D := (sFin P g [] D0).1)
  rw [sFin_none hP] at sp
  intro k
  induction k using Nat.strongRecOn with
  | ind k ih =>
    intro hk
    have := sp k (Nat.zero_le _) hk
    cases c : (sFin P g [] D0).1 k with
    | true => rfl
    | false =>
      simp only [c] at this
      simp only [Bool.not_false, Bool.true_and] at this
      have r : rdy P g [] (sFin P g [] D0).1 k = true := by
        unfold rdy
        rw [allB_iff]
        intro j hj
        cases c2 : nd [] k j with
        | false => rfl
        | true =>
          have e : k = j := by
            rw [nd_iff] at c2
            rcases c2 with c2 | ⟨B, b, _⟩
            · exact c2
            · simp at b
          subst e
          simp only [Bool.not_true, Bool.false_or]
          rw [allB_iff]
          intro m hm
          cases c3 : g m k with
          | false => rfl
          | true => rw [ih m (hg m k c3) hm]; rfl
      rw [r] at this
      exact absurd this (by simp)
def gF (f : Nat → Nat → Bool) (k j : Nat) : Bool := decide (k < j) && f k j
/-! masks -/
theorem all_mask {n : Nat} (hn : n ≤ 16) : (1 : Int32) <<< (nI n &&& 31) - 1 = nI (2 ^ n - 1) := by
  rw [bit_nI (by omega), show (1 : Int32) = nI 1 from rfl, nI_sub (Nat.one_le_two_pow)]
theorem all_bit (n : Nat) {k : Nat} (hk : k < 32) : bt (nI (2 ^ n - 1)) k = decide (k < n) := by
  rw [bt_nI, Nat.testBit_two_pow_sub_one]
  simp [hk]
/-- a mask that holds a set -/
def mk (x : Int32) (D : Nat → Bool) : Prop := ∀ k, k < 32 → bt x k = D k
theorem mk_all {x : Int32} {D : Nat → Bool} {n : Nat} (hx : mk x D) (hD : ∀ k, D k = true → k < n) (hn : n ≤ 16) : (x = nI (2 ^ n - 1)) = (allB D n = true) := by
  rw [allB_iff]
  apply propext
  constructor
  · intro h k hk
    have := hx k (by omega)
    rw [h, all_bit n (by omega), decide_eq_true hk] at this
    exact this.symm
  · intro h
    apply b_ext
    intro k hk
    rw [hx k hk, all_bit n hk]
    by_cases c : k < n
    · rw [h k c, decide_eq_true c]
    · rw [decide_eq_false c]
      cases e : D k with
      | false => rfl
      | true => exact absurd (hD k e) c
