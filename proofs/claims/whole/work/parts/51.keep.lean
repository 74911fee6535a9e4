/-- no instruction of a tree is kept or omitted before -/
theorem tAt_free {P : PC} {f : Nat → Nat → Bool} {out kp : Nat → Bool} {w : Nat} {r : List Nat} (hP : okP P) (hw : w = 2 ∨ w = 4) (hr : wfP P w r) (hs : ∀ k, k < w → pK P (ln r k) = 6 ∧ kp (ln r k) = false ∧ out (ln r k) = false) (hn : r.Nodup) (ho : ∀ i, i < P.1 → out i = true → pK P i = 6) : ∀ n x, x ∈ (tAt P (pDep f) kp w r n).1.flatten → kp x = false ∧ out x = false
  | 0, x, hx => by
    have hx : x ∈ r := by simpa [tAt, tIni] using hx
    obtain ⟨k, hk, rfl⟩ := (mem_ln (wfP_B hP hr)).mp hx
    exact (hs k hk).2
  | n + 1, x, hx => by
    have ih := tAt_free (f := f) hP hw hr hs hn ho n
    have ok := tAt_ok (f := f) (kp := kp) hP hw hr (fun k hk => (hs k hk).1) hn n
    rw [tAt] at hx
    split at hx
    · next hlt =>
      have hB := ok.2.2.1 _ (getD_mem hlt)
      generalize (tAt P (pDep f) kp w r n).2.1.getD n [] = B at hB hx
      unfold tStep at hx
      split at hx
      · next hc =>
        rw [Bool.and_eq_true] at hc
        have hx : x ∈ ((tAt P (pDep f) kp w r n).1 ++ [B]).flatten := hx
        rw [List.flatten_append, List.mem_append] at hx
        rcases hx with hx | hx
        · exact ih x hx
        · have hx : x ∈ B := by simpa using hx
          obtain ⟨k, hk, rfl⟩ := (mem_ln (wfP_B hP hB.1)).mp hx
          have := hc.2
          unfold bFree at this
          rw [allB_iff] at this
          have := this k hk
          simp only [Bool.and_eq_true, Bool.not_eq_true'] at this
          refine ⟨this.1, ?_⟩
          cases e : out (ln B k) with
          | false => rfl
          | true => exact absurd (ho _ (wfP_ln hB.1 hk) e) (hB.2 k hk)
      · split at hx
        · exact ih x hx
        · exact ih x hx
    · exact ih x hx
/-! what is kept: packs, trees, gains -/
abbrev CS : Type := List (List Nat) × Nat × Int32
def kpf (K : List (List Nat)) (i : Nat) : Bool := K.flatten.contains i
def cTree (P : PC) (f : Nat → Nat → Bool) (out : Nat → Bool) (w : Nat) (K : List (List Nat)) (r c : Nat) : TS := tEnd P (pDep f) (kpf K) w (rtB P out (kpf K) w r c)
def cStep (P : PC) (f : Nat → Nat → Bool) (out : Nat → Bool) (w : Nat) (C : CS) (r c : Nat) : CS :=
  if rtOk P (pDep f) out (kpf C.1) w r c then
    if 0 < pGain P out (kpf C.1) w (cTree P f out w C.1 r c) ∧ sOk P (gF f) (C.1 ++ (cTree P f out w C.1 r c).1) (fun _ => false) = true then
      (C.1 ++ (cTree P f out w C.1 r c).1, C.2.1 + 1, C.2.2 + pGain P out (kpf C.1) w (cTree P f out w C.1 r c))
    else C
  else C
def cAt (P : PC) (f : Nat → Nat → Bool) (out : Nat → Bool) (w : Nat) : Nat → CS
  | 0 => ([], 0, 0)
  | n + 1 => cStep P f out w (cAt P f out w n) (n / (9 - w)) (n % (9 - w))
def okC (P : PC) (out : Nat → Bool) (w : Nat) (K : List (List Nat)) : Prop := (∀ B, B ∈ K → wfP P w B) ∧ K.flatten.Nodup ∧ ∀ x, x ∈ K.flatten → out x = false
theorem okC_8 {P : PC} {out : Nat → Bool} {w : Nat} {K : List (List Nat)} (hP : okP P) (hw : w = 2 ∨ w = 4) (h : okC P out w K) : K.length ≤ 8 := by
  have a := flen K fun B hB => (h.1 B hB).1
  have lt : ∀ x, x ∈ K.flatten → x < 16 := by
    intro x hx
    obtain ⟨B, hB, hx⟩ := List.mem_flatten.mp hx
    exact Nat.lt_of_lt_of_le ((h.1 B hB).2 x hx) hP.1
  have b := (dif_nd _ lt).mpr h.2.1
  have c : dif K.flatten ≤ 16 := cnt_le _ 16
  rcases hw with rfl | rfl <;> omega
theorem rt_nd {P : PC} {f : Nat → Nat → Bool} {out kp : Nat → Bool} {w r c : Nat} (hP : okP P) (h : rtOk P (pDep f) out kp w r c = true) : wfP P w (rtB P out kp w r c) ∧ (∀ k, k < w → pK P (ln (rtB P out kp w r c) k) = 6 ∧ kp (ln (rtB P out kp w r c) k) = false ∧ out (ln (rtB P out kp w r c) k) = false) ∧ (rtB P out kp w r c).Nodup := by
  unfold rtOk at h
  rw [Bool.and_eq_true] at h
  have a := rt_wf h.1
  exact ⟨a.1, a.2, pPk_nd hP a.1 h.2⟩
theorem cTree_ok {P : PC} {f : Nat → Nat → Bool} {out : Nat → Bool} {w r c : Nat} {K : List (List Nat)} (hP : okP P) (hw : w = 2 ∨ w = 4) (ho : ∀ i, i < P.1 → out i = true → pK P i = 6) (h : rtOk P (pDep f) out (kpf K) w r c = true) : okT P w (cTree P f out w K r c) 16 ∧ ∀ x, x ∈ (cTree P f out w K r c).1.flatten → kpf K x = false ∧ out x = false := by
  obtain ⟨a1, a2, a3⟩ := rt_nd hP h
  unfold cTree tEnd
  generalize (16 : Nat) = n
  exact ⟨tAt_ok hP hw a1 (fun k hk => (a2 k hk).1) a3 n, tAt_free (f := f) hP hw a1 a2 a3 ho n⟩
theorem cStep_ok {P : PC} {f : Nat → Nat → Bool} {out : Nat → Bool} {w r c : Nat} {K : List (List Nat)} (hP : okP P) (hw : w = 2 ∨ w = 4) (ho : ∀ i, i < P.1 → out i = true → pK P i = 6) (h : rtOk P (pDep f) out (kpf K) w r c = true) (hK : okC P out w K) : okC P out w (K ++ (cTree P f out w K r c).1) := by
  obtain ⟨a, b⟩ := cTree_ok hP hw ho h
  refine ⟨fun B hB => ?_, ?_, fun x hx => ?_⟩
  · rcases List.mem_append.mp hB with q | q
    · exact hK.1 B q
    · exact a.1 B q
  · rw [List.flatten_append, List.nodup_append]
    refine ⟨hK.2.1, a.2.1, fun x hx y hy e => ?_⟩
    subst e
    have := (b x hy).1
    unfold kpf at this
    rw [show K.flatten.contains x = true by simpa using hx] at this
    exact absurd this (by simp)
  · rw [List.flatten_append, List.mem_append] at hx
    rcases hx with q | q
    · exact hK.2.2 x q
    · exact (b x q).2
theorem cAt_ok {P : PC} {f : Nat → Nat → Bool} {out : Nat → Bool} {w : Nat} (hP : okP P) (hw : w = 2 ∨ w = 4) (ho : ∀ i, i < P.1 → out i = true → pK P i = 6) : ∀ n, okC P out w (cAt P f out w n).1 ∧ sOk P (gF f) (cAt P f out w n).1 (fun _ => false) = true
  | 0 => ⟨⟨by simp [cAt], by simp [cAt], by simp [cAt]⟩, sOk_nil hP (fun k j h => by unfold gF at h; simp only [Bool.and_eq_true, decide_eq_true_eq] at h; exact h.1) _⟩
  | n + 1 => by
    have ih := cAt_ok (f := f) hP hw ho n
    rw [cAt, cStep]
    split
    · next h1 =>
      split
      · next h2 => exact ⟨cStep_ok hP hw ho h1 ih.1, h2.2⟩
      · exact ih
    · exact ih
