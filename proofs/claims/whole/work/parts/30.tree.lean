def tab (v : Nat → Nat) (n : Nat) : List Nat := (List.range n).map v
theorem tab_s (v : Nat → Nat) (n : Nat) : tab v (n + 1) = tab v n ++ [v n] := by simp [tab, List.range_succ]
theorem tab_len (v : Nat → Nat) (n : Nat) : (tab v n).length = n := by simp [tab]
theorem tab_ln (v : Nat → Nat) {n k : Nat} (hk : k < n) : ln (tab v n) k = v k := by
  unfold ln tab
  rw [List.getD_eq_getElem?_getD, List.getElem?_map, List.getElem?_range hk]
  rfl
theorem tab_mem {v : Nat → Nat} {n x : Nat} (h : x ∈ tab v n) : ∃ k, k < n ∧ v k = x := by
  unfold tab at h
  simpa using h
/-! the growing of a tree: packs, the bundles that wait, what is taken one by one, cost -/
abbrev TS : Type := List (List Nat) × List (List Nat) × List Nat × Nat
def pTurn (P : PC) (B : List Nat) (k : Nat) : Bool := decide (0 < k) && (decide (pK P (ln B 0) = 2) || decide (pK P (ln B 0) = 4)) && decide (pK P (pa P (ln B k)) ≠ pK P (pa P (ln B 0))) && decide (pK P (pb P (ln B k)) = pK P (pa P (ln B 0)))
def vL (P : PC) (B : List Nat) (k : Nat) : Nat := if pTurn P B k then pb P (ln B k) else pa P (ln B k)
def vR (P : PC) (B : List Nat) (k : Nat) : Nat := if pTurn P B k then pa P (ln B k) else pb P (ln B k)
def vS (P : PC) (B : List Nat) (k : Nat) : Nat := pc P (ln B k)
def bSame (w : Nat) (B : List Nat) : Bool := allB (fun k => decide (ln B k = ln B 0)) w
def bCon (P : PC) (w : Nat) (B : List Nat) : Bool := allB (fun k => decide (pK P (ln B k) = 1)) w
def bCost (P : PC) (w : Nat) (B : List Nat) : Nat := if bSame w B || bCon P w B then 1 else w
def bFree (kp : Nat → Bool) (T : TS) (w : Nat) (B : List Nat) : Bool := allB (fun k => !kp (ln B k) && !T.1.flatten.contains (ln B k)) w
def tStep (P : PC) (d : Nat → Nat → Bool) (kp : Nat → Bool) (w : Nat) (T : TS) (B : List Nat) : TS :=
  if pPk P d w B && bFree kp T w B then (T.1 ++ [B], if pK P (ln B 0) = 0 then T.2.1 else T.2.1 ++ [tab (vL P B) w, tab (vR P B) w], T.2.2.1, T.2.2.2)
  else if T.1.contains B then T else (T.1, T.2.1, T.2.2.1 ++ B, T.2.2.2 + bCost P w B)
def tIni (P : PC) (w : Nat) (r : List Nat) : TS := ([r], [tab (vS P r) w], [], 0)
def tAt (P : PC) (d : Nat → Nat → Bool) (kp : Nat → Bool) (w : Nat) (r : List Nat) : Nat → TS
  | 0 => tIni P w r
  | n + 1 => if n < (tAt P d kp w r n).2.1.length then tStep P d kp w (tAt P d kp w r n) ((tAt P d kp w r n).2.1.getD n []) else tAt P d kp w r n
/-- what holds of every tree that grows -/
def okT (P : PC) (w : Nat) (T : TS) (n : Nat) : Prop := (∀ B, B ∈ T.1 → wfP P w B) ∧ T.1.flatten.Nodup ∧ (∀ B, B ∈ T.2.1 → wfP P w B ∧ ∀ k, k < w → pK P (ln B k) ≠ 6) ∧ T.2.1.length < 2 * T.1.length ∧ T.2.2.2 ≤ 4 * n ∧ ∀ x, x ∈ T.2.2.1 → x < P.1
theorem wfP_mk {P : PC} {w : Nat} {v : Nat → Nat} (h : ∀ k, k < w → v k < P.1) : wfP P w (tab v w) := ⟨tab_len v w, fun x hx => by
  obtain ⟨k, hk, rfl⟩ := tab_mem hx
  exact h k hk⟩
theorem flen {w : Nat} : ∀ L : List (List Nat), (∀ B, B ∈ L → B.length = w) → L.flatten.length = L.length * w
  | [], _ => by simp
  | B :: t, h => by
    rw [List.flatten_cons, List.length_append, flen t fun C hC => h C (List.mem_cons_of_mem _ hC), h B List.mem_cons_self, List.length_cons, Nat.add_mul]
    omega
theorem okT_8 {P : PC} {w n : Nat} {T : TS} (hP : okP P) (hw : w = 2 ∨ w = 4) (h : okT P w T n) : T.1.length ≤ 8 ∧ T.2.1.length ≤ 15 := by
  have a := flen T.1 fun B hB => (h.1 B hB).1
  have lt : ∀ x, x ∈ T.1.flatten → x < 16 := by
    intro x hx
    obtain ⟨B, hB, hx⟩ := List.mem_flatten.mp hx
    exact Nat.lt_of_lt_of_le ((h.1 B hB).2 x hx) hP.1
  have b := (dif_nd _ lt).mpr h.2.1
  have c : dif T.1.flatten ≤ 16 := cnt_le _ 16
  have e : T.1.length ≤ 8 := by
    rcases hw with rfl | rfl <;> omega
  exact ⟨e, by have := h.2.2.2.1; omega⟩
theorem pPk_nd {P : PC} {f : Nat → Nat → Bool} {w : Nat} {B : List Nat} (hP : okP P) (hB : wfP P w B) (h : pPk P (pDep f) w B = true) : B.Nodup := by
  rw [qPk (pDep_xx f) hB.1 fun x hx => (wfP_B hP hB).2 x hx] at h
  simp only [Bool.and_eq_true, decide_eq_true_eq] at h
  rw [← dif_nd B (wfP_B hP hB).2, hB.1]
  exact h.2.1
theorem opLR {P : PC} (hP : okP P) {i : Nat} (hi : i < P.1) (h : 2 ≤ pK P i ∧ pK P i ≤ 5) : pa P i < P.1 ∧ pb P i < P.1 ∧ pK P (pa P i) ≠ 6 ∧ pK P (pb P i) ≠ 6 := by
  have := (hP.2 i hi).2.2.2.1 h.1 h.2
  exact ⟨by omega, by omega, this.1.2, this.2.2⟩
theorem opS {P : PC} (hP : okP P) {i : Nat} (hi : i < P.1) (h : pK P i = 6) : pc P i < P.1 ∧ pK P (pc P i) ≠ 6 := by
  have := (hP.2 i hi).2.2.2.2 h
  exact ⟨by omega, this.2.2.2⟩
/-- the kinds of a pack of values that is no pack of loads -/
theorem pPk_bin {P : PC} {f : Nat → Nat → Bool} {w : Nat} {B : List Nat} (hP : okP P) (hB : wfP P w B) (h : pPk P (pDep f) w B = true) (hv : ∀ k, k < w → pK P (ln B k) ≠ 6) (h0 : pK P (ln B 0) ≠ 0) {k : Nat} (hk : k < w) : pK P (ln B k) = pK P (ln B 0) ∧ 2 ≤ pK P (ln B k) ∧ pK P (ln B k) ≤ 5 := by
  unfold pPk pHd at h
  simp only [Bool.and_eq_true, allB_iff, pLn, decide_eq_true_eq] at h
  have e := (h.2 k hk).1.1
  have v := hv k hk
  have l := (hP.2 _ (wfP_ln hB hk)).1
  refine ⟨e, ?_, ?_⟩
  · have := h.1.1
    simp at this
    omega
  · omega
theorem tStep_ok {P : PC} {f : Nat → Nat → Bool} {kp : Nat → Bool} {w n : Nat} {T : TS} {B : List Nat} (hP : okP P) (hw : w = 2 ∨ w = 4) (h : okT P w T n) (hB : wfP P w B) (hv : ∀ k, k < w → pK P (ln B k) ≠ 6) : okT P w (tStep P (pDep f) kp w T B) (n + 1) := by
  obtain ⟨a1, a2, a3, a4, a5, a6⟩ := h
  unfold tStep
  split
  · next hc =>
    simp only [Bool.and_eq_true] at hc
    obtain ⟨hp, hf⟩ := hc
    refine ⟨?_, ?_, ?_, ?_, ?_, a6⟩
    · intro C hC
      rcases List.mem_append.mp hC with q | q
      · exact a1 C q
      · rw [List.mem_singleton.mp q]; exact hB
    · rw [List.flatten_append, List.nodup_append]
      refine ⟨a2, by simpa using pPk_nd hP hB hp, ?_⟩
      intro x hx y hy e
      subst e
      unfold bFree at hf
      rw [allB_iff] at hf
      simp at hy
      obtain ⟨k, hk, rfl⟩ := (mem_ln (wfP_B hP hB)).mp hy
      have := hf k hk
      simp only [Bool.and_eq_true, Bool.not_eq_true', List.contains_eq_mem, decide_eq_false_iff_not] at this
      exact this.2 hx
    · intro C hC
      split at hC
      · exact a3 C hC
      · next h0 =>
        rcases List.mem_append.mp hC with q | q
        · exact a3 C q
        · have key := fun {k : Nat} (hk : k < w) => opLR hP (wfP_ln hB hk) (pPk_bin hP hB hp hv h0 hk).2
          simp only [List.mem_cons, List.not_mem_nil, or_false] at q
          rcases q with rfl | rfl
          · refine ⟨wfP_mk fun k hk => ?_, fun k hk => ?_⟩
            · unfold vL; split
              · exact (key hk).2.1
              · exact (key hk).1
            · rw [tab_ln _ hk]; unfold vL; split
              · exact (key hk).2.2.2
              · exact (key hk).2.2.1
          · refine ⟨wfP_mk fun k hk => ?_, fun k hk => ?_⟩
            · unfold vR; split
              · exact (key hk).1
              · exact (key hk).2.1
            · rw [tab_ln _ hk]; unfold vR; split
              · exact (key hk).2.2.1
              · exact (key hk).2.2.2
    · simp only [List.length_append, List.length_singleton]
      split
      · omega
      · simp only [List.length_append, List.length_cons, List.length_nil]
        omega
    · show T.2.2.2 ≤ _
      omega
  · split
    · exact ⟨a1, a2, a3, a4, by omega, a6⟩
    · refine ⟨a1, a2, a3, a4, ?_, ?_⟩
      · show T.2.2.2 + bCost P w B ≤ _
        unfold bCost
        split <;> omega
      · intro x hx
        rcases List.mem_append.mp hx with q | q
        · exact a6 x q
        · exact hB.2 x q
theorem getD_mem {L : List (List Nat)} {n : Nat} (h : n < L.length) : L.getD n [] ∈ L := by
  rw [List.getD_eq_getElem?_getD, List.getElem?_eq_getElem h]
  exact List.getElem_mem _
theorem tAt_ok {P : PC} {f : Nat → Nat → Bool} {kp : Nat → Bool} {w : Nat} {r : List Nat} (hP : okP P) (hw : w = 2 ∨ w = 4) (hr : wfP P w r) (hs : ∀ k, k < w → pK P (ln r k) = 6) (hn : r.Nodup) : ∀ n, okT P w (tAt P (pDep f) kp w r n) n
  | 0 => by
    unfold tAt tIni
    refine ⟨?_, by simpa using hn, ?_, by simp, by simp, by simp⟩
    · intro B hB
      rw [List.mem_singleton.mp hB]; exact hr
    · intro B hB
      rw [List.mem_singleton.mp hB]
      refine ⟨wfP_mk fun k hk => (opS hP (wfP_ln hr hk) (hs k hk)).1, fun k hk => ?_⟩
      rw [tab_ln _ hk]
      exact (opS hP (wfP_ln hr hk) (hs k hk)).2
  | n + 1 => by
    have ih := tAt_ok (f := f) (kp := kp) hP hw hr hs hn n
    rw [tAt]
    split
    · next hlt =>
      have := ih.2.2.1 _ (getD_mem hlt)
      exact tStep_ok hP hw ih this.1 this.2
    · obtain ⟨a1, a2, a3, a4, a5, a6⟩ := ih
      exact ⟨a1, a2, a3, a4, by omega, a6⟩
theorem tAt_end {P : PC} {d : Nat → Nat → Bool} {kp : Nat → Bool} {w : Nat} {r : List Nat} {n : Nat} (h : (tAt P d kp w r n).2.1.length ≤ n) : ∀ m, tAt P d kp w r (n + m) = tAt P d kp w r n
  | 0 => rfl
  | m + 1 => by
    have ih := tAt_end h m
    show (if n + m < (tAt P d kp w r (n + m)).2.1.length then _ else tAt P d kp w r (n + m)) = _
    rw [if_neg (by rw [ih]; omega), ih]
/-- the tree in the end -/
def tEnd (P : PC) (d : Nat → Nat → Bool) (kp : Nat → Bool) (w : Nat) (r : List Nat) : TS := tAt P d kp w r 16
theorem tAt_16 {P : PC} {d : Nat → Nat → Bool} {kp : Nat → Bool} {w : Nat} {r : List Nat} {n : Nat} (h : (tAt P d kp w r n).2.1.length ≤ n) (hn : n ≤ 16) : tAt P d kp w r n = tEnd P d kp w r := by
  have := tAt_end h (16 - n)
  rw [show n + (16 - n) = 16 by omega] at this
  exact this.symm
