/-! copying between rows of numbers -/
def cpS (s : MS) (r q sp dp N : Nat) : MS := (fun a b => if a = q ∧ dp ≤ b ∧ b < dp + N then s.1 r (sp + (b - dp)) else s.1 a b, s.2)
theorem mkvs_len (s : MS) (r : Nat) : ∀ (ds : List Nat) (k0 : Nat), (mkvs s r k0 ds).length = ds.length
  | [], _ => rfl
  | _ :: t, k0 => by simp [mkvs, mkvs_len s r t (k0 + 1)]
theorem arr_cell {r n : Nat} (h : arr r n) : ∃ ds, shT[r - 2]? = some (20, ds) ∧ ds.length = n ∧ ∀ k, k < n → ds[k]? = some 0 := by
  obtain ⟨h2, hs, hd⟩ := h
  unfold sk at hs
  obtain ⟨⟨a, ds⟩, h1, h3⟩ := Option.map_eq_some_iff.mp hs
  have h3 : a = 20 := h3
  subst h3
  have hd2 : ∀ k, ds[k]? = if k < n then some 0 else none := fun k => by
    have := hd k
    unfold sd at this
    rw [h1] at this
    exact this
  refine ⟨ds, h1, ?_, fun k hk => by rw [hd2, if_pos hk]⟩
  rcases Nat.lt_trichotomy ds.length n with q | q | q
  · have := hd2 ds.length
    rw [if_pos q, List.getElem?_eq_none (Nat.le_refl _)] at this
    exact absurd this (by simp)
  · exact q
  · have := hd2 n
    rw [if_neg (Nat.lt_irrefl n), List.getElem?_eq_getElem q] at this
    exact absurd this (by simp)
theorem arr_src {scr : List Int32} {s : MS} {r n : Nat} (h : arr r n) : ∃ vs : List Value, (hp scr s)[r]? = some (20, vs) ∧ vs.length = n ∧ ∀ k, k < n → vs[k]? = some (.int (s.1 r k)) := by
  obtain ⟨ds, h1, h2, h3⟩ := arr_cell h
  obtain ⟨q, rfl⟩ : ∃ q, r = q + 2 := ⟨r - 2, by have := h.1; omega⟩
  rw [Nat.add_sub_cancel] at h1
  refine ⟨mkvs s (q + 2) 0 ds, by rw [hp_get, h1]; rfl, by rw [mkvs_len, h2], fun k hk => ?_⟩
  rw [mkvs_get, h3 k hk, Nat.zero_add]
  rfl
theorem cp_hp {scr : List Int32} {s : MS} {r q n m sp dp N : Nat} {src dst : List Value} (h : arr r n) (g : arr q m) (h1 : sp + N ≤ n) (h2 : dp + N ≤ m) (e1 : (hp scr s)[r]? = some (20, src)) (e2 : (hp scr s)[q]? = some (20, dst)) : (hp scr s).set q (20, cpyL src dst sp dp N) = hp scr (cpS s r q sp dp N) := by
  obtain ⟨src', a1, a2, a3⟩ := arr_src (scr := scr) (s := s) h
  obtain ⟨dst', b1, b2, b3⟩ := arr_src (scr := scr) (s := s) g
  obtain ⟨res, c1, c2, c3⟩ := arr_src (scr := scr) (s := cpS s r q sp dp N) g
  rw [e1] at a1
  rw [e2] at b1
  cases a1
  cases b1
  have hq := g.1
  apply List.ext_getElem?
  intro j
  rw [List.getElem?_set]
  by_cases e : q = j
  · subst e
    rw [if_pos rfl, if_pos (List.getElem?_eq_some_iff.mp e2).1, c1]
    congr 2
    apply List.ext_getElem?
    intro k
    rcases Nat.lt_or_ge k m with hk | hk
    · rw [c3 k hk]
      unfold cpyL
      rw [List.getElem?_map, List.getElem?_range (by omega)]
      show some _ = some _
      congr 1
      unfold cpS
      simp only [true_and]
      split
      · rw [List.getD_eq_getElem?_getD, a3 _ (by omega)]; rfl
      · rw [List.getD_eq_getElem?_getD, b3 _ hk]; rfl
    · rw [List.getElem?_eq_none (l := res) (by rw [c2]; exact hk), List.getElem?_eq_none]
      unfold cpyL
      simp
      omega
  · rw [if_neg e]
    match j with
    | 0 => rfl
    | 1 => rfl
    | j + 2 =>
      rw [hp_get, hp_get]
      cases hc : shT[j]? with
      | none => rfl
      | some c =>
        rw [Option.map_some, Option.map_some]
        congr 2
        refine (mkvs_up c.2 0 fun k d _ => ?_).symm
        have : ¬ (j + 2 = q) := fun z => e z.symm
        match d with
        | 0 => simp [mkv, cpS, this]
        | 1 => rfl
        | d + 2 => rfl
theorem sSq_Cp {a b : PX Nat} {i j m : PX Int32} {rest : PS} {kn kb kc : LV → HV → Prop} {kr : Option Value → HV → Prop} {ls : LV} {scr : List Int32} {s : MS} {r q n n2 sp dp N : Nat} (h : arr r n) (g : arr q n2) (h1 : sp + N ≤ n) (h2 : dp + N ≤ n2) (h3 : n ≤ 1000) (h4 : n2 ≤ 1000)
    (ha : ∀ K : Nat → HV → Prop, K r (hp scr s) → a ls (hp scr s) K) (hi : ∀ K : Int32 → HV → Prop, K (nI sp) (hp scr s) → i ls (hp scr s) K) (hb : ∀ K : Nat → HV → Prop, K q (hp scr s) → b ls (hp scr s) K) (hj : ∀ K : Int32 → HV → Prop, K (nI dp) (hp scr s) → j ls (hp scr s) K) (hm : ∀ K : Int32 → HV → Prop, K (nI N) (hp scr s) → m ls (hp scr s) K)
    (hk : rest kn kb kc kr ls (hp scr (cpS s r q sp dp N))) : sSq (sCp a i b j m) rest kn kb kc kr ls (hp scr s) := by
  refine ha _ (hi _ (hb _ (hj _ (hm _ ?_))))
  obtain ⟨src, a1, a2, a3⟩ := arr_src (scr := scr) (s := s) h
  obtain ⟨dst, b1, b2, b3⟩ := arr_src (scr := scr) (s := s) g
  refine ⟨src, dst, a1, b1, h.1, g.1, Int32.not_lt.mpr (nI_pos' (by omega)), Int32.not_lt.mpr (nI_pos' (by omega)), Int32.not_lt.mpr (nI_pos' (by omega)), ?_, ?_, ?_⟩
  · rw [nI_clamp (by omega), nI_clamp (by omega), a2]; exact h1
  · rw [nI_clamp (by omega), nI_clamp (by omega), b2]; exact h2
  · rw [nI_clamp (by omega), nI_clamp (by omega), nI_clamp (by omega), cp_hp h g h1 h2 a1 b1]
    exact hk
theorem cpS_fr {s : MS} {r q sp dp N : Nat} : Fr (fun a _ => a = q) s (cpS s r q sp dp N) := ⟨rfl, fun a b h => by
  unfold cpS
  simp only
  rw [if_neg (fun z => h z.1)]⟩
theorem cpS_at {s : MS} {r q N b : Nat} (hb : b < N) : (cpS s r q 0 0 N).1 q b = s.1 r b := by
  have : (cpS s r q 0 0 N).1 q b = if q = q ∧ 0 ≤ b ∧ b < 0 + N then s.1 r (0 + (b - 0)) else s.1 q b := rfl
  rw [this, if_pos ⟨rfl, Nat.zero_le _, by omega⟩, Nat.sub_zero, Nat.zero_add]
theorem s_Mach_begin (scr : List Int32) {s : MS} {r : Nat} (hr : r = 20 ∨ r = 21) {base : Nat} (hb : s.1 r 16 = nI base) {row : Nat → Int32} (hrow : ∀ k, k < 16 → s.1 r k = row k) (Q : Option Value → HV → Prop)
    (h : ∀ s', Fr FM s s' → mMa base (row, fun _ => 0, -9) s' → Q none (hp scr s')) : X_Mach_begin [.ref 61, .ref r] (hp scr s) Q := by
  have ar : arr r 19 := by rcases hr with rfl | rfl <;> exact arr_of rfl rfl
  have r20 : r ≠ 61 ∧ r ≠ 1 ∧ r ≠ 0 := by omega
  have rw_ := rowp (r := r) (by omega) scr
  simp [X_Mach_begin, B_Mach_begin, lini, lx, Value.category]
  refine sSq_S1 (ls' := [.ref 61, .ref r, .null]) (scr := scr) (I := fun s1 => Fr FM s s1 ∧ s1.1 61 3 = -9) ?h1 ?h2
  case h1 =>
    intro kn hkn
    simp [eV, eI, eL, eR, e1, e2, eDI, eDL, eFI, eFL, eFR, eAI, eAZ, eAR, eLen, aN, aC, xV, xS, eX, eIf, eC_b, cA, cO, cN, sSk, sSq, sI, sL, sR, sInc, sF, sFO, sAI, sAZ, sAO, sX, sXp, sIf, sCut, sSqs, sSw, sRt, sRz_g, is01_b, is01_0, is01_1, sRv, sBk, sCt, sCp, lset, lclr, lcut, lini, lx, Value.category, ixOf, b2i_0, b2i_1, T_Mach, U_Mach]
    exact hkn _ ⟨Fr.rf.up _ (by omega), by simp [up_get]⟩
  case h2 =>
    rintro s1 ⟨a1, a2⟩
    refine sSq_S1 (ls' := [.ref 61, .ref r, .null]) (scr := scr) (I := fun s1 => Fr FM s s1 ∧ s1.1 61 3 = -9 ∧ s1.1 61 4 = nI base) ?h3 ?h4
    case h3 =>
      intro kn hkn
      have e : s1.1 r 16 = nI base := by rw [a1.2 _ _ (by omega), hb]
      simp [eV, eI, eL, eR, e1, e2, eDI, eDL, eFI, eFL, eFR, eAI, eAZ, eAR, eLen, aN, aC, xV, xS, eX, eIf, eC_b, cA, cO, cN, sSk, sSq, sI, sL, sR, sInc, sF, sFO, sAI, sAZ, sAO, sX, sXp, sIf, sCut, sSqs, sSw, sRt, sRz_g, is01_b, is01_0, is01_1, sRv, sBk, sCt, sCp, lset, lclr, lcut, lini, lx, Value.category, ixOf, b2i_0, b2i_1, T_Mach, U_Mach, rw_ s1, r20, show (16 : Int32).toNatClampNeg = 16 from rfl, e]
      exact hkn _ ⟨a1.up _ (by omega), by simp [up_get, a2], by simp [up_get]⟩
    case h4 =>
      rintro s2 ⟨b1, b2, b3⟩
      refine sSq_Cp (r := r) (q := 62) (n := 19) (n2 := 16) (sp := 0) (dp := 0) (N := 16) ar A_Mach_1 (by omega) (by omega) (by omega) (by omega) ?_ ?_ ?_ ?_ ?_ ?_
      · intro K hK; simpa [eV, eI, eL, eR, e1, e2, eDI, eDL, eFI, eFL, eFR, eAI, eAZ, eAR, eLen, aN, aC, xV, xS, eX, eIf, eC_b, cA, cO, cN, sSk, sSq, sI, sL, sR, sInc, sF, sFO, sAI, sAZ, sAO, sX, sXp, sIf, sCut, sSqs, sSw, sRt, sRz_g, is01_b, is01_0, is01_1, sRv, sBk, sCt, sCp, lset, lclr, lcut, lini, lx, Value.category, ixOf, b2i_0, b2i_1] using hK
      · intro K hK; exact hK
      · intro K hK; simpa [eV, eI, eL, eR, e1, e2, eDI, eDL, eFI, eFL, eFR, eAI, eAZ, eAR, eLen, aN, aC, xV, xS, eX, eIf, eC_b, cA, cO, cN, sSk, sSq, sI, sL, sR, sInc, sF, sFO, sAI, sAZ, sAO, sX, sXp, sIf, sCut, sSqs, sSw, sRt, sRz_g, is01_b, is01_0, is01_1, sRv, sBk, sCt, sCp, lset, lclr, lcut, lini, lx, Value.category, ixOf, b2i_0, b2i_1, T_Mach] using hK
      · intro K hK; exact hK
      · intro K hK; exact hK
      have c1 : Fr FM s (cpS s2 r 62 0 0 16) := b1.tr cpS_fr fun a b z => by omega
      have c2 : ∀ k, k < 16 → (cpS s2 r 62 0 0 16).1 62 k = row k := fun k hk => by rw [cpS_at hk, b1.2 _ _ (by omega), hrow k hk]
      have c3 : (cpS s2 r 62 0 0 16).1 61 3 = -9 := by rw [cpS_fr.2 _ _ (by omega), b2]
      have c4 : (cpS s2 r 62 0 0 16).1 61 4 = nI base := by rw [cpS_fr.2 _ _ (by omega), b3]
      generalize cpS s2 r 62 0 0 16 = s3 at c1 c2 c3 c4 ⊢
      simp [eV, eI, eL, eR, e1, e2, eDI, eDL, eFI, eFL, eFR, eAI, eAZ, eAR, eLen, aN, aC, xV, xS, eX, eIf, eC_b, cA, cO, cN, sSk, sSq, sI, sL, sR, sInc, sF, sFO, sAI, sAZ, sAO, sX, sXp, sIf, sCut, sSqs, sSw, sRt, sRz_g, is01_b, is01_0, is01_1, sRv, sBk, sCt, sCp, lset, lclr, lcut, lini, lx, Value.category, ixOf, b2i_0, b2i_1]
      refine lp_ind (fun z ls h => ∃ k s', z = 16 - k ∧ k ≤ 16 ∧ ls = [.ref 61, .ref r, .int (nI k)] ∧ h = hp scr s' ∧ Fr FM s s' ∧ (∀ a, a < 16 → s'.1 62 a = row a) ∧ (∀ i, i < k → s'.1 63 i = 0) ∧ s'.1 61 3 = -9 ∧ s'.1 61 4 = nI base) ?_ ⟨0, s3, rfl, by omega, rfl, rfl, c1, c2, fun i hi => by omega, c3, c4⟩
      rintro z ls h' ⟨k, s4, hz, hk, rfl, rfl, d1, d2, d3, d4, d5⟩ X hX
      refine cX (t := decide (k < 16)) (h' := hp scr s4) ?h5 ?h6
      case h5 =>
        intro K
        simp [eV, eI, eL, eR, e1, e2, eDI, eDL, eFI, eFL, eFR, eAI, eAZ, eAR, eLen, aN, aC, xV, xS, eX, eIf, eC_b, cA, cO, cN, sSk, sSq, sI, sL, sR, sInc, sF, sFO, sAI, sAZ, sAO, sX, sXp, sIf, sCut, sSqs, sSw, sRt, sRz_g, is01_b, is01_0, is01_1, sRv, sBk, sCt, sCp, lset, lclr, lcut, lini, lx, Value.category, ixOf, b2i_0, b2i_1]
        simp (disch := omega) only [LIT, L_0le, L_0lt, L_0eq, L_eq0, L_le0, L_lt0, L_1eq, L_eq1, L_1le, L_1lt, L_lt1, L_le1, L_p1, nI_ltI, nI_leI, nI_eq, nI_add, nI_clamp]
      case h6 =>
        by_cases hlt : k < 16
        · simp only [hlt, decide_true, if_true]
          simp [eV, eI, eL, eR, e1, e2, eDI, eDL, eFI, eFL, eFR, eAI, eAZ, eAR, eLen, aN, aC, xV, xS, eX, eIf, eC_b, cA, cO, cN, sSk, sSq, sI, sL, sR, sInc, sF, sFO, sAI, sAZ, sAO, sX, sXp, sIf, sCut, sSqs, sSw, sRt, sRz_g, is01_b, is01_0, is01_1, sRv, sBk, sCt, sCp, lset, lclr, lcut, lini, lx, Value.category, ixOf, b2i_0, b2i_1, T_Mach, G_Mach, ix80 hlt (by decide), L_p1]
          refine hX _ _ _ (by rw [hz]; omega) ⟨k + 1, _, rfl, hlt, rfl, rfl, d1.up _ (by omega), fun a ha => by simp [up_get, d2 a ha], fun i hi => ?_, by simp [up_get, d4], by simp [up_get, d5]⟩
          by_cases c : i = k
          · subst c; simp [up_get]
          · simp [up_get, c]; exact d3 i (by omega)
        · have : k = 16 := by omega
          subst this
          simp only [hlt, decide_false, Bool.false_eq_true, if_false]
          exact h s4 d1 ⟨d2, d3, d4, d5⟩
theorem fl_split (N : Nat → Bool) {k n : Nat} (h : k ≤ n) : ∃ m, fl N n = fl N k ++ m := by
  induction n with
  | zero => exact ⟨[], by rw [show k = 0 by omega, List.append_nil]⟩
  | succ n ih =>
    rcases Nat.lt_or_ge k (n + 1) with q | q
    · obtain ⟨m, hm⟩ := ih (by omega)
      rw [fl_s]
      split
      · exact ⟨m ++ [n], by rw [hm, List.append_assoc]⟩
      · exact ⟨m, hm⟩
    · exact ⟨[], by rw [show k = n + 1 by omega, List.append_nil]⟩
theorem pRun_fl {P : PC} {base : Nat} {row : Nat → Int32} {N : Nat → Bool} {k n : Nat} (hk : k ≤ n) (h : k = n ∨ (pRun P base row (fl N k)).2.2 ≠ -9) : pRun P base row (fl N n) = pRun P base row (fl N k) := by
  rcases h with rfl | h
  · rfl
  · obtain ⟨m, hm⟩ := fl_split N hk
    rw [hm, pRun_stay h]
def idl (idle : Int32) (j : Nat) : Bool := decide (nI j ≠ idle)
theorem s_Mach_runInOrder {P : PC} (scr : List Int32) {s : MS} (hP : okP P) (hm : mC P 6 s) {r : Nat} (hr : r = 20 ∨ r = 21) {base : Nat} (h8 : base ≤ 8) (hb : s.1 r 16 = nI base) {row : Nat → Int32} (hrow : ∀ k, k < 16 → s.1 r k = row k) (idle : Int32) (Q : Option Value → HV → Prop)
    (h : ∀ s', Fr FM s s' → mMa base (pRun P base row (fl (idl idle) P.1)) s' → Q none (hp scr s')) : X_Mach_runInOrder [.ref 61, .ref r, .int idle] (hp scr s) Q := by
  have h16 := hP.1
  simp [X_Mach_runInOrder, B_Mach_runInOrder, eV, eI, eL, eR, e1, e2, eDI, eDL, eFI, eFL, eFR, eAI, eAZ, eAR, eLen, aN, aC, xV, xS, eX, eIf, eC_b, cA, cO, cN, sSk, sSq, sI, sL, sR, sInc, sF, sFO, sAI, sAZ, sAO, sX, sXp, sIf, sCut, sSqs, sSw, sRt, sRz_g, is01_b, is01_0, is01_1, sRv, sBk, sCt, sCp, lset, lclr, lcut, lini, lx, Value.category, ixOf, b2i_0, b2i_1, T_Mach]
  refine s_Mach_begin scr hr hb hrow _ fun s1 g1 g2 => ⟨rfl, ?_⟩
  refine lp_ind (fun z ls h => ∃ k s', z = P.1 - k ∧ k ≤ P.1 ∧ ls = [.ref 61, .ref r, .int idle, .int (nI k)] ∧ h = hp scr s' ∧ Fr FM s s' ∧ mMa base (pRun P base row (fl (idl idle) k)) s') ?_ ⟨0, s1, rfl, by omega, rfl, rfl, g1, g2⟩
  rintro z ls h' ⟨k, s2, hz, hk, rfl, rfl, f1, f2⟩ X hX
  have m2 : mC P 6 s2 := mC_fr f1 (by omega) (by omega) hm
  have e3 := f2.2.2.1
  refine cX (t := decide (k < P.1) && decide ((pRun P base row (fl (idl idle) k)).2.2 = -9)) (h' := hp scr s2) ?h1 ?h2
  case h1 =>
    intro K
    simp [eV, eI, eL, eR, e1, e2, eDI, eDL, eFI, eFL, eFR, eAI, eAZ, eAR, eLen, aN, aC, xV, xS, eX, eIf, eC_b, cA, cO, cN, sSk, sSq, sI, sL, sR, sInc, sF, sFO, sAI, sAZ, sAO, sX, sXp, sIf, sCut, sSqs, sSw, sRt, sRz_g, is01_b, is01_0, is01_1, sRv, sBk, sCt, sCp, lset, lclr, lcut, lini, lx, Value.category, ixOf, b2i_0, b2i_1, T_Mach, T_Code c6, m2.1, e3]
    simp (disch := omega) only [LIT, L_0le, L_0lt, L_0eq, L_eq0, L_le0, L_lt0, L_1eq, L_eq1, L_1le, L_1lt, L_lt1, L_le1, L_p1, nI_ltI, nI_leI, nI_eq, nI_add, nI_clamp]
    by_cases c : k < P.1 <;> simp [c]
  case h2 =>
    by_cases hlt : k < P.1
    · by_cases hf : (pRun P base row (fl (idl idle) k)).2.2 = -9
      · simp only [hlt, hf, decide_true, Bool.and_self, if_true]
        by_cases c : nI k = idle
        · have e : fl (idl idle) (k + 1) = fl (idl idle) k := by rw [fl_s]; simp [idl, c]
          simp [eV, eI, eL, eR, e1, e2, eDI, eDL, eFI, eFL, eFR, eAI, eAZ, eAR, eLen, aN, aC, xV, xS, eX, eIf, eC_b, cA, cO, cN, sSk, sSq, sI, sL, sR, sInc, sF, sFO, sAI, sAZ, sAO, sX, sXp, sIf, sCut, sSqs, sSw, sRt, sRz_g, is01_b, is01_0, is01_1, sRv, sBk, sCt, sCp, lset, lclr, lcut, lini, lx, Value.category, ixOf, b2i_0, b2i_1, c, L_p1]
          refine hX _ _ _ (by rw [hz]; omega) ⟨k + 1, s2, rfl, hlt, ?_, rfl, f1, by rw [e]; exact f2⟩
          rw [← c, L_p1]
        · have e : fl (idl idle) (k + 1) = fl (idl idle) k ++ [k] := by rw [fl_s]; simp [idl, c]
          simp [eV, eI, eL, eR, e1, e2, eDI, eDL, eFI, eFL, eFR, eAI, eAZ, eAR, eLen, aN, aC, xV, xS, eX, eIf, eC_b, cA, cO, cN, sSk, sSq, sI, sL, sR, sInc, sF, sFO, sAI, sAZ, sAO, sX, sXp, sIf, sCut, sSqs, sSw, sRt, sRz_g, is01_b, is01_0, is01_1, sRv, sBk, sCt, sCp, lset, lclr, lcut, lini, lx, Value.category, ixOf, b2i_0, b2i_1, c, L_p1, T_Mach]
          refine s_Mach_carryOut scr hP m2 h8 f2 hlt _ fun s3 k1 k2 => ⟨rfl, ?_⟩
          refine hX _ _ _ (by rw [hz]; omega) ⟨k + 1, s3, rfl, hlt, rfl, rfl, f1.tr k1 fun _ _ z => z, ?_⟩
          rw [e, pRun_ap, pStep, if_pos hf]
          exact k2
      · simp only [hlt, hf, decide_true, decide_false, Bool.and_false, Bool.false_eq_true, if_false]
        exact h s2 f1 (by rw [pRun_fl hk (Or.inr hf)]; exact f2)
    · have : k = P.1 := by omega
      subst this
      simp only [hlt, decide_false, Bool.false_and, Bool.false_eq_true, if_false]
      exact h s2 f1 f2
theorem take_s {o : List Nat} {k : Nat} (h : k < o.length) : o.take (k + 1) = o.take k ++ [o.getD k 0] := by
  rw [List.take_succ, List.getD_eq_getElem?_getD, List.getElem?_eq_getElem h]
  rfl
theorem s_Mach_runPacked {P : PC} (scr : List Int32) {s : MS} (hP : okP P) (hm : mC P 6 s) {r : Nat} (hr : r = 20 ∨ r = 21) {base : Nat} (h8 : base ≤ 8) (hb : s.1 r 16 = nI base) {row : Nat → Int32} (hrow : ∀ k, k < 16 → s.1 r k = row k) {b : Nat} (hpb : pB b) {o : List Nat} (ho : mOr b o s) (hl : o.length ≤ 16) (hlt : ∀ x, x ∈ o → x < P.1) (Q : Option Value → HV → Prop)
    (h : ∀ s', Fr FM s s' → mMa base (pRun P base row o) s' → Q none (hp scr s')) : X_Mach_runPacked [.ref 61, .ref r, .ref b] (hp scr s) Q := by
  have h16 := hP.1
  have bf := pbf hpb
  simp [X_Mach_runPacked, B_Mach_runPacked, eV, eI, eL, eR, e1, e2, eDI, eDL, eFI, eFL, eFR, eAI, eAZ, eAR, eLen, aN, aC, xV, xS, eX, eIf, eC_b, cA, cO, cN, sSk, sSq, sI, sL, sR, sInc, sF, sFO, sAI, sAZ, sAO, sX, sXp, sIf, sCut, sSqs, sSw, sRt, sRz_g, is01_b, is01_0, is01_1, sRv, sBk, sCt, sCp, lset, lclr, lcut, lini, lx, Value.category, ixOf, b2i_0, b2i_1, T_Mach]
  refine s_Mach_begin scr hr hb hrow _ fun s1 g1 g2 => ⟨rfl, ?_⟩
  refine lp_ind (fun z ls h => ∃ k s', z = o.length - k ∧ k ≤ o.length ∧ ls = [.ref 61, .ref r, .ref b, .int (nI k)] ∧ h = hp scr s' ∧ Fr FM s s' ∧ mMa base (pRun P base row (o.take k)) s') ?_ ⟨0, s1, rfl, by omega, rfl, rfl, g1, g2⟩
  rintro z ls h' ⟨k, s2, hz, hk, rfl, rfl, f1, f2⟩ X hX
  have m2 : mC P 6 s2 := mC_fr f1 (by omega) (by omega) hm
  have e3 := f2.2.2.1
  have o9 : s2.1 b 9 = nI o.length := by rw [f1.2 _ _ (by omega)]; exact ho.1
  have o5 : ∀ q, q < o.length → s2.1 (b + 5) q = nI (o.getD q 0) := fun q hq => by rw [f1.2 _ _ (by omega)]; exact ho.2 q hq
  refine cX (t := decide (k < o.length) && decide ((pRun P base row (o.take k)).2.2 = -9)) (h' := hp scr s2) ?h1 ?h2
  case h1 =>
    intro K
    simp [eV, eI, eL, eR, e1, e2, eDI, eDL, eFI, eFL, eFR, eAI, eAZ, eAR, eLen, aN, aC, xV, xS, eX, eIf, eC_b, cA, cO, cN, sSk, sSq, sI, sL, sR, sInc, sF, sFO, sAI, sAZ, sAO, sX, sXp, sIf, sCut, sSqs, sSw, sRt, sRz_g, is01_b, is01_0, is01_1, sRv, sBk, sCt, sCp, lset, lclr, lcut, lini, lx, Value.category, ixOf, b2i_0, b2i_1, T_Mach, T_Pack hpb, bf, o9, e3]
    simp (disch := omega) only [LIT, L_0le, L_0lt, L_0eq, L_eq0, L_le0, L_lt0, L_1eq, L_eq1, L_1le, L_1lt, L_lt1, L_le1, L_p1, nI_ltI, nI_leI, nI_eq, nI_add, nI_clamp]
    by_cases c : k < o.length
    · have : k < 16 := by omega
      simp [c, this]
    · simp [c]
  case h2 =>
    by_cases hlk : k < o.length
    · have hx : o.getD k 0 < P.1 := hlt _ (by rw [List.getD_eq_getElem?_getD, List.getElem?_eq_getElem hlk]; exact List.getElem_mem _)
      by_cases hf : (pRun P base row (o.take k)).2.2 = -9
      · simp only [hlk, hf, decide_true, Bool.and_self, if_true]
        simp [eV, eI, eL, eR, e1, e2, eDI, eDL, eFI, eFL, eFR, eAI, eAZ, eAR, eLen, aN, aC, xV, xS, eX, eIf, eC_b, cA, cO, cN, sSk, sSq, sI, sL, sR, sInc, sF, sFO, sAI, sAZ, sAO, sX, sXp, sIf, sCut, sSqs, sSw, sRt, sRz_g, is01_b, is01_0, is01_1, sRv, sBk, sCt, sCp, lset, lclr, lcut, lini, lx, Value.category, ixOf, b2i_0, b2i_1, T_Mach, T_Pack hpb, G_Pack hpb, bf, ix80 (show k < 16 by omega) (by decide), o5 k hlk, L_p1]
        try rw [← List.getD_eq_getElem?_getD]
        refine s_Mach_carryOut scr hP m2 h8 f2 hx _ fun s3 k1 k2 => ⟨rfl, ?_⟩
        refine hX _ _ _ (by rw [hz]; omega) ⟨k + 1, s3, rfl, hlk, rfl, rfl, f1.tr k1 fun _ _ z => z, ?_⟩
        rw [take_s hlk, pRun_ap, pStep, if_pos hf]
        exact k2
      · have e : pRun P base row o = pRun P base row (o.take k) := by
          have := pRun_stay hf (o.drop k)
          rw [List.take_append_drop] at this
          exact this
        simp only [hlk, hf, decide_true, decide_false, Bool.and_false, Bool.false_eq_true, if_false]
        exact h s2 f1 (by rw [e]; exact f2)
    · have : k = o.length := by omega
      subst this
      rw [List.take_length] at f2
      simp only [hlk, decide_false, Bool.false_and, Bool.false_eq_true, if_false]
      exact h s2 f1 f2
