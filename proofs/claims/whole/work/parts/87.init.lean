/-! constructors: a heap with an object and what came behind it -/
def ob (pre : HV) (c : Nat × List Value) (tl : HV) : HV := pre ++ c :: tl
theorem ob_at {pre : HV} {c : Nat × List Value} {tl : HV} {n : Nat} (hn : pre.length = n) : (ob pre c tl)[n]? = some c := by
  subst hn
  unfold ob
  rw [List.getElem?_append_right (Nat.le_refl _), Nat.sub_self]
  rfl
theorem ob_k {pre : HV} {c : Nat × List Value} {tl : HV} {n : Nat} (hn : pre.length = n) : hk (ob pre c tl) n = some c.1 := by
  unfold hk; rw [ob_at hn]; rfl
theorem ob_g {pre : HV} {c : Nat × List Value} {tl : HV} {n k : Nat} (hn : pre.length = n) : hg (ob pre c tl) n k = c.2[k]? := by
  unfold hg; rw [ob_at hn]; rfl
theorem ob_s {pre : HV} {c : Nat × List Value} {tl : HV} {n k : Nat} {v : Value} (hn : pre.length = n) : hs (ob pre c tl) n k v = ob pre (c.1, c.2.set k v) tl := by
  unfold hs
  rw [ob_at hn]
  subst hn
  unfold ob
  dsimp only
  rw [List.set_append_right _ _ (Nat.le_refl _), Nat.sub_self]
  rfl
theorem ob_app {pre : HV} {c : Nat × List Value} {tl : HV} {x : Nat × List Value} : ob pre c tl ++ [x] = ob pre c (tl ++ [x]) := by unfold ob; simp
theorem ob_apL {pre us : HV} {c : Nat × List Value} {tl : HV} : ob pre c tl ++ us = ob pre c (tl ++ us) := by unfold ob; simp
theorem ob_len {pre : HV} {c : Nat × List Value} {tl : HV} {n : Nat} (hn : pre.length = n) : (ob pre c tl).length = n + 1 + tl.length := by subst hn; unfold ob; simp; omega
theorem hsz_ap : ∀ (a b : HV), hsz (a ++ b) = hsz a + hsz b
  | [], b => by simp [hsz]
  | c :: t, b => by simp [hsz, hsz_ap t b]; omega
theorem ob_sz {pre : HV} {c : Nat × List Value} {tl : HV} : hsz (ob pre c tl) = hsz pre + (c.2.length + hsz tl) := by unfold ob; rw [hsz_ap]; rfl
def rp (n : Nat) : List Value := List.replicate n (.int 0)
theorem rp_eq (n : Nat) : List.replicate n (Value.int 0) = rp n := rfl
theorem rp_len (n : Nat) : (rp n).length = n := by simp [rp]
theorem i_Src {pre : HV} {n : Nat} (hn : pre.length = n) (h2 : 2 ≤ n) (Q : Option Value → HV → Prop) (h : Q none (ob pre (7, [.ref (n + 1), .ref (n + 2), .int 0]) [(20, rp 80), (20, rp 4)])) : X_Src_init [.ref n] (ob pre (7, [.null, .null, .int 0]) []) Q := by
  have n1 : n ≠ 1 := by omega
  simp [X_Src_init, B_Src_init, eV, eI, eL, eR, e1, e2, eDI, eDL, eFI, eFL, eFR, eAI, eAZ, eAR, eLen, aN, aC, xV, xS, eX, eIf, eC_b, cA, cO, cN, sSk, sSq, sI, sL, sR, sInc, sF, sFO, sAI, sAZ, sAO, sX, sXp, sIf, sCut, sSqs, sSw, sRt, sRz_g, is01_b, is01_0, is01_1, sRv, sBk, sCt, sCp, lset, lclr, lcut, lini, lx, Value.category, ixOf, b2i_0, b2i_1, sSO, eNA, eNM, ob_k hn, ob_g hn, ob_s hn, ob_app, ob_len hn, ob_sz, n1, hsz, rp_eq, rp_len, show (80 : Int32).toNatClampNeg = 80 from rfl, show (4 : Int32).toNatClampNeg = 4 from rfl]
  exact h
theorem i_Code {pre : HV} {n : Nat} (hn : pre.length = n) (h2 : 2 ≤ n) (Q : Option Value → HV → Prop) (h : Q none (ob pre (1, [.ref (n + 1), .ref (n + 2), .ref (n + 3), .ref (n + 4), .ref (n + 5), .ref (n + 6), .int 0]) [(20, rp 16), (20, rp 16), (20, rp 16), (20, rp 16), (20, rp 16), (20, rp 16)])) : X_Code_init [.ref n] (ob pre (1, [.null, .null, .null, .null, .null, .null, .int 0]) []) Q := by
  have n1 : n ≠ 1 := by omega
  simp [X_Code_init, B_Code_init, eV, eI, eL, eR, e1, e2, eDI, eDL, eFI, eFL, eFR, eAI, eAZ, eAR, eLen, aN, aC, xV, xS, eX, eIf, eC_b, cA, cO, cN, sSk, sSq, sI, sL, sR, sInc, sF, sFO, sAI, sAZ, sAO, sX, sXp, sIf, sCut, sSqs, sSw, sRt, sRz_g, is01_b, is01_0, is01_1, sRv, sBk, sCt, sCp, lset, lclr, lcut, lini, lx, Value.category, ixOf, b2i_0, b2i_1, sSO, eNA, eNM, ob_k hn, ob_g hn, ob_s hn, ob_app, ob_len hn, ob_sz, n1, hsz, rp_eq, rp_len, show (16 : Int32).toNatClampNeg = 16 from rfl]
  exact h
theorem i_Acts {pre : HV} {n : Nat} (hn : pre.length = n) (h2 : 2 ≤ n) (Q : Option Value → HV → Prop) (h : Q none (ob pre (0, [.ref (n + 1), .ref (n + 2), .int 0]) [(20, rp 14), (20, rp 14)])) : X_Acts_init [.ref n] (ob pre (0, [.null, .null, .int 0]) []) Q := by
  have n1 : n ≠ 1 := by omega
  simp [X_Acts_init, B_Acts_init, eV, eI, eL, eR, e1, e2, eDI, eDL, eFI, eFL, eFR, eAI, eAZ, eAR, eLen, aN, aC, xV, xS, eX, eIf, eC_b, cA, cO, cN, sSk, sSq, sI, sL, sR, sInc, sF, sFO, sAI, sAZ, sAO, sX, sXp, sIf, sCut, sSqs, sSw, sRt, sRz_g, is01_b, is01_0, is01_1, sRv, sBk, sCt, sCp, lset, lclr, lcut, lini, lx, Value.category, ixOf, b2i_0, b2i_1, sSO, eNA, eNM, ob_k hn, ob_g hn, ob_s hn, ob_app, ob_len hn, ob_sz, n1, hsz, rp_eq, rp_len, show (14 : Int32).toNatClampNeg = 14 from rfl]
  exact h
theorem i_Slots {pre : HV} {n : Nat} (hn : pre.length = n) (h2 : 2 ≤ n) (Q : Option Value → HV → Prop) (h : Q none (ob pre (6, [.ref (n + 1), .ref (n + 2)]) [(21, rp 2), (22, [.ref (n + 3), .ref (n + 4)]), (20, rp 19), (20, rp 19)])) : X_Slots_init [.ref n] (ob pre (6, [.null, .null]) []) Q := by
  have n1 : n ≠ 1 := by omega
  simp [X_Slots_init, B_Slots_init, eV, eI, eL, eR, e1, e2, eDI, eDL, eFI, eFL, eFR, eAI, eAZ, eAR, eLen, aN, aC, xV, xS, eX, eIf, eC_b, cA, cO, cN, sSk, sSq, sI, sL, sR, sInc, sF, sFO, sAI, sAZ, sAO, sX, sXp, sIf, sCut, sSqs, sSw, sRt, sRz_g, is01_b, is01_0, is01_1, sRv, sBk, sCt, sCp, lset, lclr, lcut, lini, lx, Value.category, ixOf, b2i_0, b2i_1, sSO, eNA, eNM, ob_k hn, ob_g hn, ob_s hn, ob_app, ob_apL, ob_len hn, ob_sz, n1, hsz, rp_eq, rp_len, show (2 : Int32).toNatClampNeg = 2 from rfl, show (19 : Int32).toNatClampNeg = 19 from rfl]
  exact h
theorem i_Sights {pre : HV} {n : Nat} (hn : pre.length = n) (h2 : 2 ≤ n) (Q : Option Value → HV → Prop) (h : Q none (ob pre (5, [.ref (n + 1), .ref (n + 2), .int 0]) [(20, rp 6), (20, rp 6)])) : X_Sights_init [.ref n] (ob pre (5, [.null, .null, .int 0]) []) Q := by
  have n1 : n ≠ 1 := by omega
  simp [X_Sights_init, B_Sights_init, eV, eI, eL, eR, e1, e2, eDI, eDL, eFI, eFL, eFR, eAI, eAZ, eAR, eLen, aN, aC, xV, xS, eX, eIf, eC_b, cA, cO, cN, sSk, sSq, sI, sL, sR, sInc, sF, sFO, sAI, sAZ, sAO, sX, sXp, sIf, sCut, sSqs, sSw, sRt, sRz_g, is01_b, is01_0, is01_1, sRv, sBk, sCt, sCp, lset, lclr, lcut, lini, lx, Value.category, ixOf, b2i_0, b2i_1, sSO, eNA, eNM, ob_k hn, ob_g hn, ob_s hn, ob_app, ob_len hn, ob_sz, n1, hsz, rp_eq, rp_len, show (6 : Int32).toNatClampNeg = 6 from rfl]
  exact h
theorem i_Links {pre : HV} {n : Nat} (hn : pre.length = n) (h2 : 2 ≤ n) {c : Nat} (Q : Option Value → HV → Prop) (h : Q none (ob pre (2, [.ref c, .ref (n + 1), .ref (n + 2), .ref (n + 3), .int 0]) [(20, rp 16), (20, rp 16), (20, rp 16)])) : X_Links_init [.ref n, .ref c] (ob pre (2, [.null, .null, .null, .null, .int 0]) []) Q := by
  have n1 : n ≠ 1 := by omega
  simp [X_Links_init, B_Links_init, eV, eI, eL, eR, e1, e2, eDI, eDL, eFI, eFL, eFR, eAI, eAZ, eAR, eLen, aN, aC, xV, xS, eX, eIf, eC_b, cA, cO, cN, sSk, sSq, sI, sL, sR, sInc, sF, sFO, sAI, sAZ, sAO, sX, sXp, sIf, sCut, sSqs, sSw, sRt, sRz_g, is01_b, is01_0, is01_1, sRv, sBk, sCt, sCp, lset, lclr, lcut, lini, lx, Value.category, ixOf, b2i_0, b2i_1, sSO, eNA, eNM, ob_k hn, ob_g hn, ob_s hn, ob_app, ob_len hn, ob_sz, n1, hsz, rp_eq, rp_len, show (16 : Int32).toNatClampNeg = 16 from rfl]
  exact h
theorem i_Tree {pre : HV} {n : Nat} (hn : pre.length = n) (h2 : 2 ≤ n) {c l : Nat} (Q : Option Value → HV → Prop) (h : Q none (ob pre (8, [.ref c, .ref l, .ref (n + 1), .int 0, .int 0, .ref (n + 2), .int 0, .int 2, .int 0, .int 0, .int 0]) [(20, rp 8), (20, rp 16)])) : X_Tree_init [.ref n, .ref c, .ref l] (ob pre (8, [.null, .null, .null, .int 0, .int 0, .null, .int 0, .int 0, .int 0, .int 0, .int 0]) []) Q := by
  have n1 : n ≠ 1 := by omega
  simp [X_Tree_init, B_Tree_init, eV, eI, eL, eR, e1, e2, eDI, eDL, eFI, eFL, eFR, eAI, eAZ, eAR, eLen, aN, aC, xV, xS, eX, eIf, eC_b, cA, cO, cN, sSk, sSq, sI, sL, sR, sInc, sF, sFO, sAI, sAZ, sAO, sX, sXp, sIf, sCut, sSqs, sSw, sRt, sRz_g, is01_b, is01_0, is01_1, sRv, sBk, sCt, sCp, lset, lclr, lcut, lini, lx, Value.category, ixOf, b2i_0, b2i_1, sSO, eNA, eNM, ob_k hn, ob_g hn, ob_s hn, ob_app, ob_len hn, ob_sz, n1, hsz, rp_eq, rp_len, show (8 : Int32).toNatClampNeg = 8 from rfl, show (16 : Int32).toNatClampNeg = 16 from rfl]
  exact h
theorem i_Mach {pre : HV} {n : Nat} (hn : pre.length = n) (h2 : 2 ≤ n) {c : Nat} (Q : Option Value → HV → Prop) (h : Q none (ob pre (3, [.ref c, .ref (n + 1), .ref (n + 2), .int (-9), .int 8]) [(20, rp 16), (20, rp 16)])) : X_Mach_init [.ref n, .ref c] (ob pre (3, [.null, .null, .null, .int 0, .int 0]) []) Q := by
  have n1 : n ≠ 1 := by omega
  simp [X_Mach_init, B_Mach_init, eV, eI, eL, eR, e1, e2, eDI, eDL, eFI, eFL, eFR, eAI, eAZ, eAR, eLen, aN, aC, xV, xS, eX, eIf, eC_b, cA, cO, cN, sSk, sSq, sI, sL, sR, sInc, sF, sFO, sAI, sAZ, sAO, sX, sXp, sIf, sCut, sSqs, sSw, sRt, sRz_g, is01_b, is01_0, is01_1, sRv, sBk, sCt, sCp, lset, lclr, lcut, lini, lx, Value.category, ixOf, b2i_0, b2i_1, sSO, eNA, eNM, ob_k hn, ob_g hn, ob_s hn, ob_app, ob_len hn, ob_sz, n1, hsz, rp_eq, rp_len, show (16 : Int32).toNatClampNeg = 16 from rfl]
  exact h
theorem ob_ob0 {pre : HV} {c x : Nat × List Value} {tl : HV} : ob pre c (tl ++ [x]) = ob (ob pre c tl) x [] := by unfold ob; simp
theorem ob_ob {pre : HV} {c x : Nat × List Value} {tl us : HV} : ob (ob pre c tl) x us = ob pre c (tl ++ x :: us) := by unfold ob; simp
theorem qN {own k : Nat} {g : Nat × Nat} {ci : Nat} {fs : List Value} {rm : Room} {n : Nat} {F : PM} {as : PX LV} {r : PS} {kn kb kc : LV → HV → Prop} {kr : Option Value → HV → Prop} {ls : LV} {pre : HV} {c x' : Nat × List Value} {tl us : HV} {p m : Nat} {t : List Value} (hp1 : pre.length = p) (p2 : 2 ≤ p) (h0 : ls[0]? = some (.ref p)) (hm : p + 1 + tl.length = m) (hk : k < c.2.length) (hc : c.1 = own) (g1 : m + 1 + rm.cells ≤ g.1) (g2 : hsz pre + (c.2.length + hsz tl) + fs.length + rm.slots ≤ g.2) (ht : t.length = n)
    (has : ∀ K : LV → HV → Prop, K t (ob pre c (tl ++ [(ci, fs)])) → as ls (ob pre c (tl ++ [(ci, fs)])) K) (hF : ∀ Q : Option Value → HV → Prop, Q none (ob (ob pre c tl) x' us) → F (.ref m :: t) (ob (ob pre c tl) (ci, fs) []) Q) (hkn : r kn kb kc kr ls (ob pre (c.1, c.2.set k (.ref m)) (tl ++ x' :: us))) : sSq (sF .ref own k (eR 0) (eNew g ci fs rm n F as)) r kn kb kc kr ls (ob pre c tl) := by
  have L := ob_len (c := c) (tl := tl) hp1
  refine ⟨p, h0, ?_⟩
  refine ⟨by rw [L]; omega, by rw [ob_sz]; omega, ?_⟩
  rw [ob_app]
  refine has _ ⟨ht, ?_, ?_, ?_⟩
  · rw [ob_len hp1, List.length_append, List.length_singleton]; omega
  · rw [ob_sz, hsz_ap]
    show hsz pre + (c.2.length + (hsz tl + (fs.length + 0))) + rm.slots ≤ g.2
    omega
  · rw [L, hm, ob_ob0]
    refine hF _ ⟨rfl, ?_⟩
    rw [ob_ob]
    refine ⟨by omega, by rw [ob_k hp1, hc], ⟨_, by rw [ob_g hp1]; exact List.getElem?_eq_getElem hk⟩, ?_⟩
    rw [ob_s hp1]
    exact hkn
theorem qA {own k kd : Nat} {g : Nat × Nat} {x : Int32} {N : Nat} {r : PS} {kn kb kc : LV → HV → Prop} {kr : Option Value → HV → Prop} {ls : LV} {pre : HV} {c : Nat × List Value} {tl : HV} {p m : Nat} (hx : x = nI N) (hN : N ≤ 1000) (hp1 : pre.length = p) (p2 : 2 ≤ p) (h0 : ls[0]? = some (.ref p)) (hm : p + 1 + tl.length = m) (hk : k < c.2.length) (hc : c.1 = own) (g1 : m + 1 ≤ g.1) (g2 : hsz pre + (c.2.length + hsz tl) + N ≤ g.2) (hkn : r kn kb kc kr ls (ob pre (c.1, c.2.set k (.ref m)) (tl ++ [(kd, rp N)]))) : sSq (sF .ref own k (eR 0) (eNA g kd (eV x))) r kn kb kc kr ls (ob pre c tl) := by
  have L := ob_len (c := c) (tl := tl) hp1
  subst hx
  refine ⟨p, h0, Int32.not_lt.mpr (nI_pos' (by omega)), by rw [nI_clamp (by omega)]; omega, by rw [L]; omega, by rw [ob_sz, nI_clamp (by omega)]; omega, ?_⟩
  rw [ob_app, nI_clamp (by omega), L, hm]
  refine ⟨by omega, by rw [ob_k hp1, hc], ⟨_, by rw [ob_g hp1]; exact List.getElem?_eq_getElem hk⟩, ?_⟩
  rw [ob_s hp1]
  exact hkn
theorem qI {own k : Nat} {x : Int32} {r : PS} {kn kb kc : LV → HV → Prop} {kr : Option Value → HV → Prop} {ls : LV} {pre : HV} {c : Nat × List Value} {tl : HV} {p : Nat} (hp1 : pre.length = p) (p2 : 2 ≤ p) (h0 : ls[0]? = some (.ref p)) (hk : k < c.2.length) (hc : c.1 = own) (hkn : r kn kb kc kr ls (ob pre (c.1, c.2.set k (.int x)) tl)) : sSq (sF .int own k (eR 0) (eV x)) r kn kb kc kr ls (ob pre c tl) := by
  refine ⟨p, h0, by omega, by rw [ob_k hp1, hc], ⟨_, by rw [ob_g hp1]; exact List.getElem?_eq_getElem hk⟩, ?_⟩
  rw [ob_s hp1]
  exact hkn
theorem qL {own k : Nat} {x : Int64} {r : PS} {kn kb kc : LV → HV → Prop} {kr : Option Value → HV → Prop} {ls : LV} {pre : HV} {c : Nat × List Value} {tl : HV} {p : Nat} (hp1 : pre.length = p) (p2 : 2 ≤ p) (h0 : ls[0]? = some (.ref p)) (hk : k < c.2.length) (hc : c.1 = own) (hkn : r kn kb kc kr ls (ob pre (c.1, c.2.set k (.long x)) tl)) : sSq (sF .long own k (eR 0) (eV x)) r kn kb kc kr ls (ob pre c tl) := by
  refine ⟨p, h0, by omega, by rw [ob_k hp1, hc], ⟨_, by rw [ob_g hp1]; exact List.getElem?_eq_getElem hk⟩, ?_⟩
  rw [ob_s hp1]
  exact hkn
theorem qR {own k i y : Nat} {r : PS} {kn kb kc : LV → HV → Prop} {kr : Option Value → HV → Prop} {ls : LV} {pre : HV} {c : Nat × List Value} {tl : HV} {p : Nat} (hp1 : pre.length = p) (p2 : 2 ≤ p) (h0 : ls[0]? = some (.ref p)) (h1 : ls[i]? = some (.ref y)) (hk : k < c.2.length) (hc : c.1 = own) (hkn : r kn kb kc kr ls (ob pre (c.1, c.2.set k (.ref y)) tl)) : sSq (sF .ref own k (eR 0) (eR i)) r kn kb kc kr ls (ob pre c tl) := by
  refine ⟨p, h0, y, h1, by omega, by rw [ob_k hp1, hc], ⟨_, by rw [ob_g hp1]; exact List.getElem?_eq_getElem hk⟩, ?_⟩
  rw [ob_s hp1]
  exact hkn
def tl_Pk (n c : Nat) : HV := [(20, rp 16), (20, rp 16), (20, rp 16), (20, rp 16), (20, rp 16), (2, [.ref c, .ref (n + 7), .ref (n + 8), .ref (n + 9), .int 0]), (20, rp 16), (20, rp 16), (20, rp 16), (8, [.ref c, .ref (n + 6), .ref (n + 11), .int 0, .int 0, .ref (n + 12), .int 0, .int 2, .int 0, .int 0, .int 0]), (20, rp 8), (20, rp 16)]
theorem sSq_sSO {r : PS} {kn kb kc : LV → HV → Prop} {kr : Option Value → HV → Prop} {ls : LV} {h : HV} {p : Nat} (h0 : ls[0]? = some (.ref p)) (hr : r kn kb kc kr ls h) : sSq sSO r kn kb kc kr ls h := ⟨⟨p, h0⟩, hr⟩
theorem i_Pack {pre : HV} {n : Nat} (hn : pre.length = n) (h2 : 2 ≤ n) {c : Nat} (Q : Option Value → HV → Prop) (h : Q none (ob pre (4, [.ref c, .ref (n + 6), .ref (n + 10), .int 2, .ref (n + 1), .ref (n + 2), .ref (n + 3), .ref (n + 4), .ref (n + 5), .int 0, .int 0, .int 0, .int 0, .int 0]) (tl_Pk n c))) : X_Pack_init [.ref n, .ref c] (ob pre (4, [.null, .null, .null, .int 0, .null, .null, .null, .null, .null, .int 0, .int 0, .int 0, .int 0, .int 0]) []) Q := by
  have L0 := ob_len (c := (4, [.null, .null, .null, .int 0, .null, .null, .null, .null, .null, .int 0, .int 0, .int 0, .int 0, .int 0])) (tl := []) hn
  have S0 := ob_sz (pre := pre) (c := (4, [.null, .null, .null, .int 0, .null, .null, .null, .null, .null, .int 0, .int 0, .int 0, .int 0, .int 0])) (tl := [])
  have S0 : hsz (ob pre (4, [.null, .null, .null, .int 0, .null, .null, .null, .null, .null, .int 0, .int 0, .int 0, .int 0, .int 0]) []) = hsz pre + (14 + 0) := S0
  have L0 : (ob pre (4, [.null, .null, .null, .int 0, .null, .null, .null, .null, .null, .int 0, .int 0, .int 0, .int 0, .int 0]) []).length = n + 1 + 0 := L0
  have rz : ∀ N : Nat, hsz [(20, rp N)] = N := fun N => by simp [hsz, rp_len]
  refine ⟨by simp [lx, Value.category], ?_⟩
  rw [L0, S0]
  unfold B_Pack_init
  refine sSq_sSO rfl ?_
  refine qI hn h2 rfl (by simp) rfl ?_
  refine qA (N := 16) (m := n + 1) rfl (by decide) hn h2 rfl (by simp; try omega) (by simp) rfl (by simp; try omega) (by simp [hsz, rp_len]; try omega) ?_
  refine qA (N := 16) (m := n + 2) rfl (by decide) hn h2 rfl (by simp; try omega) (by simp) rfl (by simp; try omega) (by simp [hsz, rp_len]; try omega) ?_
  refine qA (N := 16) (m := n + 3) rfl (by decide) hn h2 rfl (by simp; try omega) (by simp) rfl (by simp; try omega) (by simp [hsz, rp_len]; try omega) ?_
  refine qA (N := 16) (m := n + 4) rfl (by decide) hn h2 rfl (by simp; try omega) (by simp) rfl (by simp; try omega) (by simp [hsz, rp_len]; try omega) ?_
  refine qA (N := 16) (m := n + 5) rfl (by decide) hn h2 rfl (by simp; try omega) (by simp) rfl (by simp; try omega) (by simp [hsz, rp_len]; try omega) ?_
  refine qI hn h2 rfl (by simp) rfl ?_
  refine qI hn h2 rfl (by simp) rfl ?_
  refine qI hn h2 rfl (by simp) rfl ?_
  refine qI hn h2 rfl (by simp) rfl ?_
  refine qI hn h2 rfl (by simp) rfl ?_
  refine qR hn h2 rfl rfl (by simp) rfl ?_
  refine qN (m := n + 6) (t := [.ref c]) hn h2 rfl (by simp; try omega) (by simp) rfl (by simp [rm_Links_init]; try omega) (by simp [hsz, rp_len, rm_Links_init]; try omega) rfl (fun K hK => by simpa [eV, eI, eL, eR, e1, e2, eDI, eDL, eFI, eFL, eFR, eAI, eAZ, eAR, eLen, aN, aC, xV, xS, eX, eIf, eC_b, cA, cO, cN, sSk, sSq, sI, sL, sR, sInc, sF, sFO, sAI, sAZ, sAO, sX, sXp, sIf, sCut, sSqs, sSw, sRt, sRz_g, is01_b, is01_0, is01_1, sRv, sBk, sCt, sCp, lset, lclr, lcut, lini, lx, Value.category, ixOf, b2i_0, b2i_1] using hK) (fun Q hQ => i_Links (by rw [ob_len hn]; simp; try omega) (by omega) Q hQ) ?_
  refine qN (m := n + 10) (t := [.ref c, .ref (n + 6)]) hn h2 rfl (by simp; try omega) (by simp) rfl (by simp [rm_Tree_init]; try omega) (by simp [hsz, rp_len, rm_Tree_init]; try omega) rfl (fun K hK => by simpa [eV, eI, eL, eR, e1, e2, eDI, eDL, eFI, eFL, eFR, eAI, eAZ, eAR, eLen, aN, aC, xV, xS, eX, eIf, eC_b, cA, cO, cN, sSk, sSq, sI, sL, sR, sInc, sF, sFO, sAI, sAZ, sAO, sX, sXp, sIf, sCut, sSqs, sSw, sRt, sRz_g, is01_b, is01_0, is01_1, sRv, sBk, sCt, sCp, lset, lclr, lcut, lini, lx, Value.category, ixOf, b2i_0, b2i_1, ob_k hn, ob_g hn, show n ≠ 1 by omega] using hK) (fun Q hQ => i_Tree (by rw [ob_len hn]; simp; try omega) (by omega) Q hQ) ?_
  refine ⟨⟨?_, ?_⟩, h⟩
  · rw [ob_len hn]; simp; try omega
  · rw [ob_sz]; simp [hsz, rp_len]; try omega
