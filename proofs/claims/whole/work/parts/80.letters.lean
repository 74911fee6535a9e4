/-! the text, letter by letter -/
abbrev PSt : Type := Nat × (Nat × Nat × Nat) × PC × Nat × List Nat
def kindN (c : Nat) : Option Nat := if c = 108 then some 0 else if c = 107 then some 1 else if c = 43 then some 2 else if c = 45 then some 3 else if c = 42 then some 4 else if c = 47 then some 5 else if c = 115 then some 6 else none
def digN (lim c : Nat) : Option Nat := if 48 ≤ c ∧ c < 48 + lim then some (c - 48) else none
def opN (P : PC) (c : Nat) : Option Nat := if 97 ≤ c ∧ c - 97 < P.1 ∧ pK P (c - 97) ≠ 6 then some (c - 97) else none
def rowN (c : Nat) : Option Nat := if c = 65 then some 0 else if c = 66 then some 1 else none
def partN (P : PC) (k part c : Nat) : Option Nat := if k = 1 then digN 10 c else if (k = 0 ∨ k = 6) ∧ part = 1 then rowN c else if (k = 0 ∨ k = 6) ∧ part = 2 then digN 8 c else opN P c
def szN (k : Nat) : Nat := if k = 1 then 1 else if k = 6 then 3 else 2
def addP (P : PC) (k : Nat) (ps : List Nat) : PC := (P.1 + 1, fun i => if i = P.1 then (k, ps.getD 0 0, ps.getD 1 0, ps.getD 2 0) else P.2 i)
def anyV (P : PC) : Bool := !allB (fun i => decide (pK P i = 6)) P.1
def begN (P : PC) (k : Nat) : Bool := decide (P.1 < 16) && (decide (k = 0) || decide (k = 1) || anyV P)
def hdOk (at_ c : Nat) : Bool := if at_ = 0 then decide (c = 86) else if at_ = 1 then decide (48 ≤ c) && decide (c ≤ 56) else if at_ = 2 then decide (c = 48) || decide (c = 49) else decide (c = 50) || decide (c = 52)
def hdPut (at_ c : Nat) (h : Nat × Nat × Nat) : Nat × Nat × Nat := if at_ = 1 then (c - 48, h.2.1, h.2.2) else if at_ = 2 then (h.1, c - 48, h.2.2) else if at_ = 3 then (h.1, h.2.1, c - 48) else h
def aftN (h : Nat × Nat × Nat) (P : PC) (k : Nat) (ps : List Nat) : PSt := if ps.length = szN k then (4, h, addP P k ps, 0, []) else (5, h, P, k, ps)
def pLet (σ : PSt) (c : Nat) : Option PSt :=
  if σ.1 < 4 then (if hdOk σ.1 c then some (σ.1 + 1, hdPut σ.1 c σ.2.1, σ.2.2) else none)
  else if σ.1 = 4 then (match kindN c with
    | none => none
    | some k => if begN σ.2.2.1 k then some (5, σ.2.1, σ.2.2.1, k, []) else none)
  else (match partN σ.2.2.1 σ.2.2.2.1 (σ.2.2.2.2.length + 1) c with
    | none => none
    | some v => some (aftN σ.2.1 σ.2.2.1 σ.2.2.2.1 (σ.2.2.2.2 ++ [v])))
def pGo : PSt → Nat → List Nat → Int32 × PSt
  | σ, i, [] => (if σ.1 = 4 then -9 else nI i, σ)
  | σ, i, c :: t => match pLet σ c with
    | none => (nI i, σ)
    | some σ' => pGo σ' (i + 1) t
def e0P : PC := (0, fun _ => (0, 0, 0, 0))
def pRes (t : List Nat) : Int32 × PSt := pGo (0, (0, 0, 0), e0P, 0, []) 0 t
theorem pGo_nil (σ : PSt) (i : Nat) : pGo σ i [] = (if σ.1 = 4 then -9 else nI i, σ) := rfl
theorem drop_c {t : List Nat} {n : Nat} (h : n < t.length) : t.drop n = t.getD n 0 :: t.drop (n + 1) := by
  rw [List.getD_eq_getElem?_getD, List.getElem?_eq_getElem h]
  exact List.drop_eq_getElem_cons h
theorem pGo_some {σ σ' : PSt} {t : List Nat} {n : Nat} (h : n < t.length) (hl : pLet σ (t.getD n 0) = some σ') : pGo σ n (t.drop n) = pGo σ' (n + 1) (t.drop (n + 1)) := by
  rw [drop_c h, pGo, hl]
theorem pGo_none {σ : PSt} {t : List Nat} {n : Nat} (h : n < t.length) (hl : pLet σ (t.getD n 0) = none) : pGo σ n (t.drop n) = (nI n, σ) := by
  rw [drop_c h, pGo, hl]
theorem pGo_end {σ : PSt} {t : List Nat} {n : Nat} (h : t.length ≤ n) : pGo σ n (t.drop n) = (if σ.1 = 4 then -9 else nI n, σ) := by
  rw [List.drop_eq_nil_of_le h]
  rfl
/-- a part that can stand there -/
def okPt (P : PC) (k q v : Nat) : Prop := if k = 1 then v < 10 else if (k = 0 ∨ k = 6) ∧ q = 0 then v < 2 else if (k = 0 ∨ k = 6) ∧ q = 1 then v < 8 else v < P.1 ∧ pK P v ≠ 6
theorem partN_ok {P : PC} {k q c v : Nat} (h : partN P k (q + 1) c = some v) : okPt P k q v := by
  unfold partN at h
  unfold okPt
  by_cases k1 : k = 1
  · rw [if_pos k1] at h ⊢
    unfold digN at h
    split at h
    · cases h; omega
    · cases h
  · rw [if_neg k1] at h ⊢
    by_cases c1 : (k = 0 ∨ k = 6) ∧ q = 0
    · rw [if_pos ⟨c1.1, by omega⟩] at h
      rw [if_pos c1]
      unfold rowN at h
      split at h
      · cases h; omega
      · split at h
        · cases h; omega
        · cases h
    · rw [if_neg (by omega)] at h
      rw [if_neg c1]
      by_cases c2 : (k = 0 ∨ k = 6) ∧ q = 1
      · rw [if_pos ⟨c2.1, by omega⟩] at h
        rw [if_pos c2]
        unfold digN at h
        split at h
        · cases h; omega
        · cases h
      · rw [if_neg (by omega)] at h
        rw [if_neg c2]
        unfold opN at h
        split at h
        · next z => cases h; exact z.2
        · cases h
theorem addP_old {P : PC} {k : Nat} {ps : List Nat} {i : Nat} (h : i < P.1) : pK (addP P k ps) i = pK P i ∧ pa (addP P k ps) i = pa P i ∧ pb (addP P k ps) i = pb P i ∧ pc (addP P k ps) i = pc P i := by
  unfold pK pa pb pc addP
  simp only
  rw [if_neg (by omega)]
  exact ⟨rfl, rfl, rfl, rfl⟩
theorem addP_new (P : PC) (k : Nat) (ps : List Nat) : pK (addP P k ps) P.1 = k ∧ pa (addP P k ps) P.1 = ps.getD 0 0 ∧ pb (addP P k ps) P.1 = ps.getD 1 0 ∧ pc (addP P k ps) P.1 = ps.getD 2 0 := by
  unfold pK pa pb pc addP
  simp only
  rw [if_pos trivial]
  exact ⟨rfl, rfl, rfl, rfl⟩
theorem addP_ok {P : PC} {k : Nat} {ps : List Nat} (hP : okP P) (h16 : P.1 < 16) (hk : k ≤ 6) (hl : ps.length = szN k) (hp : ∀ q, q < ps.length → okPt P k q (ps.getD q 0)) : okP (addP P k ps) := by
  refine ⟨by show P.1 + 1 ≤ 16; omega, fun i hi => ?_⟩
  have hi : i < P.1 + 1 := hi
  by_cases e : i = P.1
  · subst e
    obtain ⟨n1, n2, n3, n4⟩ := addP_new P k ps
    unfold okI
    rw [n1, n2, n3, n4]
    have old : ∀ v, v < P.1 → pK (addP P k ps) v = pK P v := fun v hv => (addP_old hv).1
    rcases (show k = 0 ∨ k = 1 ∨ (2 ≤ k ∧ k ≤ 5) ∨ k = 6 by omega) with rfl | rfl | q | rfl
    · have a := hp 0 (by rw [hl]; decide)
      have b := hp 1 (by rw [hl]; decide)
      simp [okPt] at a b
      simp
      exact ⟨a, b⟩
    · have a := hp 0 (by rw [hl]; decide)
      simp [okPt] at a
      simp
      exact a
    · have s2 : szN k = 2 := by unfold szN; rw [if_neg (by omega), if_neg (by omega)]
      have a := hp 0 (by rw [hl, s2]; decide)
      have b := hp 1 (by rw [hl, s2]; decide)
      unfold okPt at a b
      rw [if_neg (by omega), if_neg (by omega), if_neg (by omega)] at a b
      refine ⟨by omega, by omega, by omega, fun _ _ => ⟨⟨a.1, ?_⟩, b.1, ?_⟩, by omega⟩
      · rw [old _ a.1]; exact a.2
      · rw [old _ b.1]; exact b.2
    · have a := hp 0 (by rw [hl]; decide)
      have b := hp 1 (by rw [hl]; decide)
      have c := hp 2 (by rw [hl]; decide)
      unfold okPt at a b c
      rw [if_neg (by omega), if_pos (by omega)] at a
      rw [if_neg (by omega), if_neg (by omega), if_pos (by omega)] at b
      rw [if_neg (by omega), if_neg (by omega), if_neg (by omega)] at c
      refine ⟨by omega, by omega, by omega, by omega, fun _ => ⟨a, b, c.1, ?_⟩⟩
      rw [old _ c.1]; exact c.2
  · have hi : i < P.1 := by omega
    obtain ⟨o1, o2, o3, o4⟩ := addP_old (k := k) (ps := ps) hi
    have h := hP.2 i hi
    unfold okI at h ⊢
    rw [o1, o2, o3, o4]
    refine ⟨h.1, h.2.1, h.2.2.1, fun a b => ?_, fun a => ?_⟩
    · obtain ⟨⟨x1, x2⟩, x3, x4⟩ := h.2.2.2.1 a b
      exact ⟨⟨x1, by rw [(addP_old (k := k) (ps := ps) (show pa P i < P.1 by omega)).1]; exact x2⟩, x3, by rw [(addP_old (k := k) (ps := ps) (show pb P i < P.1 by omega)).1]; exact x4⟩
    · obtain ⟨x1, x2, x3, x4⟩ := h.2.2.2.2 a
      exact ⟨x1, x2, x3, by rw [(addP_old (k := k) (ps := ps) (show pc P i < P.1 by omega)).1]; exact x4⟩
theorem kindN_6 {c k : Nat} (h : kindN c = some k) : k ≤ 6 := by
  unfold kindN at h
  repeat' split at h
  all_goals first | (cases h; done) | (cases h; omega)
def gdS (σ : PSt) : Prop := okP σ.2.2.1 ∧ (2 ≤ σ.1 → σ.2.1.1 ≤ 8) ∧ (3 ≤ σ.1 → σ.2.1.2.1 ≤ 1) ∧ (4 ≤ σ.1 → σ.2.1.2.2 = 2 ∨ σ.2.1.2.2 = 4) ∧ (σ.1 < 4 → σ.2.2.1 = e0P) ∧ (5 ≤ σ.1 → σ.1 = 5 ∧ σ.2.2.1.1 < 16 ∧ σ.2.2.2.1 ≤ 6 ∧ σ.2.2.2.2.length < szN σ.2.2.2.1 ∧ ∀ q, q < σ.2.2.2.2.length → okPt σ.2.2.1 σ.2.2.2.1 q (σ.2.2.2.2.getD q 0))
theorem gdS_0 : gdS (0, (0, 0, 0), e0P, 0, []) := ⟨⟨by simp [e0P], fun i hi => by simp [e0P] at hi⟩, by simp, by simp, by simp, by simp, by simp⟩
theorem szN_pos (k : Nat) : 0 < szN k := by unfold szN; split <;> (try split) <;> omega
theorem pLet_gd {σ σ' : PSt} {c : Nat} (h : gdS σ) (hl : pLet σ c = some σ') : gdS σ' := by
  obtain ⟨p, hh, P, k, ps⟩ := σ
  obtain ⟨g1, g2, g3, g4, g5, g6⟩ := h
  dsimp only at g1 g2 g3 g4 g5 g6
  unfold pLet at hl
  dsimp only at hl
  by_cases p4 : p < 4
  · rw [if_pos p4] at hl
    by_cases ho : hdOk p c = true
    · rw [if_pos ho] at hl
      cases hl
      have e := g5 p4
      refine ⟨g1, fun _ => ?_, fun _ => ?_, fun _ => ?_, fun _ => e, fun q => by dsimp only at q; omega⟩
      · dsimp only
        rcases (show p = 0 ∨ p = 1 ∨ p = 2 ∨ p = 3 by omega) with rfl | rfl | rfl | rfl
        · rename_i q; dsimp only at q; omega
        · simp [hdOk] at ho; simp [hdPut]; omega
        · simp [hdPut]; exact g2 (by omega)
        · simp [hdPut]; exact g2 (by omega)
      · dsimp only
        rcases (show p = 0 ∨ p = 1 ∨ p = 2 ∨ p = 3 by omega) with rfl | rfl | rfl | rfl
        · rename_i q; dsimp only at q; omega
        · rename_i q; dsimp only at q; omega
        · simp [hdOk] at ho; simp [hdPut]; omega
        · simp [hdPut]; exact g3 (by omega)
      · dsimp only
        have p3 : p = 3 := by rename_i q; dsimp only at q; omega
        subst p3
        simp [hdOk] at ho
        simp [hdPut]
        omega
    · rw [if_neg ho] at hl
      cases hl
  · rw [if_neg p4] at hl
    by_cases e4 : p = 4
    · subst e4
      rw [if_pos rfl] at hl
      cases hk : kindN c with
      | none => rw [hk] at hl; cases hl
      | some k' =>
        rw [hk] at hl
        dsimp only at hl
        by_cases hb : begN P k' = true
        · rw [if_pos hb] at hl
          cases hl
          unfold begN at hb
          simp only [Bool.and_eq_true, decide_eq_true_eq] at hb
          exact ⟨g1, fun _ => g2 (by omega), fun _ => g3 (by omega), fun _ => g4 (by omega), fun q => by dsimp only at q; omega, fun _ => ⟨rfl, hb.1, kindN_6 hk, by simpa using szN_pos k', fun q hq => by simp at hq⟩⟩
        · rw [if_neg hb] at hl
          cases hl
    · rw [if_neg e4] at hl
      obtain ⟨x1, x2, x3, x4, x5⟩ := g6 (by omega)
      subst x1
      cases hp : partN P k (ps.length + 1) c with
      | none => rw [hp] at hl; cases hl
      | some v =>
        rw [hp] at hl
        have hl : some (aftN hh P k (ps ++ [v])) = some σ' := hl
        cases hl
        have ok2 : ∀ q, q < (ps ++ [v]).length → okPt P k q ((ps ++ [v]).getD q 0) := by
          intro q hq
          rw [getD_app1 hq]
          split
          · next e => rw [e]; exact partN_ok hp
          · next e =>
            simp only [List.length_append, List.length_singleton] at hq
            exact x5 q (by omega)
        unfold aftN
        split
        · next e =>
          exact ⟨addP_ok g1 x2 x3 e ok2, fun _ => g2 (by omega), fun _ => g3 (by omega), fun _ => g4 (by omega), fun q => by dsimp only at q; omega, fun q => by dsimp only at q; omega⟩
        · next e =>
          exact ⟨g1, fun _ => g2 (by omega), fun _ => g3 (by omega), fun _ => g4 (by omega), fun q => by dsimp only at q; omega, fun _ => ⟨rfl, x2, x3, by
            dsimp only
            simp only [List.length_append, List.length_singleton] at e ⊢
            omega, ok2⟩⟩
theorem pGo_gd : ∀ (t : List Nat) (σ : PSt) (i : Nat), gdS σ → i + t.length < 2 ^ 31 → (pGo σ i t).1 = -9 → (pGo σ i t).2.1 = 4 ∧ gdS (pGo σ i t).2
  | [], σ, i, h, hi, hr => by
    rw [pGo_nil] at hr ⊢
    dsimp only at hr ⊢
    by_cases e : σ.1 = 4
    · exact ⟨e, h⟩
    · rw [if_neg e, nI_n9 (by simp at hi; omega)] at hr
      exact hr.elim
  | c :: t, σ, i, h, hi, hr => by
    rw [pGo] at hr ⊢
    simp only [List.length_cons] at hi
    cases hl : pLet σ c with
    | none =>
      rw [hl] at hr
      have hr : nI i = -9 := hr
      rw [nI_n9 (by omega)] at hr
      exact hr.elim
    | some σ' =>
      rw [hl] at hr
      exact pGo_gd t σ' (i + 1) (pLet_gd h hl) (by omega) hr
theorem pGo_hd : ∀ (t : List Nat) (σ : PSt) (i : Nat), 4 ≤ σ.1 → (pGo σ i t).2.2.1 = σ.2.1
  | [], σ, i, h => rfl
  | c :: t, σ, i, h => by
    rw [pGo]
    cases hl : pLet σ c with
    | none => rfl
    | some σ' =>
      have e : 4 ≤ σ'.1 ∧ σ'.2.1 = σ.2.1 := by
        unfold pLet at hl
        rw [if_neg (by omega)] at hl
        split at hl
        · split at hl
          · cases hl
          · split at hl
            · cases hl; exact ⟨by show 4 ≤ 5; omega, rfl⟩
            · cases hl
        · split at hl
          · cases hl
          · cases hl
            unfold aftN
            split
            · exact ⟨by show 4 ≤ 4; omega, rfl⟩
            · exact ⟨by show 4 ≤ 5; omega, rfl⟩
      show (pGo σ' (i + 1) t).2.2.1 = _
      rw [pGo_hd t σ' (i + 1) e.1, e.2]
theorem pRes_hd {t : List Nat} (hl : t.length ≤ 80) (h : (pRes t).1 = -9) : 4 ≤ t.length ∧ t.getD 1 0 = (pRes t).2.2.1.1 + 48 ∧ t.getD 2 0 = (pRes t).2.2.1.2.1 + 48 ∧ t.getD 3 0 = (pRes t).2.2.1.2.2 + 48 := by
  have bad : ∀ i : Nat, i < 100 → nI i = -9 → False := fun i hi q => by rw [nI_n9 (by omega)] at q; exact q
  unfold pRes at h ⊢
  match t with
  | [] => exact (bad 0 (by omega) h).elim
  | c0 :: t1 =>
    rw [pGo] at h ⊢
    simp only [pLet, Nat.zero_lt_succ, if_true] at h ⊢
    by_cases h0 : hdOk 0 c0 = true
    · simp only [h0, if_true] at h ⊢
      match t1 with
      | [] => exact (bad 1 (by omega) h).elim
      | c1 :: t2 =>
        rw [pGo] at h ⊢
        simp only [pLet, Nat.reduceLT, Nat.reduceAdd, if_true] at h ⊢
        by_cases h1 : hdOk 1 c1 = true
        · simp only [h1, if_true] at h ⊢
          match t2 with
          | [] => exact (bad 2 (by omega) h).elim
          | c2 :: t3 =>
            rw [pGo] at h ⊢
            simp only [pLet, Nat.reduceLT, Nat.reduceAdd, if_true] at h ⊢
            by_cases h2 : hdOk 2 c2 = true
            · simp only [h2, if_true] at h ⊢
              match t3 with
              | [] => exact (bad 3 (by omega) h).elim
              | c3 :: t4 =>
                rw [pGo] at h ⊢
                simp only [pLet, Nat.reduceLT, Nat.reduceAdd, if_true] at h ⊢
                by_cases h3 : hdOk 3 c3 = true
                · simp only [h3, if_true] at h ⊢
                  rw [pGo_hd _ _ _ (by simp)]
                  simp [hdOk] at h1 h2 h3
                  simp [hdPut]
                  omega
                · simp only [h3, Bool.false_eq_true, if_false] at h
                  exact (bad 3 (by omega) h).elim
            · simp only [h2, Bool.false_eq_true, if_false] at h
              exact (bad 2 (by omega) h).elim
        · simp only [h1, Bool.false_eq_true, if_false] at h
          exact (bad 1 (by omega) h).elim
    · simp only [h0, Bool.false_eq_true, if_false] at h
      exact (bad 0 (by omega) h).elim
