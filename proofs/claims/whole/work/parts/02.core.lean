/-! THE ABSTRACT MACHINE OF THIS CLAIM: an abstract heap is a list of cells (kind, contents); kinds 0..10 are the claim's classes, 20 int[], 21 boolean[], 22 int[][]; the reference k is the place k of that list; place 0 is the static array FACTORIALS, place 1 the script. -/
abbrev HV : Type := List (Nat × List Value)
abbrev LV : Type := List Value
/-- the geometry: class numbers, slots, the array classes, the addresses of the two cells that were there, the first new address -/
abbrev GT : Type := (Nat → ClassId) × (Nat → Nat → Nat) × ClassId × ClassId × ClassId × Nat × Nat × Nat
abbrev g_D (G : GT) : va_G := (G.1, G.2.1)
abbrev g_I (G : GT) : ClassId := G.2.2.1
abbrev g_Z (G : GT) : ClassId := G.2.2.2.1
abbrev g_R (G : GT) : ClassId := G.2.2.2.2.1
abbrev g_t (G : GT) : Nat := G.2.2.2.2.2.1
abbrev g_b (G : GT) : Nat := G.2.2.2.2.2.2.1
abbrev g_base (G : GT) : Nat := G.2.2.2.2.2.2.2
def g_A (G : GT) : Nat → Prop := fun q => g_base G ≤ q
def g_mu (G : GT) (k : Nat) : Nat := if k = 0 then g_t G else if k = 1 then g_b G else g_base G + (k - 2)
theorem g_mu2 (G : GT) (k : Nat) : g_mu G (k + 2) = g_base G + k := by simp [g_mu]
def cv (G : GT) (v : Value) : Value := match v with
  | .ref k => .ref (g_mu G k)
  | w => w
theorem cv_int (G : GT) (x : Int32) : cv G (.int x) = .int x := rfl
theorem cv_long (G : GT) (x : Int64) : cv G (.long x) = .long x := rfl
theorem cv_ref (G : GT) (k : Nat) : cv G (.ref k) = .ref (g_mu G k) := rfl
theorem cv_cat (G : GT) (v : Value) : (cv G v).category = v.category := by cases v <;> rfl
def c_toI (v : Value) : Int32 := match v with
  | .int x => x
  | _ => 0
def c_toR (G : GT) (v : Value) : Option Nat := match v with
  | .ref k => some (g_mu G k)
  | _ => none
/-- an abstract cell as the kit has it -/
def cE (G : GT) (c : Nat × List Value) : va_E :=
  if c.1 = 20 then .inl (g_I G, c.2.length, .inl (fun j => c_toI (c.2.getD j .null)))
  else if c.1 = 21 then .inl (g_Z G, c.2.length, .inl (fun j => c_toI (c.2.getD j .null)))
  else if c.1 = 22 then .inl (g_R G, c.2.length, .inr (.inr (.inr (.inr (fun j => c_toR G (c.2.getD j .null))))))
  else .inr (c.1, c.2.map (cv G))
theorem cE_I (G : GT) (vs : List Value) : cE G (20, vs) = .inl (g_I G, vs.length, .inl (fun j => c_toI (vs.getD j .null))) := rfl
theorem cE_Z (G : GT) (vs : List Value) : cE G (21, vs) = .inl (g_Z G, vs.length, .inl (fun j => c_toI (vs.getD j .null))) := rfl
theorem cE_R (G : GT) (vs : List Value) : cE G (22, vs) = .inl (g_R G, vs.length, .inr (.inr (.inr (.inr (fun j => c_toR G (vs.getD j .null)))))) := rfl
theorem cE_O (G : GT) {ci : Nat} (hc : ci < 20) (vs : List Value) : cE G (ci, vs) = .inr (ci, vs.map (cv G)) := by
  unfold cE
  rw [if_neg (by show ¬ ci = 20; omega), if_neg (by show ¬ ci = 21; omega), if_neg (by show ¬ ci = 22; omega)]
/-- the cells with their addresses -/
def wsAt (G : GT) : Nat → HV → va_W
  | _, [] => []
  | k, c :: t => (g_base G + k, cE G c) :: wsAt G (k + 1) t
def wsOf (G : GT) (h : HV) : va_W := wsAt G 0 (h.drop 2)
theorem wsAt_get (G : GT) : ∀ (h : HV) (k q : Nat), (wsAt G k h)[q]? = (h[q]?).map (fun c => (g_base G + (k + q), cE G c))
  | [], k, q => by simp [wsAt]
  | c :: t, k, 0 => by simp [wsAt]
  | c :: t, k, q + 1 => by
    simp only [wsAt, List.getElem?_cons_succ]
    rw [wsAt_get G t (k + 1) q, show k + 1 + q = k + (q + 1) by omega]
theorem wsAt_set (G : GT) : ∀ (h : HV) (k q : Nat) (c : Nat × List Value), (wsAt G k h).set q (g_base G + (k + q), cE G c) = wsAt G k (h.set q c)
  | [], k, q, c => by simp [wsAt]
  | a :: t, k, 0, c => by simp [wsAt]
  | a :: t, k, q + 1, c => by
    simp only [wsAt, List.set_cons_succ]
    rw [← wsAt_set G t (k + 1) q c, show k + 1 + q = k + (q + 1) by omega]
theorem wsAt_app (G : GT) : ∀ (h : HV) (k : Nat) (c : Nat × List Value), wsAt G k (h ++ [c]) = wsAt G k h ++ [(g_base G + (k + h.length), cE G c)]
  | [], k, c => by simp [wsAt]
  | a :: t, k, c => by
    simp only [wsAt, List.cons_append, List.length_cons]
    rw [wsAt_app G t (k + 1) c, show k + 1 + t.length = k + (t.length + 1) by omega]
theorem wsOf_get (G : GT) {h : HV} {r : Nat} {c : Nat × List Value} (hr : h[r + 2]? = some c) : (wsOf G h)[r]? = some (g_base G + r, cE G c) := by
  unfold wsOf
  rw [wsAt_get, List.getElem?_drop, show 2 + r = r + 2 by omega, hr]
  simp
theorem wsOf_set (G : GT) (h : HV) (r : Nat) (c : Nat × List Value) : (wsOf G h).set r (g_base G + r, cE G c) = wsOf G (h.set (r + 2) c) := by
  unfold wsOf
  have e := wsAt_set G (h.drop 2) 0 r c
  rw [show 0 + r = r by omega] at e
  rw [e]
  congr 1
  rw [List.drop_set, if_neg (by omega), show r + 2 - 2 = r by omega]
theorem wsOf_app (G : GT) {h : HV} (h2 : 2 ≤ h.length) (c : Nat × List Value) : wsOf G (h ++ [c]) = wsOf G h ++ [(g_base G + (h.length - 2), cE G c)] := by
  unfold wsOf
  rw [List.drop_append_of_le_length h2, wsAt_app, List.length_drop]
  simp
theorem wsOf_len (G : GT) (h : HV) {k : Nat} {q : Nat × va_E} (hk : (wsOf G h)[k]? = some q) : q.1 = g_base G + k ∧ k + 2 < h.length := by
  unfold wsOf at hk
  rw [wsAt_get, Option.map_eq_some_iff] at hk
  obtain ⟨c, hc, rfl⟩ := hk
  refine ⟨by simp, ?_⟩
  have := (List.getElem?_eq_some_iff.mp hc).1
  rw [List.length_drop] at this
  omega
theorem wsOf_D (G : GT) (h : HV) : va_D (g_A G) (wsOf G h) := by
  refine ⟨fun i j p q hi hj he => ?_, fun k q hk => ?_⟩
  · have a := (wsOf_len G h hi).1
    have b := (wsOf_len G h hj).1
    omega
  · rw [(wsOf_len G h hk).1]
    exact Nat.le_add_right _ _
/-- reading and writing the abstract heap -/
def hg (h : HV) (r k : Nat) : Option Value := (h[r]?).bind fun c => c.2[k]?
def hk (h : HV) (r : Nat) : Option Nat := (h[r]?).map fun c => c.1
def hn (h : HV) (r : Nat) : Option Nat := (h[r]?).map fun c => c.2.length
def hs (h : HV) (r k : Nat) (v : Value) : HV := match h[r]? with
  | some c => h.set r (c.1, c.2.set k v)
  | none => h
def hsz : HV → Nat
  | [] => 0
  | c :: t => c.2.length + hsz t
theorem hs_len (h : HV) (r k : Nat) (v : Value) : (hs h r k v).length = h.length := by
  unfold hs; split <;> simp
theorem hsz_set : ∀ (h : HV) (r : Nat) (c c' : Nat × List Value), h[r]? = some c → c'.2.length = c.2.length → hsz (h.set r c') = hsz h
  | [], r, c, c', h1, _ => by simp at h1
  | a :: t, 0, c, c', h1, h2 => by
    simp at h1; subst h1
    simp [hsz, h2]
  | a :: t, r + 1, c, c', h1, h2 => by
    simp at h1
    simp [hsz, hsz_set t r c c' h1 h2]
theorem hsz_app : ∀ (h : HV) (c : Nat × List Value), hsz (h ++ [c]) = hsz h + c.2.length
  | [], c => by simp [hsz]
  | a :: t, c => by simp [hsz, hsz_app t c]; omega
theorem hs_sz (h : HV) (r k : Nat) (v : Value) : hsz (hs h r k v) = hsz h := by
  unfold hs; split
  · next c hc => exact hsz_set h r c _ hc (by simp)
  · rfl
theorem hg_some {h : HV} {r k : Nat} {v : Value} (e : hg h r k = some v) : ∃ c, h[r]? = some c ∧ c.2[k]? = some v := by
  unfold hg at e
  exact Option.bind_eq_some_iff.mp e
theorem hk_some {h : HV} {r k : Nat} (e : hk h r = some k) : ∃ c, h[r]? = some c ∧ c.1 = k := by
  unfold hk at e
  exact Option.map_eq_some_iff.mp e
theorem hk_cell {h : HV} {r ci : Nat} (e : hk h r = some ci) : ∃ vs, h[r]? = some (ci, vs) := by
  obtain ⟨⟨a, b⟩, h1, h2⟩ := hk_some e
  exact ⟨b, by rw [h1]; cases h2; rfl⟩
theorem hs_eq {h : HV} {r k ci : Nat} {vs : List Value} {v : Value} (e : h[r]? = some (ci, vs)) : hs h r k v = h.set r (ci, vs.set k v) := by
  unfold hs; rw [e]
theorem hg_eq {h : HV} {r k ci : Nat} {vs : List Value} (e : h[r]? = some (ci, vs)) : hg h r k = vs[k]? := by
  unfold hg; rw [e]; rfl
/-- locals: a list by slots, null where nothing is known -/
def lclr (v : Value) : Value := if v.category = 2 then .null else v
def lset : LV → Nat → Value → LV
  | [], _, _ => []
  | _ :: t, 0, v => v :: t
  | a :: t, n + 1, v => (if n = 0 then lclr a else a) :: lset t n v
def lcut : Nat → LV → LV
  | _, [] => []
  | 0, _ :: t => .null :: lcut 0 t
  | n + 1, a :: t => a :: lcut n t
theorem lset_len : ∀ (ls : LV) (i : Nat) (v : Value), (lset ls i v).length = ls.length
  | [], _, _ => rfl
  | _ :: _, 0, _ => rfl
  | a :: t, n + 1, v => by simp [lset, lset_len t n v]
theorem lcut_len : ∀ (n : Nat) (ls : LV), (lcut n ls).length = ls.length
  | _, [] => by simp [lcut]
  | 0, _ :: t => by simp [lcut, lcut_len 0 t]
  | n + 1, _ :: t => by simp [lcut, lcut_len n t]
theorem lcut_get : ∀ (n : Nat) (ls : LV) (i : Nat) (v : Value), (lcut n ls)[i]? = some v → v ≠ .null → ls[i]? = some v
  | _, [], i, v, h, _ => by simp [lcut] at h
  | 0, _ :: t, 0, v, h, hv => by simp [lcut] at h; exact absurd h.symm hv
  | 0, _ :: t, i + 1, v, h, hv => by
    simp only [lcut, List.getElem?_cons_succ] at h ⊢
    exact lcut_get 0 t i v h hv
  | n + 1, a :: t, 0, v, h, _ => by simpa [lcut] using h
  | n + 1, a :: t, i + 1, v, h, hv => by
    simp only [lcut, List.getElem?_cons_succ] at h ⊢
    exact lcut_get n t i v h hv
theorem lset_self : ∀ (ls : LV) (i : Nat) (v : Value), i < ls.length → (lset ls i v)[i]? = some v
  | [], _, _, h => by simp at h
  | _ :: _, 0, _, _ => rfl
  | a :: t, n + 1, v, h => by
    simp only [lset, List.getElem?_cons_succ]
    exact lset_self t n v (by simpa using h)
theorem lset_ne : ∀ (ls : LV) (i : Nat) (v : Value) (j : Nat) (w : Value), j ≠ i → (lset ls i v)[j]? = some w → w ≠ .null → ls[j]? = some w ∧ (j + 1 = i → w.category ≠ 2)
  | [], _, _, _, _, _, h, _ => by simp [lset] at h
  | a :: t, 0, v, 0, w, hne, _, _ => absurd rfl hne
  | a :: t, 0, v, j + 1, w, _, h, _ => by
    simp only [lset, List.getElem?_cons_succ] at h ⊢
    exact ⟨h, fun e => by omega⟩
  | a :: t, n + 1, v, 0, w, _, h, hw => by
    simp only [lset, List.getElem?_cons_zero] at h ⊢
    by_cases hn : n = 0
    · rw [if_pos hn] at h
      unfold lclr at h
      split at h
      · exact absurd (Option.some.inj h).symm hw
      · next hc => exact ⟨h, fun _ => by cases h; exact hc⟩
    · rw [if_neg hn] at h
      exact ⟨h, fun e => by omega⟩
  | a :: t, n + 1, v, j + 1, w, hne, h, hw => by
    simp only [lset, List.getElem?_cons_succ] at h ⊢
    obtain ⟨h1, h2⟩ := lset_ne t n v j w (by omega) h hw
    exact ⟨h1, fun e => h2 (by omega)⟩
/-- a machine's locals and the abstract ones -/
def asc (G : GT) (ls : LV) : List (Nat × Value) := (List.range ls.length).filterMap fun i => match ls[i]? with
  | some v => if v = .null then none else some (i, cv G v)
  | none => none
theorem asc_mem {G : GT} {ls : LV} {q : Nat × Value} : q ∈ asc G ls ↔ ∃ v, ls[q.1]? = some v ∧ v ≠ .null ∧ q.2 = cv G v := by
  unfold asc
  rw [List.mem_filterMap]
  constructor
  · rintro ⟨i, hi, h⟩
    rw [List.mem_range] at hi
    rw [List.getElem?_eq_getElem hi] at h
    simp only at h
    split at h
    · cases h
    · next hne => cases h; exact ⟨ls[i], by rw [List.getElem?_eq_getElem hi], hne, rfl⟩
  · rintro ⟨v, h1, h2, h3⟩
    refine ⟨q.1, List.mem_range.mpr (List.getElem?_eq_some_iff.mp h1).1, ?_⟩
    rw [h1]
    simp only
    rw [if_neg h2]
    rw [← h3]
def Lh (G : GT) (nL : Nat) (mls : Array Slot) (ls : LV) : Prop := ls.length = nL ∧ lv_has mls nL (asc G ls)
theorem Lh_at {G : GT} {nL : Nat} {mls : Array Slot} {ls : LV} (h : Lh G nL mls ls) {i : Nat} {v : Value} (hv : ls[i]? = some v) (hne : v ≠ .null) : mls[i]? = some (.val (cv G v)) :=
  h.2.2.2 (i, cv G v) (asc_mem.mpr ⟨v, hv, hne, rfl⟩)
theorem Lh_size {G : GT} {nL : Nat} {mls : Array Slot} {ls : LV} (h : Lh G nL mls ls) : mls.size = nL := h.2.1
theorem Lh_weak {G : GT} {nL : Nat} {mls : Array Slot} {ls ls' : LV} (h : Lh G nL mls ls) (hl : ls'.length = ls.length) (hs : ∀ (i : Nat) (v : Value), ls'[i]? = some v → v ≠ .null → ls[i]? = some v) : Lh G nL mls ls' :=
  ⟨hl.trans h.1, h.2.1, h.2.2.1, fun q hq => by
    obtain ⟨v, h1, h2, h3⟩ := asc_mem.mp hq
    exact h.2.2.2 q (asc_mem.mpr ⟨v, hs _ _ h1 h2, h2, h3⟩)⟩
theorem Lh_cut {G : GT} {nL : Nat} {mls : Array Slot} {ls : LV} (n : Nat) (h : Lh G nL mls ls) : Lh G nL mls (lcut n ls) := Lh_weak h (lcut_len n ls) (lcut_get n ls)
theorem Lh_set1 {G : GT} {nL : Nat} {mls : Array Slot} {ls : LV} {i : Nat} {v : Value} (hl : ls.length = nL) (hi : i < nL) (h : lv_has mls nL ((i, cv G v) :: (asc G ls).filter (fun q => !(q.1 == i) && !(q.1 + 1 == i && q.2.category == 2)))) : Lh G nL mls (lset ls i v) := by
  refine ⟨(lset_len ls i v).trans hl, h.1, h.2.1, fun q hq => ?_⟩
  obtain ⟨w, h1, h2, h3⟩ := asc_mem.mp hq
  by_cases e : q.1 = i
  · rw [e, lset_self ls i v (by omega)] at h1
    cases h1
    have := h.2.2 (i, cv G v) List.mem_cons_self
    rw [e, h3]; exact this
  · obtain ⟨a, b⟩ := lset_ne ls i v q.1 w e h1 h2
    refine h.2.2 q (List.mem_cons_of_mem _ (List.mem_filter.mpr ⟨asc_mem.mpr ⟨w, a, h2, h3⟩, ?_⟩))
    have hc : q.2.category = w.category := by rw [h3, cv_cat]
    simp only [Bool.and_eq_true, Bool.not_eq_true', beq_eq_false_iff_ne, ne_eq, Bool.and_eq_false_iff, hc]
    refine ⟨e, ?_⟩
    by_cases e2 : q.1 + 1 = i
    · exact Or.inr (b e2)
    · exact Or.inl e2
theorem Lh_set2 {G : GT} {nL : Nat} {mls : Array Slot} {ls : LV} {i : Nat} {v : Value} (hl : ls.length = nL) (hi : i + 1 < nL) (h : lv_has mls nL ((i, cv G v) :: (asc G ls).filter (fun q => !(q.1 == i) && (!(q.1 == i + 1) && !(q.1 + 1 == i && q.2.category == 2))))) : Lh G nL mls (lset (lset ls (i + 1) .null) i v) := by
  refine ⟨(lset_len _ i v).trans ((lset_len ls _ _).trans hl), h.1, h.2.1, fun q hq => ?_⟩
  obtain ⟨w, h1, h2, h3⟩ := asc_mem.mp hq
  by_cases e : q.1 = i
  · rw [e, lset_self _ i v (by rw [lset_len]; omega)] at h1
    cases h1
    have := h.2.2 (i, cv G v) List.mem_cons_self
    rw [e, h3]; exact this
  · obtain ⟨a, b⟩ := lset_ne _ i v q.1 w e h1 h2
    by_cases e1 : q.1 = i + 1
    · rw [e1, lset_self ls (i + 1) .null (by omega)] at a
      exact absurd (Option.some.inj a).symm h2
    · obtain ⟨a', b'⟩ := lset_ne ls (i + 1) .null q.1 w e1 a h2
      refine h.2.2 q (List.mem_cons_of_mem _ (List.mem_filter.mpr ⟨asc_mem.mpr ⟨w, a', h2, h3⟩, ?_⟩))
      have hc : q.2.category = w.category := by rw [h3, cv_cat]
      simp only [Bool.and_eq_true, Bool.not_eq_true', beq_eq_false_iff_ne, ne_eq, Bool.and_eq_false_iff, hc]
      refine ⟨e, e1, ?_⟩
      by_cases e2 : q.1 + 1 = i
      · exact Or.inr (b e2)
      · exact Or.inl e2
