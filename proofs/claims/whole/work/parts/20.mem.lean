/-! the memory behind the constructors: every cell with its kind and, for each place, 0 an int, 1 a long, k + 2 the reference k -/
def shT : List (Nat × List Nat) := [(9, [5, 8, 15, 22, 23, 24, 25, 26, 29, 34, 37, 50, 63, 66, 1]),
  (7, [6, 7, 0]),
  (20, List.replicate 80 0),
  (20, List.replicate 4 0),
  (1, [9, 10, 11, 12, 13, 14, 0]),
  (20, List.replicate 16 0),
  (20, List.replicate 16 0),
  (20, List.replicate 16 0),
  (20, List.replicate 16 0),
  (20, List.replicate 16 0),
  (20, List.replicate 16 0),
  (1, [16, 17, 18, 19, 20, 21, 0]),
  (20, List.replicate 16 0),
  (20, List.replicate 16 0),
  (20, List.replicate 16 0),
  (20, List.replicate 16 0),
  (20, List.replicate 16 0),
  (20, List.replicate 16 0),
  (20, List.replicate 19 0),
  (20, List.replicate 19 0),
  (20, List.replicate 19 0),
  (20, List.replicate 3 0),
  (0, [27, 28, 0]),
  (20, List.replicate 14 0),
  (20, List.replicate 14 0),
  (6, [30, 31]),
  (21, List.replicate 2 0),
  (22, [32, 33]),
  (20, List.replicate 19 0),
  (20, List.replicate 19 0),
  (5, [35, 36, 0]),
  (20, List.replicate 6 0),
  (20, List.replicate 6 0),
  (4, [8, 43, 47, 0, 38, 39, 40, 41, 42, 0, 0, 0, 0, 0]),
  (20, List.replicate 16 0),
  (20, List.replicate 16 0),
  (20, List.replicate 16 0),
  (20, List.replicate 16 0),
  (20, List.replicate 16 0),
  (2, [8, 44, 45, 46, 0]),
  (20, List.replicate 16 0),
  (20, List.replicate 16 0),
  (20, List.replicate 16 0),
  (8, [8, 43, 48, 0, 0, 49, 0, 0, 0, 0, 0]),
  (20, List.replicate 8 0),
  (20, List.replicate 16 0),
  (4, [8, 56, 60, 0, 51, 52, 53, 54, 55, 0, 0, 0, 0, 0]),
  (20, List.replicate 16 0),
  (20, List.replicate 16 0),
  (20, List.replicate 16 0),
  (20, List.replicate 16 0),
  (20, List.replicate 16 0),
  (2, [8, 57, 58, 59, 0]),
  (20, List.replicate 16 0),
  (20, List.replicate 16 0),
  (20, List.replicate 16 0),
  (8, [8, 56, 61, 0, 0, 62, 0, 0, 0, 0, 0]),
  (20, List.replicate 8 0),
  (20, List.replicate 16 0),
  (3, [8, 64, 65, 0, 0]),
  (20, List.replicate 16 0),
  (20, List.replicate 16 0),
  (20, List.replicate 64 0),
  (10, [68, 0, 0, 69, 70, 71, 72, 73, 74, 75, 0, 0, 76, 77, 78, 79, 0, 1, 0, 0, 80, 81, 82, 83, 0, 0, 0, 84, 85, 0, 86, 0, 0, 0, 87, 88, 89, 0, 90, 91, 0, 0, 0, 0, 92, 93, 94, 95, 0, 0]),
  (20, List.replicate 80 0),
  (20, List.replicate 16 0),
  (20, List.replicate 16 0),
  (20, List.replicate 16 0),
  (20, List.replicate 16 0),
  (20, List.replicate 19 0),
  (20, List.replicate 19 0),
  (20, List.replicate 266 0),
  (20, List.replicate 38 0),
  (21, List.replicate 2 0),
  (20, List.replicate 6 0),
  (20, List.replicate 6 0),
  (20, List.replicate 16 0),
  (20, List.replicate 16 0),
  (20, List.replicate 16 0),
  (20, List.replicate 16 0),
  (20, List.replicate 16 0),
  (20, List.replicate 16 0),
  (20, List.replicate 80 0),
  (20, List.replicate 16 0),
  (20, List.replicate 16 0),
  (20, List.replicate 16 0),
  (20, List.replicate 6 0),
  (20, List.replicate 64 0),
  (20, List.replicate 16 0),
  (20, List.replicate 16 0),
  (20, List.replicate 16 0),
  (20, List.replicate 16 0)]
abbrev MS : Type := (Nat → Nat → Int32) × (Nat → Int64)
def mkv (s : MS) (r k d : Nat) : Value := match d with
  | 0 => .int (s.1 r k)
  | 1 => .long (s.2 r)
  | d + 2 => .ref d
def mkvs (s : MS) (r : Nat) : Nat → List Nat → List Value
  | _, [] => []
  | k, d :: t => mkv s r k d :: mkvs s r (k + 1) t
def shAt (s : MS) : Nat → List (Nat × List Nat) → HV
  | _, [] => []
  | r, c :: t => (c.1, mkvs s r 0 c.2) :: shAt s (r + 1) t
def hp (scr : List Int32) (s : MS) : HV := (20, facV) :: (20, scr.map Value.int) :: shAt s 2 shT
theorem mkvs_get (s : MS) (r : Nat) : ∀ (ds : List Nat) (k0 k : Nat), (mkvs s r k0 ds)[k]? = (ds[k]?).map (mkv s r (k0 + k))
  | [], k0, k => by simp [mkvs]
  | d :: t, k0, 0 => by simp [mkvs]
  | d :: t, k0, k + 1 => by
    simp only [mkvs, List.getElem?_cons_succ]
    rw [mkvs_get s r t (k0 + 1) k, show k0 + 1 + k = k0 + (k + 1) by omega]
theorem shAt_get (s : MS) : ∀ (l : List (Nat × List Nat)) (r0 r : Nat), (shAt s r0 l)[r]? = (l[r]?).map fun c => (c.1, mkvs s (r0 + r) 0 c.2)
  | [], r0, r => by simp [shAt]
  | c :: t, r0, 0 => by simp [shAt]
  | c :: t, r0, r + 1 => by
    simp only [shAt, List.getElem?_cons_succ]
    rw [shAt_get s t (r0 + 1) r, show r0 + 1 + r = r0 + (r + 1) by omega]
theorem hp_get (scr : List Int32) (s : MS) (r : Nat) : (hp scr s)[r + 2]? = (shT[r]?).map fun c => (c.1, mkvs s (r + 2) 0 c.2) := by
  show (shAt s 2 shT)[r]? = _
  rw [shAt_get, Nat.add_comm 2 r]
def sk (r : Nat) : Option Nat := (shT[r - 2]?).map fun c => c.1
def sd (r k : Nat) : Option Nat := (shT[r - 2]?).bind fun c => c.2[k]?
theorem hk_hp {scr : List Int32} {s : MS} {r : Nat} (h : 2 ≤ r) : hk (hp scr s) r = sk r := by
  obtain ⟨q, rfl⟩ : ∃ q, r = q + 2 := ⟨r - 2, by omega⟩
  unfold hk sk
  rw [hp_get, Nat.add_sub_cancel]
  cases shT[q]? <;> rfl
theorem hg_hp {scr : List Int32} {s : MS} {r k : Nat} (h : 2 ≤ r) : hg (hp scr s) r k = (sd r k).map (mkv s r k) := by
  obtain ⟨q, rfl⟩ : ∃ q, r = q + 2 := ⟨r - 2, by omega⟩
  unfold hg sd
  rw [hp_get, Nat.add_sub_cancel]
  cases shT[q]? with
  | none => rfl
  | some c =>
    show (mkvs s (q + 2) 0 c.2)[k]? = _
    rw [mkvs_get, Nat.zero_add]
    rfl
def up (s : MS) (r k : Nat) (x : Int32) : MS := (fun a b => if a = r ∧ b = k then x else s.1 a b, s.2)
def upL (s : MS) (r : Nat) (x : Int64) : MS := (s.1, fun a => if a = r then x else s.2 a)
theorem mkvs_up {s s' : MS} {r : Nat} : ∀ (ds : List Nat) (k0 : Nat), (∀ k d, ds[k]? = some d → mkv s' r (k0 + k) d = mkv s r (k0 + k) d) → mkvs s' r k0 ds = mkvs s r k0 ds
  | [], _, _ => rfl
  | d :: t, k0, h => by
    have h0 := h 0 d rfl
    rw [Nat.add_zero] at h0
    have h1 : mkvs s' r (k0 + 1) t = mkvs s r (k0 + 1) t := mkvs_up t (k0 + 1) fun k e hk => by
      have h2 := h (k + 1) e hk
      rw [show k0 + (k + 1) = k0 + 1 + k by omega] at h2
      exact h2
    show mkv s' r k0 d :: mkvs s' r (k0 + 1) t = mkv s r k0 d :: mkvs s r (k0 + 1) t
    rw [h0, h1]
theorem hp_set {scr : List Int32} {s s' : MS} {r k : Nat} {v : Value} {d : Nat} (hr : 2 ≤ r) (hd : sd r k = some d) (hv : mkv s' r k d = v) (ho : ∀ a b e, (a ≠ r ∨ b ≠ k) → sd a b = some e → mkv s' a b e = mkv s a b e) : hs (hp scr s) r k v = hp scr s' := by
  obtain ⟨q, rfl⟩ : ∃ q, r = q + 2 := ⟨r - 2, by omega⟩
  unfold sd at hd
  rw [Nat.add_sub_cancel] at hd
  obtain ⟨c, h1, h2⟩ := Option.bind_eq_some_iff.mp hd
  have e1 : (hp scr s)[q + 2]? = some (c.1, mkvs s (q + 2) 0 c.2) := by rw [hp_get, h1]; rfl
  rw [hs_eq e1]
  apply List.ext_getElem?
  intro j
  rw [List.getElem?_set]
  match j with
  | 0 => simp [hp]
  | 1 => simp [hp]
  | j + 2 =>
    by_cases e : j = q
    · subst e
      rw [if_pos rfl, if_pos (List.getElem?_eq_some_iff.mp e1).1, hp_get, h1]
      show some _ = some _
      congr 2
      apply List.ext_getElem?
      intro b
      rw [List.getElem?_set, mkvs_get, mkvs_get, Nat.zero_add]
      by_cases eb : b = k
      · subst eb
        rw [if_pos rfl, if_pos (by
          have := (List.getElem?_eq_some_iff.mp h2).1
          have hl : ∀ (ds : List Nat) (k0 : Nat), (mkvs s (j + 2) k0 ds).length = ds.length := fun ds => by
            induction ds with
            | nil => intro _; rfl
            | cons a t ih => intro k0; simp [mkvs, ih]
          rw [hl]; exact this), h2, Option.map_some, hv]
      · rw [if_neg (Ne.symm eb)]
        cases he : c.2[b]? with
        | none => rfl
        | some e =>
          rw [Option.map_some, Option.map_some, ho (j + 2) b e (Or.inr eb) (by unfold sd; rw [Nat.add_sub_cancel, h1]; exact he)]
    · rw [if_neg (by omega), hp_get, hp_get]
      cases hc : shT[j]? with
      | none => rfl
      | some c2 =>
        rw [Option.map_some, Option.map_some]
        congr 2
        exact (mkvs_up c2.2 0 fun b e he => by
          rw [Nat.zero_add]
          exact ho (j + 2) b e (Or.inl (by omega)) (by unfold sd; rw [Nat.add_sub_cancel, hc]; exact he)).symm
theorem hs_hp {scr : List Int32} {s : MS} {r k : Nat} {x : Int32} (hr : 2 ≤ r) (hd : sd r k = some 0) : hs (hp scr s) r k (.int x) = hp scr (up s r k x) :=
  hp_set hr hd (by simp [mkv, up]) fun a b e hab he => by
    match e with
    | 0 => simp only [mkv, up]; rw [if_neg (by rintro ⟨rfl, rfl⟩; simp at hab)]
    | 1 => rfl
    | e + 2 => rfl
theorem hs_hpL {scr : List Int32} {s : MS} {r k : Nat} {x : Int64} (hr : 2 ≤ r) (hd : sd r k = some 1) (hu : ∀ b, sd r b = some 1 → b = k) : hs (hp scr s) r k (.long x) = hp scr (upL s r x) :=
  hp_set hr hd (by simp [mkv, upL]) fun a b e hab he => by
    match e with
    | 0 => rfl
    | 1 =>
      simp only [mkv, upL]
      rw [if_neg]
      rintro rfl
      rcases hab with h | h
      · exact h rfl
      · exact h (hu b he)
    | e + 2 => rfl
theorem up_get (s : MS) (r k : Nat) (x : Int32) (a b : Nat) : (up s r k x).1 a b = if a = r ∧ b = k then x else s.1 a b := rfl
theorem up_L (s : MS) (r k : Nat) (x : Int32) : (up s r k x).2 = s.2 := rfl
theorem upL_get (s : MS) (r : Nat) (x : Int64) (a : Nat) : (upL s r x).2 a = if a = r then x else s.2 a := rfl
theorem upL_I (s : MS) (r : Nat) (x : Int64) : (upL s r x).1 = s.1 := rfl
/-- an array of ints: the cell r has n places -/
def arr (r n : Nat) : Prop := 2 ≤ r ∧ sk r = some 20 ∧ ∀ k, sd r k = if k < n then some 0 else none
theorem arr_of {r n : Nat} (h : decide (2 ≤ r) = true) (hs : shT[r - 2]? = some (20, List.replicate n 0)) : arr r n := by
  refine ⟨of_decide_eq_true h, by unfold sk; rw [hs]; rfl, fun k => ?_⟩
  unfold sd; rw [hs]
  show (List.replicate n 0)[k]? = _
  rw [List.getElem?_replicate]
theorem arr_hk {scr : List Int32} {s : MS} {r n : Nat} (h : arr r n) : hk (hp scr s) r = some 20 := by rw [hk_hp h.1, h.2.1]
theorem arr_hg {scr : List Int32} {s : MS} {r n k : Nat} (h : arr r n) (hk : k < n) : hg (hp scr s) r k = some (.int (s.1 r k)) := by rw [hg_hp h.1, h.2.2, if_pos hk]; rfl
theorem arr_hs {scr : List Int32} {s : MS} {r n k : Nat} {x : Int32} (h : arr r n) (hk : k < n) : hs (hp scr s) r k (.int x) = hp scr (up s r k x) := hs_hp h.1 (by rw [h.2.2, if_pos hk])
/-- a field of an int -/
theorem fld_hg {scr : List Int32} {s : MS} {r k d : Nat} (h : 2 ≤ r) (hd : sd r k = some d) : hg (hp scr s) r k = some (mkv s r k d) := by rw [hg_hp h, hd]; rfl
theorem T_PL (scr : List Int32) (s : MS) : hk (hp scr s) 2 = some 9 ∧
  hg (hp scr s) 2 0 = some (.ref 3) ∧
  hg (hp scr s) 2 1 = some (.ref 6) ∧
  hg (hp scr s) 2 2 = some (.ref 13) ∧
  hg (hp scr s) 2 3 = some (.ref 20) ∧
  hg (hp scr s) 2 4 = some (.ref 21) ∧
  hg (hp scr s) 2 5 = some (.ref 22) ∧
  hg (hp scr s) 2 6 = some (.ref 23) ∧
  hg (hp scr s) 2 7 = some (.ref 24) ∧
  hg (hp scr s) 2 8 = some (.ref 27) ∧
  hg (hp scr s) 2 9 = some (.ref 32) ∧
  hg (hp scr s) 2 10 = some (.ref 35) ∧
  hg (hp scr s) 2 11 = some (.ref 48) ∧
  hg (hp scr s) 2 12 = some (.ref 61) ∧
  hg (hp scr s) 2 13 = some (.ref 64) ∧
  hg (hp scr s) 2 14 = some (.long (s.2 2)) := ⟨hk_hp (r := 2) (by decide), fld_hg (r := 2) (k := 0) (d := 5) (by decide) rfl, fld_hg (r := 2) (k := 1) (d := 8) (by decide) rfl, fld_hg (r := 2) (k := 2) (d := 15) (by decide) rfl, fld_hg (r := 2) (k := 3) (d := 22) (by decide) rfl, fld_hg (r := 2) (k := 4) (d := 23) (by decide) rfl, fld_hg (r := 2) (k := 5) (d := 24) (by decide) rfl, fld_hg (r := 2) (k := 6) (d := 25) (by decide) rfl, fld_hg (r := 2) (k := 7) (d := 26) (by decide) rfl, fld_hg (r := 2) (k := 8) (d := 29) (by decide) rfl, fld_hg (r := 2) (k := 9) (d := 34) (by decide) rfl, fld_hg (r := 2) (k := 10) (d := 37) (by decide) rfl, fld_hg (r := 2) (k := 11) (d := 50) (by decide) rfl, fld_hg (r := 2) (k := 12) (d := 63) (by decide) rfl, fld_hg (r := 2) (k := 13) (d := 66) (by decide) rfl, fld_hg (r := 2) (k := 14) (d := 1) (by decide) rfl⟩
theorem T_Src (scr : List Int32) (s : MS) : hk (hp scr s) 3 = some 7 ∧
  hg (hp scr s) 3 0 = some (.ref 4) ∧
  hg (hp scr s) 3 1 = some (.ref 5) ∧
  hg (hp scr s) 3 2 = some (.int (s.1 3 2)) ∧
  hk (hp scr s) 4 = some 20 ∧
  hk (hp scr s) 5 = some 20 := ⟨hk_hp (r := 3) (by decide), fld_hg (r := 3) (k := 0) (d := 6) (by decide) rfl, fld_hg (r := 3) (k := 1) (d := 7) (by decide) rfl, fld_hg (r := 3) (k := 2) (d := 0) (by decide) rfl, hk_hp (r := 4) (by decide), hk_hp (r := 5) (by decide)⟩
theorem U_Src (scr : List Int32) (s : MS) : (∀ x, hs (hp scr s) 3 2 (.int x) = hp scr (up s 3 2 x)) := fun _ => hs_hp (r := 3) (k := 2) (by decide) rfl
theorem A_Src_1 : arr 4 80 := arr_of rfl rfl
theorem A_Src_2 : arr 5 4 := arr_of rfl rfl
theorem G_Src : (∀ (scr : List Int32) (s : MS), hk (hp scr s) 4 = some 20) ∧
  (∀ (scr : List Int32) (s : MS) (k : Nat), k < 80 → hg (hp scr s) 4 k = some (.int (s.1 4 k))) ∧
  (∀ (scr : List Int32) (s : MS) (k : Nat) (x : Int32), k < 80 → hs (hp scr s) 4 k (.int x) = hp scr (up s 4 k x)) ∧
  (∀ (scr : List Int32) (s : MS), hk (hp scr s) 5 = some 20) ∧
  (∀ (scr : List Int32) (s : MS) (k : Nat), k < 4 → hg (hp scr s) 5 k = some (.int (s.1 5 k))) ∧
  (∀ (scr : List Int32) (s : MS) (k : Nat) (x : Int32), k < 4 → hs (hp scr s) 5 k (.int x) = hp scr (up s 5 k x)) := ⟨fun _ _ => arr_hk A_Src_1, fun _ _ _ h => arr_hg A_Src_1 h, fun _ _ _ _ h => arr_hs A_Src_1 h, fun _ _ => arr_hk A_Src_2, fun _ _ _ h => arr_hg A_Src_2 h, fun _ _ _ _ h => arr_hs A_Src_2 h⟩
theorem T_Code {b : Nat} (hb : b = 6 ∨ b = 13) (scr : List Int32) (s : MS) : hk (hp scr s) b = some 1 ∧
  hg (hp scr s) b 0 = some (.ref (b + 1)) ∧
  hg (hp scr s) b 1 = some (.ref (b + 2)) ∧
  hg (hp scr s) b 2 = some (.ref (b + 3)) ∧
  hg (hp scr s) b 3 = some (.ref (b + 4)) ∧
  hg (hp scr s) b 4 = some (.ref (b + 5)) ∧
  hg (hp scr s) b 5 = some (.ref (b + 6)) ∧
  hg (hp scr s) b 6 = some (.int (s.1 b 6)) ∧
  hk (hp scr s) (b + 1) = some 20 ∧
  hk (hp scr s) (b + 2) = some 20 ∧
  hk (hp scr s) (b + 3) = some 20 ∧
  hk (hp scr s) (b + 4) = some 20 ∧
  hk (hp scr s) (b + 5) = some 20 ∧
  hk (hp scr s) (b + 6) = some 20 := by
  rcases hb with rfl | rfl
  · exact ⟨hk_hp (r := 6) (by decide), fld_hg (r := 6) (k := 0) (d := 9) (by decide) rfl, fld_hg (r := 6) (k := 1) (d := 10) (by decide) rfl, fld_hg (r := 6) (k := 2) (d := 11) (by decide) rfl, fld_hg (r := 6) (k := 3) (d := 12) (by decide) rfl, fld_hg (r := 6) (k := 4) (d := 13) (by decide) rfl, fld_hg (r := 6) (k := 5) (d := 14) (by decide) rfl, fld_hg (r := 6) (k := 6) (d := 0) (by decide) rfl, hk_hp (r := 7) (by decide), hk_hp (r := 8) (by decide), hk_hp (r := 9) (by decide), hk_hp (r := 10) (by decide), hk_hp (r := 11) (by decide), hk_hp (r := 12) (by decide)⟩
  · exact ⟨hk_hp (r := 13) (by decide), fld_hg (r := 13) (k := 0) (d := 16) (by decide) rfl, fld_hg (r := 13) (k := 1) (d := 17) (by decide) rfl, fld_hg (r := 13) (k := 2) (d := 18) (by decide) rfl, fld_hg (r := 13) (k := 3) (d := 19) (by decide) rfl, fld_hg (r := 13) (k := 4) (d := 20) (by decide) rfl, fld_hg (r := 13) (k := 5) (d := 21) (by decide) rfl, fld_hg (r := 13) (k := 6) (d := 0) (by decide) rfl, hk_hp (r := 14) (by decide), hk_hp (r := 15) (by decide), hk_hp (r := 16) (by decide), hk_hp (r := 17) (by decide), hk_hp (r := 18) (by decide), hk_hp (r := 19) (by decide)⟩
theorem U_Code {b : Nat} (hb : b = 6 ∨ b = 13) (scr : List Int32) (s : MS) : (∀ x, hs (hp scr s) b 6 (.int x) = hp scr (up s b 6 x)) := by
  rcases hb with rfl | rfl
  · exact fun _ => hs_hp (r := 6) (k := 6) (by decide) rfl
  · exact fun _ => hs_hp (r := 13) (k := 6) (by decide) rfl
theorem A_Code_1 {b : Nat} (hb : b = 6 ∨ b = 13) : arr (b + 1) 16 := by
  rcases hb with rfl | rfl <;> exact arr_of rfl rfl
theorem A_Code_2 {b : Nat} (hb : b = 6 ∨ b = 13) : arr (b + 2) 16 := by
  rcases hb with rfl | rfl <;> exact arr_of rfl rfl
theorem A_Code_3 {b : Nat} (hb : b = 6 ∨ b = 13) : arr (b + 3) 16 := by
  rcases hb with rfl | rfl <;> exact arr_of rfl rfl
theorem A_Code_4 {b : Nat} (hb : b = 6 ∨ b = 13) : arr (b + 4) 16 := by
  rcases hb with rfl | rfl <;> exact arr_of rfl rfl
theorem A_Code_5 {b : Nat} (hb : b = 6 ∨ b = 13) : arr (b + 5) 16 := by
  rcases hb with rfl | rfl <;> exact arr_of rfl rfl
theorem A_Code_6 {b : Nat} (hb : b = 6 ∨ b = 13) : arr (b + 6) 16 := by
  rcases hb with rfl | rfl <;> exact arr_of rfl rfl
theorem G_Code {b : Nat} (hb : b = 6 ∨ b = 13) : (∀ (scr : List Int32) (s : MS), hk (hp scr s) (b + 1) = some 20) ∧
  (∀ (scr : List Int32) (s : MS) (k : Nat), k < 16 → hg (hp scr s) (b + 1) k = some (.int (s.1 (b + 1) k))) ∧
  (∀ (scr : List Int32) (s : MS) (k : Nat) (x : Int32), k < 16 → hs (hp scr s) (b + 1) k (.int x) = hp scr (up s (b + 1) k x)) ∧
  (∀ (scr : List Int32) (s : MS), hk (hp scr s) (b + 2) = some 20) ∧
  (∀ (scr : List Int32) (s : MS) (k : Nat), k < 16 → hg (hp scr s) (b + 2) k = some (.int (s.1 (b + 2) k))) ∧
  (∀ (scr : List Int32) (s : MS) (k : Nat) (x : Int32), k < 16 → hs (hp scr s) (b + 2) k (.int x) = hp scr (up s (b + 2) k x)) ∧
  (∀ (scr : List Int32) (s : MS), hk (hp scr s) (b + 3) = some 20) ∧
  (∀ (scr : List Int32) (s : MS) (k : Nat), k < 16 → hg (hp scr s) (b + 3) k = some (.int (s.1 (b + 3) k))) ∧
  (∀ (scr : List Int32) (s : MS) (k : Nat) (x : Int32), k < 16 → hs (hp scr s) (b + 3) k (.int x) = hp scr (up s (b + 3) k x)) ∧
  (∀ (scr : List Int32) (s : MS), hk (hp scr s) (b + 4) = some 20) ∧
  (∀ (scr : List Int32) (s : MS) (k : Nat), k < 16 → hg (hp scr s) (b + 4) k = some (.int (s.1 (b + 4) k))) ∧
  (∀ (scr : List Int32) (s : MS) (k : Nat) (x : Int32), k < 16 → hs (hp scr s) (b + 4) k (.int x) = hp scr (up s (b + 4) k x)) ∧
  (∀ (scr : List Int32) (s : MS), hk (hp scr s) (b + 5) = some 20) ∧
  (∀ (scr : List Int32) (s : MS) (k : Nat), k < 16 → hg (hp scr s) (b + 5) k = some (.int (s.1 (b + 5) k))) ∧
  (∀ (scr : List Int32) (s : MS) (k : Nat) (x : Int32), k < 16 → hs (hp scr s) (b + 5) k (.int x) = hp scr (up s (b + 5) k x)) ∧
  (∀ (scr : List Int32) (s : MS), hk (hp scr s) (b + 6) = some 20) ∧
  (∀ (scr : List Int32) (s : MS) (k : Nat), k < 16 → hg (hp scr s) (b + 6) k = some (.int (s.1 (b + 6) k))) ∧
  (∀ (scr : List Int32) (s : MS) (k : Nat) (x : Int32), k < 16 → hs (hp scr s) (b + 6) k (.int x) = hp scr (up s (b + 6) k x)) := ⟨fun _ _ => arr_hk (A_Code_1 hb), fun _ _ _ h => arr_hg (A_Code_1 hb) h, fun _ _ _ _ h => arr_hs (A_Code_1 hb) h, fun _ _ => arr_hk (A_Code_2 hb), fun _ _ _ h => arr_hg (A_Code_2 hb) h, fun _ _ _ _ h => arr_hs (A_Code_2 hb) h, fun _ _ => arr_hk (A_Code_3 hb), fun _ _ _ h => arr_hg (A_Code_3 hb) h, fun _ _ _ _ h => arr_hs (A_Code_3 hb) h, fun _ _ => arr_hk (A_Code_4 hb), fun _ _ _ h => arr_hg (A_Code_4 hb) h, fun _ _ _ _ h => arr_hs (A_Code_4 hb) h, fun _ _ => arr_hk (A_Code_5 hb), fun _ _ _ h => arr_hg (A_Code_5 hb) h, fun _ _ _ _ h => arr_hs (A_Code_5 hb) h, fun _ _ => arr_hk (A_Code_6 hb), fun _ _ _ h => arr_hg (A_Code_6 hb) h, fun _ _ _ _ h => arr_hs (A_Code_6 hb) h⟩
theorem A_20 : arr 20 19 := arr_of rfl rfl
theorem A_21 : arr 21 19 := arr_of rfl rfl
theorem A_22 : arr 22 19 := arr_of rfl rfl
theorem A_64 : arr 64 64 := arr_of rfl rfl
theorem A_23 : arr 23 3 := arr_of rfl rfl
theorem G_row : (∀ (scr : List Int32) (s : MS), hk (hp scr s) 20 = some 20) ∧
  (∀ (scr : List Int32) (s : MS) (k : Nat), k < 19 → hg (hp scr s) 20 k = some (.int (s.1 20 k))) ∧
  (∀ (scr : List Int32) (s : MS) (k : Nat) (x : Int32), k < 19 → hs (hp scr s) 20 k (.int x) = hp scr (up s 20 k x)) ∧
  (∀ (scr : List Int32) (s : MS), hk (hp scr s) 21 = some 20) ∧
  (∀ (scr : List Int32) (s : MS) (k : Nat), k < 19 → hg (hp scr s) 21 k = some (.int (s.1 21 k))) ∧
  (∀ (scr : List Int32) (s : MS) (k : Nat) (x : Int32), k < 19 → hs (hp scr s) 21 k (.int x) = hp scr (up s 21 k x)) ∧
  (∀ (scr : List Int32) (s : MS), hk (hp scr s) 22 = some 20) ∧
  (∀ (scr : List Int32) (s : MS) (k : Nat), k < 19 → hg (hp scr s) 22 k = some (.int (s.1 22 k))) ∧
  (∀ (scr : List Int32) (s : MS) (k : Nat) (x : Int32), k < 19 → hs (hp scr s) 22 k (.int x) = hp scr (up s 22 k x)) ∧
  (∀ (scr : List Int32) (s : MS), hk (hp scr s) 64 = some 20) ∧
  (∀ (scr : List Int32) (s : MS) (k : Nat), k < 64 → hg (hp scr s) 64 k = some (.int (s.1 64 k))) ∧
  (∀ (scr : List Int32) (s : MS) (k : Nat) (x : Int32), k < 64 → hs (hp scr s) 64 k (.int x) = hp scr (up s 64 k x)) ∧
  (∀ (scr : List Int32) (s : MS), hk (hp scr s) 23 = some 20) ∧
  (∀ (scr : List Int32) (s : MS) (k : Nat), k < 3 → hg (hp scr s) 23 k = some (.int (s.1 23 k))) ∧
  (∀ (scr : List Int32) (s : MS) (k : Nat) (x : Int32), k < 3 → hs (hp scr s) 23 k (.int x) = hp scr (up s 23 k x)) := ⟨fun _ _ => arr_hk A_20, fun _ _ _ h => arr_hg A_20 h, fun _ _ _ _ h => arr_hs A_20 h, fun _ _ => arr_hk A_21, fun _ _ _ h => arr_hg A_21 h, fun _ _ _ _ h => arr_hs A_21 h, fun _ _ => arr_hk A_22, fun _ _ _ h => arr_hg A_22 h, fun _ _ _ _ h => arr_hs A_22 h, fun _ _ => arr_hk A_64, fun _ _ _ h => arr_hg A_64 h, fun _ _ _ _ h => arr_hs A_64 h, fun _ _ => arr_hk A_23, fun _ _ _ h => arr_hg A_23 h, fun _ _ _ _ h => arr_hs A_23 h⟩
theorem T_Acts (scr : List Int32) (s : MS) : hk (hp scr s) 24 = some 0 ∧
  hg (hp scr s) 24 0 = some (.ref 25) ∧
  hg (hp scr s) 24 1 = some (.ref 26) ∧
  hg (hp scr s) 24 2 = some (.int (s.1 24 2)) ∧
  hk (hp scr s) 25 = some 20 ∧
  hk (hp scr s) 26 = some 20 := ⟨hk_hp (r := 24) (by decide), fld_hg (r := 24) (k := 0) (d := 27) (by decide) rfl, fld_hg (r := 24) (k := 1) (d := 28) (by decide) rfl, fld_hg (r := 24) (k := 2) (d := 0) (by decide) rfl, hk_hp (r := 25) (by decide), hk_hp (r := 26) (by decide)⟩
theorem U_Acts (scr : List Int32) (s : MS) : (∀ x, hs (hp scr s) 24 2 (.int x) = hp scr (up s 24 2 x)) := fun _ => hs_hp (r := 24) (k := 2) (by decide) rfl
theorem A_Acts_1 : arr 25 14 := arr_of rfl rfl
theorem A_Acts_2 : arr 26 14 := arr_of rfl rfl
theorem G_Acts : (∀ (scr : List Int32) (s : MS), hk (hp scr s) 25 = some 20) ∧
  (∀ (scr : List Int32) (s : MS) (k : Nat), k < 14 → hg (hp scr s) 25 k = some (.int (s.1 25 k))) ∧
  (∀ (scr : List Int32) (s : MS) (k : Nat) (x : Int32), k < 14 → hs (hp scr s) 25 k (.int x) = hp scr (up s 25 k x)) ∧
  (∀ (scr : List Int32) (s : MS), hk (hp scr s) 26 = some 20) ∧
  (∀ (scr : List Int32) (s : MS) (k : Nat), k < 14 → hg (hp scr s) 26 k = some (.int (s.1 26 k))) ∧
  (∀ (scr : List Int32) (s : MS) (k : Nat) (x : Int32), k < 14 → hs (hp scr s) 26 k (.int x) = hp scr (up s 26 k x)) := ⟨fun _ _ => arr_hk A_Acts_1, fun _ _ _ h => arr_hg A_Acts_1 h, fun _ _ _ _ h => arr_hs A_Acts_1 h, fun _ _ => arr_hk A_Acts_2, fun _ _ _ h => arr_hg A_Acts_2 h, fun _ _ _ _ h => arr_hs A_Acts_2 h⟩
theorem T_Slots (scr : List Int32) (s : MS) : hk (hp scr s) 27 = some 6 ∧
  hg (hp scr s) 27 0 = some (.ref 28) ∧
  hg (hp scr s) 27 1 = some (.ref 29) ∧
  hk (hp scr s) 28 = some 21 ∧
  hk (hp scr s) 29 = some 22 ∧
  hk (hp scr s) 30 = some 20 ∧
  hk (hp scr s) 31 = some 20 := ⟨hk_hp (r := 27) (by decide), fld_hg (r := 27) (k := 0) (d := 30) (by decide) rfl, fld_hg (r := 27) (k := 1) (d := 31) (by decide) rfl, hk_hp (r := 28) (by decide), hk_hp (r := 29) (by decide), hk_hp (r := 30) (by decide), hk_hp (r := 31) (by decide)⟩
theorem A_Slots_3 : arr 30 19 := arr_of rfl rfl
theorem A_Slots_4 : arr 31 19 := arr_of rfl rfl
theorem G_Slots : (∀ (scr : List Int32) (s : MS), hk (hp scr s) 30 = some 20) ∧
  (∀ (scr : List Int32) (s : MS) (k : Nat), k < 19 → hg (hp scr s) 30 k = some (.int (s.1 30 k))) ∧
  (∀ (scr : List Int32) (s : MS) (k : Nat) (x : Int32), k < 19 → hs (hp scr s) 30 k (.int x) = hp scr (up s 30 k x)) ∧
  (∀ (scr : List Int32) (s : MS), hk (hp scr s) 31 = some 20) ∧
  (∀ (scr : List Int32) (s : MS) (k : Nat), k < 19 → hg (hp scr s) 31 k = some (.int (s.1 31 k))) ∧
  (∀ (scr : List Int32) (s : MS) (k : Nat) (x : Int32), k < 19 → hs (hp scr s) 31 k (.int x) = hp scr (up s 31 k x)) := ⟨fun _ _ => arr_hk A_Slots_3, fun _ _ _ h => arr_hg A_Slots_3 h, fun _ _ _ _ h => arr_hs A_Slots_3 h, fun _ _ => arr_hk A_Slots_4, fun _ _ _ h => arr_hg A_Slots_4 h, fun _ _ _ _ h => arr_hs A_Slots_4 h⟩
theorem T_Sights (scr : List Int32) (s : MS) : hk (hp scr s) 32 = some 5 ∧
  hg (hp scr s) 32 0 = some (.ref 33) ∧
  hg (hp scr s) 32 1 = some (.ref 34) ∧
  hg (hp scr s) 32 2 = some (.int (s.1 32 2)) ∧
  hk (hp scr s) 33 = some 20 ∧
  hk (hp scr s) 34 = some 20 := ⟨hk_hp (r := 32) (by decide), fld_hg (r := 32) (k := 0) (d := 35) (by decide) rfl, fld_hg (r := 32) (k := 1) (d := 36) (by decide) rfl, fld_hg (r := 32) (k := 2) (d := 0) (by decide) rfl, hk_hp (r := 33) (by decide), hk_hp (r := 34) (by decide)⟩
theorem U_Sights (scr : List Int32) (s : MS) : (∀ x, hs (hp scr s) 32 2 (.int x) = hp scr (up s 32 2 x)) := fun _ => hs_hp (r := 32) (k := 2) (by decide) rfl
theorem A_Sights_1 : arr 33 6 := arr_of rfl rfl
theorem A_Sights_2 : arr 34 6 := arr_of rfl rfl
theorem G_Sights : (∀ (scr : List Int32) (s : MS), hk (hp scr s) 33 = some 20) ∧
  (∀ (scr : List Int32) (s : MS) (k : Nat), k < 6 → hg (hp scr s) 33 k = some (.int (s.1 33 k))) ∧
  (∀ (scr : List Int32) (s : MS) (k : Nat) (x : Int32), k < 6 → hs (hp scr s) 33 k (.int x) = hp scr (up s 33 k x)) ∧
  (∀ (scr : List Int32) (s : MS), hk (hp scr s) 34 = some 20) ∧
  (∀ (scr : List Int32) (s : MS) (k : Nat), k < 6 → hg (hp scr s) 34 k = some (.int (s.1 34 k))) ∧
  (∀ (scr : List Int32) (s : MS) (k : Nat) (x : Int32), k < 6 → hs (hp scr s) 34 k (.int x) = hp scr (up s 34 k x)) := ⟨fun _ _ => arr_hk A_Sights_1, fun _ _ _ h => arr_hg A_Sights_1 h, fun _ _ _ _ h => arr_hs A_Sights_1 h, fun _ _ => arr_hk A_Sights_2, fun _ _ _ h => arr_hg A_Sights_2 h, fun _ _ _ _ h => arr_hs A_Sights_2 h⟩
theorem T_Pack {b : Nat} (hb : b = 35 ∨ b = 48) (scr : List Int32) (s : MS) : hk (hp scr s) b = some 4 ∧
  hg (hp scr s) b 0 = some (.ref 6) ∧
  hg (hp scr s) b 1 = some (.ref (b + 6)) ∧
  hg (hp scr s) b 2 = some (.ref (b + 10)) ∧
  hg (hp scr s) b 3 = some (.int (s.1 b 3)) ∧
  hg (hp scr s) b 4 = some (.ref (b + 1)) ∧
  hg (hp scr s) b 5 = some (.ref (b + 2)) ∧
  hg (hp scr s) b 6 = some (.ref (b + 3)) ∧
  hg (hp scr s) b 7 = some (.ref (b + 4)) ∧
  hg (hp scr s) b 8 = some (.ref (b + 5)) ∧
  hg (hp scr s) b 9 = some (.int (s.1 b 9)) ∧
  hg (hp scr s) b 10 = some (.int (s.1 b 10)) ∧
  hg (hp scr s) b 11 = some (.int (s.1 b 11)) ∧
  hg (hp scr s) b 12 = some (.int (s.1 b 12)) ∧
  hg (hp scr s) b 13 = some (.int (s.1 b 13)) ∧
  hk (hp scr s) (b + 1) = some 20 ∧
  hk (hp scr s) (b + 2) = some 20 ∧
  hk (hp scr s) (b + 3) = some 20 ∧
  hk (hp scr s) (b + 4) = some 20 ∧
  hk (hp scr s) (b + 5) = some 20 ∧
  hk (hp scr s) (b + 6) = some 2 ∧
  hg (hp scr s) (b + 6) 0 = some (.ref 6) ∧
  hg (hp scr s) (b + 6) 1 = some (.ref (b + 7)) ∧
  hg (hp scr s) (b + 6) 2 = some (.ref (b + 8)) ∧
  hg (hp scr s) (b + 6) 3 = some (.ref (b + 9)) ∧
  hg (hp scr s) (b + 6) 4 = some (.int (s.1 (b + 6) 4)) ∧
  hk (hp scr s) (b + 7) = some 20 ∧
  hk (hp scr s) (b + 8) = some 20 ∧
  hk (hp scr s) (b + 9) = some 20 ∧
  hk (hp scr s) (b + 10) = some 8 ∧
  hg (hp scr s) (b + 10) 0 = some (.ref 6) ∧
  hg (hp scr s) (b + 10) 1 = some (.ref (b + 6)) ∧
  hg (hp scr s) (b + 10) 2 = some (.ref (b + 11)) ∧
  hg (hp scr s) (b + 10) 3 = some (.int (s.1 (b + 10) 3)) ∧
  hg (hp scr s) (b + 10) 4 = some (.int (s.1 (b + 10) 4)) ∧
  hg (hp scr s) (b + 10) 5 = some (.ref (b + 12)) ∧
  hg (hp scr s) (b + 10) 6 = some (.int (s.1 (b + 10) 6)) ∧
  hg (hp scr s) (b + 10) 7 = some (.int (s.1 (b + 10) 7)) ∧
  hg (hp scr s) (b + 10) 8 = some (.int (s.1 (b + 10) 8)) ∧
  hg (hp scr s) (b + 10) 9 = some (.int (s.1 (b + 10) 9)) ∧
  hg (hp scr s) (b + 10) 10 = some (.int (s.1 (b + 10) 10)) ∧
  hk (hp scr s) (b + 11) = some 20 ∧
  hk (hp scr s) (b + 12) = some 20 := by
  rcases hb with rfl | rfl
  · exact ⟨hk_hp (r := 35) (by decide), fld_hg (r := 35) (k := 0) (d := 8) (by decide) rfl, fld_hg (r := 35) (k := 1) (d := 43) (by decide) rfl, fld_hg (r := 35) (k := 2) (d := 47) (by decide) rfl, fld_hg (r := 35) (k := 3) (d := 0) (by decide) rfl, fld_hg (r := 35) (k := 4) (d := 38) (by decide) rfl, fld_hg (r := 35) (k := 5) (d := 39) (by decide) rfl, fld_hg (r := 35) (k := 6) (d := 40) (by decide) rfl, fld_hg (r := 35) (k := 7) (d := 41) (by decide) rfl, fld_hg (r := 35) (k := 8) (d := 42) (by decide) rfl, fld_hg (r := 35) (k := 9) (d := 0) (by decide) rfl, fld_hg (r := 35) (k := 10) (d := 0) (by decide) rfl, fld_hg (r := 35) (k := 11) (d := 0) (by decide) rfl, fld_hg (r := 35) (k := 12) (d := 0) (by decide) rfl, fld_hg (r := 35) (k := 13) (d := 0) (by decide) rfl, hk_hp (r := 36) (by decide), hk_hp (r := 37) (by decide), hk_hp (r := 38) (by decide), hk_hp (r := 39) (by decide), hk_hp (r := 40) (by decide), hk_hp (r := 41) (by decide), fld_hg (r := 41) (k := 0) (d := 8) (by decide) rfl, fld_hg (r := 41) (k := 1) (d := 44) (by decide) rfl, fld_hg (r := 41) (k := 2) (d := 45) (by decide) rfl, fld_hg (r := 41) (k := 3) (d := 46) (by decide) rfl, fld_hg (r := 41) (k := 4) (d := 0) (by decide) rfl, hk_hp (r := 42) (by decide), hk_hp (r := 43) (by decide), hk_hp (r := 44) (by decide), hk_hp (r := 45) (by decide), fld_hg (r := 45) (k := 0) (d := 8) (by decide) rfl, fld_hg (r := 45) (k := 1) (d := 43) (by decide) rfl, fld_hg (r := 45) (k := 2) (d := 48) (by decide) rfl, fld_hg (r := 45) (k := 3) (d := 0) (by decide) rfl, fld_hg (r := 45) (k := 4) (d := 0) (by decide) rfl, fld_hg (r := 45) (k := 5) (d := 49) (by decide) rfl, fld_hg (r := 45) (k := 6) (d := 0) (by decide) rfl, fld_hg (r := 45) (k := 7) (d := 0) (by decide) rfl, fld_hg (r := 45) (k := 8) (d := 0) (by decide) rfl, fld_hg (r := 45) (k := 9) (d := 0) (by decide) rfl, fld_hg (r := 45) (k := 10) (d := 0) (by decide) rfl, hk_hp (r := 46) (by decide), hk_hp (r := 47) (by decide)⟩
  · exact ⟨hk_hp (r := 48) (by decide), fld_hg (r := 48) (k := 0) (d := 8) (by decide) rfl, fld_hg (r := 48) (k := 1) (d := 56) (by decide) rfl, fld_hg (r := 48) (k := 2) (d := 60) (by decide) rfl, fld_hg (r := 48) (k := 3) (d := 0) (by decide) rfl, fld_hg (r := 48) (k := 4) (d := 51) (by decide) rfl, fld_hg (r := 48) (k := 5) (d := 52) (by decide) rfl, fld_hg (r := 48) (k := 6) (d := 53) (by decide) rfl, fld_hg (r := 48) (k := 7) (d := 54) (by decide) rfl, fld_hg (r := 48) (k := 8) (d := 55) (by decide) rfl, fld_hg (r := 48) (k := 9) (d := 0) (by decide) rfl, fld_hg (r := 48) (k := 10) (d := 0) (by decide) rfl, fld_hg (r := 48) (k := 11) (d := 0) (by decide) rfl, fld_hg (r := 48) (k := 12) (d := 0) (by decide) rfl, fld_hg (r := 48) (k := 13) (d := 0) (by decide) rfl, hk_hp (r := 49) (by decide), hk_hp (r := 50) (by decide), hk_hp (r := 51) (by decide), hk_hp (r := 52) (by decide), hk_hp (r := 53) (by decide), hk_hp (r := 54) (by decide), fld_hg (r := 54) (k := 0) (d := 8) (by decide) rfl, fld_hg (r := 54) (k := 1) (d := 57) (by decide) rfl, fld_hg (r := 54) (k := 2) (d := 58) (by decide) rfl, fld_hg (r := 54) (k := 3) (d := 59) (by decide) rfl, fld_hg (r := 54) (k := 4) (d := 0) (by decide) rfl, hk_hp (r := 55) (by decide), hk_hp (r := 56) (by decide), hk_hp (r := 57) (by decide), hk_hp (r := 58) (by decide), fld_hg (r := 58) (k := 0) (d := 8) (by decide) rfl, fld_hg (r := 58) (k := 1) (d := 56) (by decide) rfl, fld_hg (r := 58) (k := 2) (d := 61) (by decide) rfl, fld_hg (r := 58) (k := 3) (d := 0) (by decide) rfl, fld_hg (r := 58) (k := 4) (d := 0) (by decide) rfl, fld_hg (r := 58) (k := 5) (d := 62) (by decide) rfl, fld_hg (r := 58) (k := 6) (d := 0) (by decide) rfl, fld_hg (r := 58) (k := 7) (d := 0) (by decide) rfl, fld_hg (r := 58) (k := 8) (d := 0) (by decide) rfl, fld_hg (r := 58) (k := 9) (d := 0) (by decide) rfl, fld_hg (r := 58) (k := 10) (d := 0) (by decide) rfl, hk_hp (r := 59) (by decide), hk_hp (r := 60) (by decide)⟩
theorem U_Pack {b : Nat} (hb : b = 35 ∨ b = 48) (scr : List Int32) (s : MS) : (∀ x, hs (hp scr s) b 3 (.int x) = hp scr (up s b 3 x)) ∧
  (∀ x, hs (hp scr s) b 9 (.int x) = hp scr (up s b 9 x)) ∧
  (∀ x, hs (hp scr s) b 10 (.int x) = hp scr (up s b 10 x)) ∧
  (∀ x, hs (hp scr s) b 11 (.int x) = hp scr (up s b 11 x)) ∧
  (∀ x, hs (hp scr s) b 12 (.int x) = hp scr (up s b 12 x)) ∧
  (∀ x, hs (hp scr s) b 13 (.int x) = hp scr (up s b 13 x)) ∧
  (∀ x, hs (hp scr s) (b + 6) 4 (.int x) = hp scr (up s (b + 6) 4 x)) ∧
  (∀ x, hs (hp scr s) (b + 10) 3 (.int x) = hp scr (up s (b + 10) 3 x)) ∧
  (∀ x, hs (hp scr s) (b + 10) 4 (.int x) = hp scr (up s (b + 10) 4 x)) ∧
  (∀ x, hs (hp scr s) (b + 10) 6 (.int x) = hp scr (up s (b + 10) 6 x)) ∧
  (∀ x, hs (hp scr s) (b + 10) 7 (.int x) = hp scr (up s (b + 10) 7 x)) ∧
  (∀ x, hs (hp scr s) (b + 10) 8 (.int x) = hp scr (up s (b + 10) 8 x)) ∧
  (∀ x, hs (hp scr s) (b + 10) 9 (.int x) = hp scr (up s (b + 10) 9 x)) ∧
  (∀ x, hs (hp scr s) (b + 10) 10 (.int x) = hp scr (up s (b + 10) 10 x)) := by
  rcases hb with rfl | rfl
  · exact ⟨fun _ => hs_hp (r := 35) (k := 3) (by decide) rfl, fun _ => hs_hp (r := 35) (k := 9) (by decide) rfl, fun _ => hs_hp (r := 35) (k := 10) (by decide) rfl, fun _ => hs_hp (r := 35) (k := 11) (by decide) rfl, fun _ => hs_hp (r := 35) (k := 12) (by decide) rfl, fun _ => hs_hp (r := 35) (k := 13) (by decide) rfl, fun _ => hs_hp (r := 41) (k := 4) (by decide) rfl, fun _ => hs_hp (r := 45) (k := 3) (by decide) rfl, fun _ => hs_hp (r := 45) (k := 4) (by decide) rfl, fun _ => hs_hp (r := 45) (k := 6) (by decide) rfl, fun _ => hs_hp (r := 45) (k := 7) (by decide) rfl, fun _ => hs_hp (r := 45) (k := 8) (by decide) rfl, fun _ => hs_hp (r := 45) (k := 9) (by decide) rfl, fun _ => hs_hp (r := 45) (k := 10) (by decide) rfl⟩
  · exact ⟨fun _ => hs_hp (r := 48) (k := 3) (by decide) rfl, fun _ => hs_hp (r := 48) (k := 9) (by decide) rfl, fun _ => hs_hp (r := 48) (k := 10) (by decide) rfl, fun _ => hs_hp (r := 48) (k := 11) (by decide) rfl, fun _ => hs_hp (r := 48) (k := 12) (by decide) rfl, fun _ => hs_hp (r := 48) (k := 13) (by decide) rfl, fun _ => hs_hp (r := 54) (k := 4) (by decide) rfl, fun _ => hs_hp (r := 58) (k := 3) (by decide) rfl, fun _ => hs_hp (r := 58) (k := 4) (by decide) rfl, fun _ => hs_hp (r := 58) (k := 6) (by decide) rfl, fun _ => hs_hp (r := 58) (k := 7) (by decide) rfl, fun _ => hs_hp (r := 58) (k := 8) (by decide) rfl, fun _ => hs_hp (r := 58) (k := 9) (by decide) rfl, fun _ => hs_hp (r := 58) (k := 10) (by decide) rfl⟩
theorem A_Pack_1 {b : Nat} (hb : b = 35 ∨ b = 48) : arr (b + 1) 16 := by
  rcases hb with rfl | rfl <;> exact arr_of rfl rfl
theorem A_Pack_2 {b : Nat} (hb : b = 35 ∨ b = 48) : arr (b + 2) 16 := by
  rcases hb with rfl | rfl <;> exact arr_of rfl rfl
theorem A_Pack_3 {b : Nat} (hb : b = 35 ∨ b = 48) : arr (b + 3) 16 := by
  rcases hb with rfl | rfl <;> exact arr_of rfl rfl
theorem A_Pack_4 {b : Nat} (hb : b = 35 ∨ b = 48) : arr (b + 4) 16 := by
  rcases hb with rfl | rfl <;> exact arr_of rfl rfl
theorem A_Pack_5 {b : Nat} (hb : b = 35 ∨ b = 48) : arr (b + 5) 16 := by
  rcases hb with rfl | rfl <;> exact arr_of rfl rfl
theorem A_Pack_7 {b : Nat} (hb : b = 35 ∨ b = 48) : arr (b + 7) 16 := by
  rcases hb with rfl | rfl <;> exact arr_of rfl rfl
theorem A_Pack_8 {b : Nat} (hb : b = 35 ∨ b = 48) : arr (b + 8) 16 := by
  rcases hb with rfl | rfl <;> exact arr_of rfl rfl
theorem A_Pack_9 {b : Nat} (hb : b = 35 ∨ b = 48) : arr (b + 9) 16 := by
  rcases hb with rfl | rfl <;> exact arr_of rfl rfl
theorem A_Pack_11 {b : Nat} (hb : b = 35 ∨ b = 48) : arr (b + 11) 8 := by
  rcases hb with rfl | rfl <;> exact arr_of rfl rfl
theorem A_Pack_12 {b : Nat} (hb : b = 35 ∨ b = 48) : arr (b + 12) 16 := by
  rcases hb with rfl | rfl <;> exact arr_of rfl rfl
theorem G_Pack {b : Nat} (hb : b = 35 ∨ b = 48) : (∀ (scr : List Int32) (s : MS), hk (hp scr s) (b + 1) = some 20) ∧
  (∀ (scr : List Int32) (s : MS) (k : Nat), k < 16 → hg (hp scr s) (b + 1) k = some (.int (s.1 (b + 1) k))) ∧
  (∀ (scr : List Int32) (s : MS) (k : Nat) (x : Int32), k < 16 → hs (hp scr s) (b + 1) k (.int x) = hp scr (up s (b + 1) k x)) ∧
  (∀ (scr : List Int32) (s : MS), hk (hp scr s) (b + 2) = some 20) ∧
  (∀ (scr : List Int32) (s : MS) (k : Nat), k < 16 → hg (hp scr s) (b + 2) k = some (.int (s.1 (b + 2) k))) ∧
  (∀ (scr : List Int32) (s : MS) (k : Nat) (x : Int32), k < 16 → hs (hp scr s) (b + 2) k (.int x) = hp scr (up s (b + 2) k x)) ∧
  (∀ (scr : List Int32) (s : MS), hk (hp scr s) (b + 3) = some 20) ∧
  (∀ (scr : List Int32) (s : MS) (k : Nat), k < 16 → hg (hp scr s) (b + 3) k = some (.int (s.1 (b + 3) k))) ∧
  (∀ (scr : List Int32) (s : MS) (k : Nat) (x : Int32), k < 16 → hs (hp scr s) (b + 3) k (.int x) = hp scr (up s (b + 3) k x)) ∧
  (∀ (scr : List Int32) (s : MS), hk (hp scr s) (b + 4) = some 20) ∧
  (∀ (scr : List Int32) (s : MS) (k : Nat), k < 16 → hg (hp scr s) (b + 4) k = some (.int (s.1 (b + 4) k))) ∧
  (∀ (scr : List Int32) (s : MS) (k : Nat) (x : Int32), k < 16 → hs (hp scr s) (b + 4) k (.int x) = hp scr (up s (b + 4) k x)) ∧
  (∀ (scr : List Int32) (s : MS), hk (hp scr s) (b + 5) = some 20) ∧
  (∀ (scr : List Int32) (s : MS) (k : Nat), k < 16 → hg (hp scr s) (b + 5) k = some (.int (s.1 (b + 5) k))) ∧
  (∀ (scr : List Int32) (s : MS) (k : Nat) (x : Int32), k < 16 → hs (hp scr s) (b + 5) k (.int x) = hp scr (up s (b + 5) k x)) ∧
  (∀ (scr : List Int32) (s : MS), hk (hp scr s) (b + 7) = some 20) ∧
  (∀ (scr : List Int32) (s : MS) (k : Nat), k < 16 → hg (hp scr s) (b + 7) k = some (.int (s.1 (b + 7) k))) ∧
  (∀ (scr : List Int32) (s : MS) (k : Nat) (x : Int32), k < 16 → hs (hp scr s) (b + 7) k (.int x) = hp scr (up s (b + 7) k x)) ∧
  (∀ (scr : List Int32) (s : MS), hk (hp scr s) (b + 8) = some 20) ∧
  (∀ (scr : List Int32) (s : MS) (k : Nat), k < 16 → hg (hp scr s) (b + 8) k = some (.int (s.1 (b + 8) k))) ∧
  (∀ (scr : List Int32) (s : MS) (k : Nat) (x : Int32), k < 16 → hs (hp scr s) (b + 8) k (.int x) = hp scr (up s (b + 8) k x)) ∧
  (∀ (scr : List Int32) (s : MS), hk (hp scr s) (b + 9) = some 20) ∧
  (∀ (scr : List Int32) (s : MS) (k : Nat), k < 16 → hg (hp scr s) (b + 9) k = some (.int (s.1 (b + 9) k))) ∧
  (∀ (scr : List Int32) (s : MS) (k : Nat) (x : Int32), k < 16 → hs (hp scr s) (b + 9) k (.int x) = hp scr (up s (b + 9) k x)) ∧
  (∀ (scr : List Int32) (s : MS), hk (hp scr s) (b + 11) = some 20) ∧
  (∀ (scr : List Int32) (s : MS) (k : Nat), k < 8 → hg (hp scr s) (b + 11) k = some (.int (s.1 (b + 11) k))) ∧
  (∀ (scr : List Int32) (s : MS) (k : Nat) (x : Int32), k < 8 → hs (hp scr s) (b + 11) k (.int x) = hp scr (up s (b + 11) k x)) ∧
  (∀ (scr : List Int32) (s : MS), hk (hp scr s) (b + 12) = some 20) ∧
  (∀ (scr : List Int32) (s : MS) (k : Nat), k < 16 → hg (hp scr s) (b + 12) k = some (.int (s.1 (b + 12) k))) ∧
  (∀ (scr : List Int32) (s : MS) (k : Nat) (x : Int32), k < 16 → hs (hp scr s) (b + 12) k (.int x) = hp scr (up s (b + 12) k x)) := ⟨fun _ _ => arr_hk (A_Pack_1 hb), fun _ _ _ h => arr_hg (A_Pack_1 hb) h, fun _ _ _ _ h => arr_hs (A_Pack_1 hb) h, fun _ _ => arr_hk (A_Pack_2 hb), fun _ _ _ h => arr_hg (A_Pack_2 hb) h, fun _ _ _ _ h => arr_hs (A_Pack_2 hb) h, fun _ _ => arr_hk (A_Pack_3 hb), fun _ _ _ h => arr_hg (A_Pack_3 hb) h, fun _ _ _ _ h => arr_hs (A_Pack_3 hb) h, fun _ _ => arr_hk (A_Pack_4 hb), fun _ _ _ h => arr_hg (A_Pack_4 hb) h, fun _ _ _ _ h => arr_hs (A_Pack_4 hb) h, fun _ _ => arr_hk (A_Pack_5 hb), fun _ _ _ h => arr_hg (A_Pack_5 hb) h, fun _ _ _ _ h => arr_hs (A_Pack_5 hb) h, fun _ _ => arr_hk (A_Pack_7 hb), fun _ _ _ h => arr_hg (A_Pack_7 hb) h, fun _ _ _ _ h => arr_hs (A_Pack_7 hb) h, fun _ _ => arr_hk (A_Pack_8 hb), fun _ _ _ h => arr_hg (A_Pack_8 hb) h, fun _ _ _ _ h => arr_hs (A_Pack_8 hb) h, fun _ _ => arr_hk (A_Pack_9 hb), fun _ _ _ h => arr_hg (A_Pack_9 hb) h, fun _ _ _ _ h => arr_hs (A_Pack_9 hb) h, fun _ _ => arr_hk (A_Pack_11 hb), fun _ _ _ h => arr_hg (A_Pack_11 hb) h, fun _ _ _ _ h => arr_hs (A_Pack_11 hb) h, fun _ _ => arr_hk (A_Pack_12 hb), fun _ _ _ h => arr_hg (A_Pack_12 hb) h, fun _ _ _ _ h => arr_hs (A_Pack_12 hb) h⟩
theorem T_Mach (scr : List Int32) (s : MS) : hk (hp scr s) 61 = some 3 ∧
  hg (hp scr s) 61 0 = some (.ref 6) ∧
  hg (hp scr s) 61 1 = some (.ref 62) ∧
  hg (hp scr s) 61 2 = some (.ref 63) ∧
  hg (hp scr s) 61 3 = some (.int (s.1 61 3)) ∧
  hg (hp scr s) 61 4 = some (.int (s.1 61 4)) ∧
  hk (hp scr s) 62 = some 20 ∧
  hk (hp scr s) 63 = some 20 := ⟨hk_hp (r := 61) (by decide), fld_hg (r := 61) (k := 0) (d := 8) (by decide) rfl, fld_hg (r := 61) (k := 1) (d := 64) (by decide) rfl, fld_hg (r := 61) (k := 2) (d := 65) (by decide) rfl, fld_hg (r := 61) (k := 3) (d := 0) (by decide) rfl, fld_hg (r := 61) (k := 4) (d := 0) (by decide) rfl, hk_hp (r := 62) (by decide), hk_hp (r := 63) (by decide)⟩
theorem U_Mach (scr : List Int32) (s : MS) : (∀ x, hs (hp scr s) 61 3 (.int x) = hp scr (up s 61 3 x)) ∧
  (∀ x, hs (hp scr s) 61 4 (.int x) = hp scr (up s 61 4 x)) := ⟨fun _ => hs_hp (r := 61) (k := 3) (by decide) rfl, fun _ => hs_hp (r := 61) (k := 4) (by decide) rfl⟩
theorem A_Mach_1 : arr 62 16 := arr_of rfl rfl
theorem A_Mach_2 : arr 63 16 := arr_of rfl rfl
theorem G_Mach : (∀ (scr : List Int32) (s : MS), hk (hp scr s) 62 = some 20) ∧
  (∀ (scr : List Int32) (s : MS) (k : Nat), k < 16 → hg (hp scr s) 62 k = some (.int (s.1 62 k))) ∧
  (∀ (scr : List Int32) (s : MS) (k : Nat) (x : Int32), k < 16 → hs (hp scr s) 62 k (.int x) = hp scr (up s 62 k x)) ∧
  (∀ (scr : List Int32) (s : MS), hk (hp scr s) 63 = some 20) ∧
  (∀ (scr : List Int32) (s : MS) (k : Nat), k < 16 → hg (hp scr s) 63 k = some (.int (s.1 63 k))) ∧
  (∀ (scr : List Int32) (s : MS) (k : Nat) (x : Int32), k < 16 → hs (hp scr s) 63 k (.int x) = hp scr (up s 63 k x)) := ⟨fun _ _ => arr_hk A_Mach_1, fun _ _ _ h => arr_hg A_Mach_1 h, fun _ _ _ _ h => arr_hs A_Mach_1 h, fun _ _ => arr_hk A_Mach_2, fun _ _ _ h => arr_hg A_Mach_2 h, fun _ _ _ _ h => arr_hs A_Mach_2 h⟩
theorem T_R (scr : List Int32) (s : MS) : hk (hp scr s) 65 = some 10 ∧
  hg (hp scr s) 65 0 = some (.ref 66) ∧
  hg (hp scr s) 65 1 = some (.int (s.1 65 1)) ∧
  hg (hp scr s) 65 2 = some (.int (s.1 65 2)) ∧
  hg (hp scr s) 65 3 = some (.ref 67) ∧
  hg (hp scr s) 65 4 = some (.ref 68) ∧
  hg (hp scr s) 65 5 = some (.ref 69) ∧
  hg (hp scr s) 65 6 = some (.ref 70) ∧
  hg (hp scr s) 65 7 = some (.ref 71) ∧
  hg (hp scr s) 65 8 = some (.ref 72) ∧
  hg (hp scr s) 65 9 = some (.ref 73) ∧
  hg (hp scr s) 65 10 = some (.int (s.1 65 10)) ∧
  hg (hp scr s) 65 11 = some (.int (s.1 65 11)) ∧
  hg (hp scr s) 65 12 = some (.ref 74) ∧
  hg (hp scr s) 65 13 = some (.ref 75) ∧
  hg (hp scr s) 65 14 = some (.ref 76) ∧
  hg (hp scr s) 65 15 = some (.ref 77) ∧
  hg (hp scr s) 65 16 = some (.int (s.1 65 16)) ∧
  hg (hp scr s) 65 17 = some (.long (s.2 65)) ∧
  hg (hp scr s) 65 18 = some (.int (s.1 65 18)) ∧
  hg (hp scr s) 65 19 = some (.int (s.1 65 19)) ∧
  hg (hp scr s) 65 20 = some (.ref 78) ∧
  hg (hp scr s) 65 21 = some (.ref 79) ∧
  hg (hp scr s) 65 22 = some (.ref 80) ∧
  hg (hp scr s) 65 23 = some (.ref 81) ∧
  hg (hp scr s) 65 24 = some (.int (s.1 65 24)) ∧
  hg (hp scr s) 65 25 = some (.int (s.1 65 25)) ∧
  hg (hp scr s) 65 26 = some (.int (s.1 65 26)) ∧
  hg (hp scr s) 65 27 = some (.ref 82) ∧
  hg (hp scr s) 65 28 = some (.ref 83) ∧
  hg (hp scr s) 65 29 = some (.int (s.1 65 29)) ∧
  hg (hp scr s) 65 30 = some (.ref 84) ∧
  hg (hp scr s) 65 31 = some (.int (s.1 65 31)) ∧
  hg (hp scr s) 65 32 = some (.int (s.1 65 32)) ∧
  hg (hp scr s) 65 33 = some (.int (s.1 65 33)) ∧
  hg (hp scr s) 65 34 = some (.ref 85) ∧
  hg (hp scr s) 65 35 = some (.ref 86) ∧
  hg (hp scr s) 65 36 = some (.ref 87) ∧
  hg (hp scr s) 65 37 = some (.int (s.1 65 37)) ∧
  hg (hp scr s) 65 38 = some (.ref 88) ∧
  hg (hp scr s) 65 39 = some (.ref 89) ∧
  hg (hp scr s) 65 40 = some (.int (s.1 65 40)) ∧
  hg (hp scr s) 65 41 = some (.int (s.1 65 41)) ∧
  hg (hp scr s) 65 42 = some (.int (s.1 65 42)) ∧
  hg (hp scr s) 65 43 = some (.int (s.1 65 43)) ∧
  hg (hp scr s) 65 44 = some (.ref 90) ∧
  hg (hp scr s) 65 45 = some (.ref 91) ∧
  hg (hp scr s) 65 46 = some (.ref 92) ∧
  hg (hp scr s) 65 47 = some (.ref 93) ∧
  hg (hp scr s) 65 48 = some (.int (s.1 65 48)) ∧
  hg (hp scr s) 65 49 = some (.int (s.1 65 49)) ∧
  hk (hp scr s) 66 = some 20 ∧
  hk (hp scr s) 67 = some 20 ∧
  hk (hp scr s) 68 = some 20 ∧
  hk (hp scr s) 69 = some 20 ∧
  hk (hp scr s) 70 = some 20 ∧
  hk (hp scr s) 71 = some 20 ∧
  hk (hp scr s) 72 = some 20 ∧
  hk (hp scr s) 73 = some 20 ∧
  hk (hp scr s) 74 = some 20 ∧
  hk (hp scr s) 75 = some 21 ∧
  hk (hp scr s) 76 = some 20 ∧
  hk (hp scr s) 77 = some 20 ∧
  hk (hp scr s) 78 = some 20 ∧
  hk (hp scr s) 79 = some 20 ∧
  hk (hp scr s) 80 = some 20 ∧
  hk (hp scr s) 81 = some 20 ∧
  hk (hp scr s) 82 = some 20 ∧
  hk (hp scr s) 83 = some 20 ∧
  hk (hp scr s) 84 = some 20 ∧
  hk (hp scr s) 85 = some 20 ∧
  hk (hp scr s) 86 = some 20 ∧
  hk (hp scr s) 87 = some 20 ∧
  hk (hp scr s) 88 = some 20 ∧
  hk (hp scr s) 89 = some 20 ∧
  hk (hp scr s) 90 = some 20 ∧
  hk (hp scr s) 91 = some 20 ∧
  hk (hp scr s) 92 = some 20 ∧
  hk (hp scr s) 93 = some 20 := ⟨hk_hp (r := 65) (by decide), fld_hg (r := 65) (k := 0) (d := 68) (by decide) rfl, fld_hg (r := 65) (k := 1) (d := 0) (by decide) rfl, fld_hg (r := 65) (k := 2) (d := 0) (by decide) rfl, fld_hg (r := 65) (k := 3) (d := 69) (by decide) rfl, fld_hg (r := 65) (k := 4) (d := 70) (by decide) rfl, fld_hg (r := 65) (k := 5) (d := 71) (by decide) rfl, fld_hg (r := 65) (k := 6) (d := 72) (by decide) rfl, fld_hg (r := 65) (k := 7) (d := 73) (by decide) rfl, fld_hg (r := 65) (k := 8) (d := 74) (by decide) rfl, fld_hg (r := 65) (k := 9) (d := 75) (by decide) rfl, fld_hg (r := 65) (k := 10) (d := 0) (by decide) rfl, fld_hg (r := 65) (k := 11) (d := 0) (by decide) rfl, fld_hg (r := 65) (k := 12) (d := 76) (by decide) rfl, fld_hg (r := 65) (k := 13) (d := 77) (by decide) rfl, fld_hg (r := 65) (k := 14) (d := 78) (by decide) rfl, fld_hg (r := 65) (k := 15) (d := 79) (by decide) rfl, fld_hg (r := 65) (k := 16) (d := 0) (by decide) rfl, fld_hg (r := 65) (k := 17) (d := 1) (by decide) rfl, fld_hg (r := 65) (k := 18) (d := 0) (by decide) rfl, fld_hg (r := 65) (k := 19) (d := 0) (by decide) rfl, fld_hg (r := 65) (k := 20) (d := 80) (by decide) rfl, fld_hg (r := 65) (k := 21) (d := 81) (by decide) rfl, fld_hg (r := 65) (k := 22) (d := 82) (by decide) rfl, fld_hg (r := 65) (k := 23) (d := 83) (by decide) rfl, fld_hg (r := 65) (k := 24) (d := 0) (by decide) rfl, fld_hg (r := 65) (k := 25) (d := 0) (by decide) rfl, fld_hg (r := 65) (k := 26) (d := 0) (by decide) rfl, fld_hg (r := 65) (k := 27) (d := 84) (by decide) rfl, fld_hg (r := 65) (k := 28) (d := 85) (by decide) rfl, fld_hg (r := 65) (k := 29) (d := 0) (by decide) rfl, fld_hg (r := 65) (k := 30) (d := 86) (by decide) rfl, fld_hg (r := 65) (k := 31) (d := 0) (by decide) rfl, fld_hg (r := 65) (k := 32) (d := 0) (by decide) rfl, fld_hg (r := 65) (k := 33) (d := 0) (by decide) rfl, fld_hg (r := 65) (k := 34) (d := 87) (by decide) rfl, fld_hg (r := 65) (k := 35) (d := 88) (by decide) rfl, fld_hg (r := 65) (k := 36) (d := 89) (by decide) rfl, fld_hg (r := 65) (k := 37) (d := 0) (by decide) rfl, fld_hg (r := 65) (k := 38) (d := 90) (by decide) rfl, fld_hg (r := 65) (k := 39) (d := 91) (by decide) rfl, fld_hg (r := 65) (k := 40) (d := 0) (by decide) rfl, fld_hg (r := 65) (k := 41) (d := 0) (by decide) rfl, fld_hg (r := 65) (k := 42) (d := 0) (by decide) rfl, fld_hg (r := 65) (k := 43) (d := 0) (by decide) rfl, fld_hg (r := 65) (k := 44) (d := 92) (by decide) rfl, fld_hg (r := 65) (k := 45) (d := 93) (by decide) rfl, fld_hg (r := 65) (k := 46) (d := 94) (by decide) rfl, fld_hg (r := 65) (k := 47) (d := 95) (by decide) rfl, fld_hg (r := 65) (k := 48) (d := 0) (by decide) rfl, fld_hg (r := 65) (k := 49) (d := 0) (by decide) rfl, hk_hp (r := 66) (by decide), hk_hp (r := 67) (by decide), hk_hp (r := 68) (by decide), hk_hp (r := 69) (by decide), hk_hp (r := 70) (by decide), hk_hp (r := 71) (by decide), hk_hp (r := 72) (by decide), hk_hp (r := 73) (by decide), hk_hp (r := 74) (by decide), hk_hp (r := 75) (by decide), hk_hp (r := 76) (by decide), hk_hp (r := 77) (by decide), hk_hp (r := 78) (by decide), hk_hp (r := 79) (by decide), hk_hp (r := 80) (by decide), hk_hp (r := 81) (by decide), hk_hp (r := 82) (by decide), hk_hp (r := 83) (by decide), hk_hp (r := 84) (by decide), hk_hp (r := 85) (by decide), hk_hp (r := 86) (by decide), hk_hp (r := 87) (by decide), hk_hp (r := 88) (by decide), hk_hp (r := 89) (by decide), hk_hp (r := 90) (by decide), hk_hp (r := 91) (by decide), hk_hp (r := 92) (by decide), hk_hp (r := 93) (by decide)⟩
theorem U_R (scr : List Int32) (s : MS) : (∀ x, hs (hp scr s) 65 1 (.int x) = hp scr (up s 65 1 x)) ∧
  (∀ x, hs (hp scr s) 65 2 (.int x) = hp scr (up s 65 2 x)) ∧
  (∀ x, hs (hp scr s) 65 10 (.int x) = hp scr (up s 65 10 x)) ∧
  (∀ x, hs (hp scr s) 65 11 (.int x) = hp scr (up s 65 11 x)) ∧
  (∀ x, hs (hp scr s) 65 16 (.int x) = hp scr (up s 65 16 x)) ∧
  (∀ x, hs (hp scr s) 65 18 (.int x) = hp scr (up s 65 18 x)) ∧
  (∀ x, hs (hp scr s) 65 19 (.int x) = hp scr (up s 65 19 x)) ∧
  (∀ x, hs (hp scr s) 65 24 (.int x) = hp scr (up s 65 24 x)) ∧
  (∀ x, hs (hp scr s) 65 25 (.int x) = hp scr (up s 65 25 x)) ∧
  (∀ x, hs (hp scr s) 65 26 (.int x) = hp scr (up s 65 26 x)) ∧
  (∀ x, hs (hp scr s) 65 29 (.int x) = hp scr (up s 65 29 x)) ∧
  (∀ x, hs (hp scr s) 65 31 (.int x) = hp scr (up s 65 31 x)) ∧
  (∀ x, hs (hp scr s) 65 32 (.int x) = hp scr (up s 65 32 x)) ∧
  (∀ x, hs (hp scr s) 65 33 (.int x) = hp scr (up s 65 33 x)) ∧
  (∀ x, hs (hp scr s) 65 37 (.int x) = hp scr (up s 65 37 x)) ∧
  (∀ x, hs (hp scr s) 65 40 (.int x) = hp scr (up s 65 40 x)) ∧
  (∀ x, hs (hp scr s) 65 41 (.int x) = hp scr (up s 65 41 x)) ∧
  (∀ x, hs (hp scr s) 65 42 (.int x) = hp scr (up s 65 42 x)) ∧
  (∀ x, hs (hp scr s) 65 43 (.int x) = hp scr (up s 65 43 x)) ∧
  (∀ x, hs (hp scr s) 65 48 (.int x) = hp scr (up s 65 48 x)) ∧
  (∀ x, hs (hp scr s) 65 49 (.int x) = hp scr (up s 65 49 x)) := ⟨fun _ => hs_hp (r := 65) (k := 1) (by decide) rfl, fun _ => hs_hp (r := 65) (k := 2) (by decide) rfl, fun _ => hs_hp (r := 65) (k := 10) (by decide) rfl, fun _ => hs_hp (r := 65) (k := 11) (by decide) rfl, fun _ => hs_hp (r := 65) (k := 16) (by decide) rfl, fun _ => hs_hp (r := 65) (k := 18) (by decide) rfl, fun _ => hs_hp (r := 65) (k := 19) (by decide) rfl, fun _ => hs_hp (r := 65) (k := 24) (by decide) rfl, fun _ => hs_hp (r := 65) (k := 25) (by decide) rfl, fun _ => hs_hp (r := 65) (k := 26) (by decide) rfl, fun _ => hs_hp (r := 65) (k := 29) (by decide) rfl, fun _ => hs_hp (r := 65) (k := 31) (by decide) rfl, fun _ => hs_hp (r := 65) (k := 32) (by decide) rfl, fun _ => hs_hp (r := 65) (k := 33) (by decide) rfl, fun _ => hs_hp (r := 65) (k := 37) (by decide) rfl, fun _ => hs_hp (r := 65) (k := 40) (by decide) rfl, fun _ => hs_hp (r := 65) (k := 41) (by decide) rfl, fun _ => hs_hp (r := 65) (k := 42) (by decide) rfl, fun _ => hs_hp (r := 65) (k := 43) (by decide) rfl, fun _ => hs_hp (r := 65) (k := 48) (by decide) rfl, fun _ => hs_hp (r := 65) (k := 49) (by decide) rfl⟩
theorem A_R_1 : arr 66 80 := arr_of rfl rfl
theorem A_R_2 : arr 67 16 := arr_of rfl rfl
theorem A_R_3 : arr 68 16 := arr_of rfl rfl
theorem A_R_4 : arr 69 16 := arr_of rfl rfl
theorem A_R_5 : arr 70 16 := arr_of rfl rfl
theorem A_R_6 : arr 71 19 := arr_of rfl rfl
theorem A_R_7 : arr 72 19 := arr_of rfl rfl
theorem A_R_8 : arr 73 266 := arr_of rfl rfl
theorem A_R_9 : arr 74 38 := arr_of rfl rfl
theorem A_R_11 : arr 76 6 := arr_of rfl rfl
theorem A_R_12 : arr 77 6 := arr_of rfl rfl
theorem A_R_13 : arr 78 16 := arr_of rfl rfl
theorem A_R_14 : arr 79 16 := arr_of rfl rfl
theorem A_R_15 : arr 80 16 := arr_of rfl rfl
theorem A_R_16 : arr 81 16 := arr_of rfl rfl
theorem A_R_17 : arr 82 16 := arr_of rfl rfl
theorem A_R_18 : arr 83 16 := arr_of rfl rfl
theorem A_R_19 : arr 84 80 := arr_of rfl rfl
theorem A_R_20 : arr 85 16 := arr_of rfl rfl
theorem A_R_21 : arr 86 16 := arr_of rfl rfl
theorem A_R_22 : arr 87 16 := arr_of rfl rfl
theorem A_R_23 : arr 88 6 := arr_of rfl rfl
theorem A_R_24 : arr 89 64 := arr_of rfl rfl
theorem A_R_25 : arr 90 16 := arr_of rfl rfl
theorem A_R_26 : arr 91 16 := arr_of rfl rfl
theorem A_R_27 : arr 92 16 := arr_of rfl rfl
theorem A_R_28 : arr 93 16 := arr_of rfl rfl
theorem G_R : (∀ (scr : List Int32) (s : MS), hk (hp scr s) 66 = some 20) ∧
  (∀ (scr : List Int32) (s : MS) (k : Nat), k < 80 → hg (hp scr s) 66 k = some (.int (s.1 66 k))) ∧
  (∀ (scr : List Int32) (s : MS) (k : Nat) (x : Int32), k < 80 → hs (hp scr s) 66 k (.int x) = hp scr (up s 66 k x)) ∧
  (∀ (scr : List Int32) (s : MS), hk (hp scr s) 67 = some 20) ∧
  (∀ (scr : List Int32) (s : MS) (k : Nat), k < 16 → hg (hp scr s) 67 k = some (.int (s.1 67 k))) ∧
  (∀ (scr : List Int32) (s : MS) (k : Nat) (x : Int32), k < 16 → hs (hp scr s) 67 k (.int x) = hp scr (up s 67 k x)) ∧
  (∀ (scr : List Int32) (s : MS), hk (hp scr s) 68 = some 20) ∧
  (∀ (scr : List Int32) (s : MS) (k : Nat), k < 16 → hg (hp scr s) 68 k = some (.int (s.1 68 k))) ∧
  (∀ (scr : List Int32) (s : MS) (k : Nat) (x : Int32), k < 16 → hs (hp scr s) 68 k (.int x) = hp scr (up s 68 k x)) ∧
  (∀ (scr : List Int32) (s : MS), hk (hp scr s) 69 = some 20) ∧
  (∀ (scr : List Int32) (s : MS) (k : Nat), k < 16 → hg (hp scr s) 69 k = some (.int (s.1 69 k))) ∧
  (∀ (scr : List Int32) (s : MS) (k : Nat) (x : Int32), k < 16 → hs (hp scr s) 69 k (.int x) = hp scr (up s 69 k x)) ∧
  (∀ (scr : List Int32) (s : MS), hk (hp scr s) 70 = some 20) ∧
  (∀ (scr : List Int32) (s : MS) (k : Nat), k < 16 → hg (hp scr s) 70 k = some (.int (s.1 70 k))) ∧
  (∀ (scr : List Int32) (s : MS) (k : Nat) (x : Int32), k < 16 → hs (hp scr s) 70 k (.int x) = hp scr (up s 70 k x)) ∧
  (∀ (scr : List Int32) (s : MS), hk (hp scr s) 71 = some 20) ∧
  (∀ (scr : List Int32) (s : MS) (k : Nat), k < 19 → hg (hp scr s) 71 k = some (.int (s.1 71 k))) ∧
  (∀ (scr : List Int32) (s : MS) (k : Nat) (x : Int32), k < 19 → hs (hp scr s) 71 k (.int x) = hp scr (up s 71 k x)) ∧
  (∀ (scr : List Int32) (s : MS), hk (hp scr s) 72 = some 20) ∧
  (∀ (scr : List Int32) (s : MS) (k : Nat), k < 19 → hg (hp scr s) 72 k = some (.int (s.1 72 k))) ∧
  (∀ (scr : List Int32) (s : MS) (k : Nat) (x : Int32), k < 19 → hs (hp scr s) 72 k (.int x) = hp scr (up s 72 k x)) ∧
  (∀ (scr : List Int32) (s : MS), hk (hp scr s) 73 = some 20) ∧
  (∀ (scr : List Int32) (s : MS) (k : Nat), k < 266 → hg (hp scr s) 73 k = some (.int (s.1 73 k))) ∧
  (∀ (scr : List Int32) (s : MS) (k : Nat) (x : Int32), k < 266 → hs (hp scr s) 73 k (.int x) = hp scr (up s 73 k x)) ∧
  (∀ (scr : List Int32) (s : MS), hk (hp scr s) 74 = some 20) ∧
  (∀ (scr : List Int32) (s : MS) (k : Nat), k < 38 → hg (hp scr s) 74 k = some (.int (s.1 74 k))) ∧
  (∀ (scr : List Int32) (s : MS) (k : Nat) (x : Int32), k < 38 → hs (hp scr s) 74 k (.int x) = hp scr (up s 74 k x)) ∧
  (∀ (scr : List Int32) (s : MS), hk (hp scr s) 76 = some 20) ∧
  (∀ (scr : List Int32) (s : MS) (k : Nat), k < 6 → hg (hp scr s) 76 k = some (.int (s.1 76 k))) ∧
  (∀ (scr : List Int32) (s : MS) (k : Nat) (x : Int32), k < 6 → hs (hp scr s) 76 k (.int x) = hp scr (up s 76 k x)) ∧
  (∀ (scr : List Int32) (s : MS), hk (hp scr s) 77 = some 20) ∧
  (∀ (scr : List Int32) (s : MS) (k : Nat), k < 6 → hg (hp scr s) 77 k = some (.int (s.1 77 k))) ∧
  (∀ (scr : List Int32) (s : MS) (k : Nat) (x : Int32), k < 6 → hs (hp scr s) 77 k (.int x) = hp scr (up s 77 k x)) ∧
  (∀ (scr : List Int32) (s : MS), hk (hp scr s) 78 = some 20) ∧
  (∀ (scr : List Int32) (s : MS) (k : Nat), k < 16 → hg (hp scr s) 78 k = some (.int (s.1 78 k))) ∧
  (∀ (scr : List Int32) (s : MS) (k : Nat) (x : Int32), k < 16 → hs (hp scr s) 78 k (.int x) = hp scr (up s 78 k x)) ∧
  (∀ (scr : List Int32) (s : MS), hk (hp scr s) 79 = some 20) ∧
  (∀ (scr : List Int32) (s : MS) (k : Nat), k < 16 → hg (hp scr s) 79 k = some (.int (s.1 79 k))) ∧
  (∀ (scr : List Int32) (s : MS) (k : Nat) (x : Int32), k < 16 → hs (hp scr s) 79 k (.int x) = hp scr (up s 79 k x)) ∧
  (∀ (scr : List Int32) (s : MS), hk (hp scr s) 80 = some 20) ∧
  (∀ (scr : List Int32) (s : MS) (k : Nat), k < 16 → hg (hp scr s) 80 k = some (.int (s.1 80 k))) ∧
  (∀ (scr : List Int32) (s : MS) (k : Nat) (x : Int32), k < 16 → hs (hp scr s) 80 k (.int x) = hp scr (up s 80 k x)) ∧
  (∀ (scr : List Int32) (s : MS), hk (hp scr s) 81 = some 20) ∧
  (∀ (scr : List Int32) (s : MS) (k : Nat), k < 16 → hg (hp scr s) 81 k = some (.int (s.1 81 k))) ∧
  (∀ (scr : List Int32) (s : MS) (k : Nat) (x : Int32), k < 16 → hs (hp scr s) 81 k (.int x) = hp scr (up s 81 k x)) ∧
  (∀ (scr : List Int32) (s : MS), hk (hp scr s) 82 = some 20) ∧
  (∀ (scr : List Int32) (s : MS) (k : Nat), k < 16 → hg (hp scr s) 82 k = some (.int (s.1 82 k))) ∧
  (∀ (scr : List Int32) (s : MS) (k : Nat) (x : Int32), k < 16 → hs (hp scr s) 82 k (.int x) = hp scr (up s 82 k x)) ∧
  (∀ (scr : List Int32) (s : MS), hk (hp scr s) 83 = some 20) ∧
  (∀ (scr : List Int32) (s : MS) (k : Nat), k < 16 → hg (hp scr s) 83 k = some (.int (s.1 83 k))) ∧
  (∀ (scr : List Int32) (s : MS) (k : Nat) (x : Int32), k < 16 → hs (hp scr s) 83 k (.int x) = hp scr (up s 83 k x)) ∧
  (∀ (scr : List Int32) (s : MS), hk (hp scr s) 84 = some 20) ∧
  (∀ (scr : List Int32) (s : MS) (k : Nat), k < 80 → hg (hp scr s) 84 k = some (.int (s.1 84 k))) ∧
  (∀ (scr : List Int32) (s : MS) (k : Nat) (x : Int32), k < 80 → hs (hp scr s) 84 k (.int x) = hp scr (up s 84 k x)) ∧
  (∀ (scr : List Int32) (s : MS), hk (hp scr s) 85 = some 20) ∧
  (∀ (scr : List Int32) (s : MS) (k : Nat), k < 16 → hg (hp scr s) 85 k = some (.int (s.1 85 k))) ∧
  (∀ (scr : List Int32) (s : MS) (k : Nat) (x : Int32), k < 16 → hs (hp scr s) 85 k (.int x) = hp scr (up s 85 k x)) ∧
  (∀ (scr : List Int32) (s : MS), hk (hp scr s) 86 = some 20) ∧
  (∀ (scr : List Int32) (s : MS) (k : Nat), k < 16 → hg (hp scr s) 86 k = some (.int (s.1 86 k))) ∧
  (∀ (scr : List Int32) (s : MS) (k : Nat) (x : Int32), k < 16 → hs (hp scr s) 86 k (.int x) = hp scr (up s 86 k x)) ∧
  (∀ (scr : List Int32) (s : MS), hk (hp scr s) 87 = some 20) ∧
  (∀ (scr : List Int32) (s : MS) (k : Nat), k < 16 → hg (hp scr s) 87 k = some (.int (s.1 87 k))) ∧
  (∀ (scr : List Int32) (s : MS) (k : Nat) (x : Int32), k < 16 → hs (hp scr s) 87 k (.int x) = hp scr (up s 87 k x)) ∧
  (∀ (scr : List Int32) (s : MS), hk (hp scr s) 88 = some 20) ∧
  (∀ (scr : List Int32) (s : MS) (k : Nat), k < 6 → hg (hp scr s) 88 k = some (.int (s.1 88 k))) ∧
  (∀ (scr : List Int32) (s : MS) (k : Nat) (x : Int32), k < 6 → hs (hp scr s) 88 k (.int x) = hp scr (up s 88 k x)) ∧
  (∀ (scr : List Int32) (s : MS), hk (hp scr s) 89 = some 20) ∧
  (∀ (scr : List Int32) (s : MS) (k : Nat), k < 64 → hg (hp scr s) 89 k = some (.int (s.1 89 k))) ∧
  (∀ (scr : List Int32) (s : MS) (k : Nat) (x : Int32), k < 64 → hs (hp scr s) 89 k (.int x) = hp scr (up s 89 k x)) ∧
  (∀ (scr : List Int32) (s : MS), hk (hp scr s) 90 = some 20) ∧
  (∀ (scr : List Int32) (s : MS) (k : Nat), k < 16 → hg (hp scr s) 90 k = some (.int (s.1 90 k))) ∧
  (∀ (scr : List Int32) (s : MS) (k : Nat) (x : Int32), k < 16 → hs (hp scr s) 90 k (.int x) = hp scr (up s 90 k x)) ∧
  (∀ (scr : List Int32) (s : MS), hk (hp scr s) 91 = some 20) ∧
  (∀ (scr : List Int32) (s : MS) (k : Nat), k < 16 → hg (hp scr s) 91 k = some (.int (s.1 91 k))) ∧
  (∀ (scr : List Int32) (s : MS) (k : Nat) (x : Int32), k < 16 → hs (hp scr s) 91 k (.int x) = hp scr (up s 91 k x)) ∧
  (∀ (scr : List Int32) (s : MS), hk (hp scr s) 92 = some 20) ∧
  (∀ (scr : List Int32) (s : MS) (k : Nat), k < 16 → hg (hp scr s) 92 k = some (.int (s.1 92 k))) ∧
  (∀ (scr : List Int32) (s : MS) (k : Nat) (x : Int32), k < 16 → hs (hp scr s) 92 k (.int x) = hp scr (up s 92 k x)) ∧
  (∀ (scr : List Int32) (s : MS), hk (hp scr s) 93 = some 20) ∧
  (∀ (scr : List Int32) (s : MS) (k : Nat), k < 16 → hg (hp scr s) 93 k = some (.int (s.1 93 k))) ∧
  (∀ (scr : List Int32) (s : MS) (k : Nat) (x : Int32), k < 16 → hs (hp scr s) 93 k (.int x) = hp scr (up s 93 k x)) := ⟨fun _ _ => arr_hk A_R_1, fun _ _ _ h => arr_hg A_R_1 h, fun _ _ _ _ h => arr_hs A_R_1 h, fun _ _ => arr_hk A_R_2, fun _ _ _ h => arr_hg A_R_2 h, fun _ _ _ _ h => arr_hs A_R_2 h, fun _ _ => arr_hk A_R_3, fun _ _ _ h => arr_hg A_R_3 h, fun _ _ _ _ h => arr_hs A_R_3 h, fun _ _ => arr_hk A_R_4, fun _ _ _ h => arr_hg A_R_4 h, fun _ _ _ _ h => arr_hs A_R_4 h, fun _ _ => arr_hk A_R_5, fun _ _ _ h => arr_hg A_R_5 h, fun _ _ _ _ h => arr_hs A_R_5 h, fun _ _ => arr_hk A_R_6, fun _ _ _ h => arr_hg A_R_6 h, fun _ _ _ _ h => arr_hs A_R_6 h, fun _ _ => arr_hk A_R_7, fun _ _ _ h => arr_hg A_R_7 h, fun _ _ _ _ h => arr_hs A_R_7 h, fun _ _ => arr_hk A_R_8, fun _ _ _ h => arr_hg A_R_8 h, fun _ _ _ _ h => arr_hs A_R_8 h, fun _ _ => arr_hk A_R_9, fun _ _ _ h => arr_hg A_R_9 h, fun _ _ _ _ h => arr_hs A_R_9 h, fun _ _ => arr_hk A_R_11, fun _ _ _ h => arr_hg A_R_11 h, fun _ _ _ _ h => arr_hs A_R_11 h, fun _ _ => arr_hk A_R_12, fun _ _ _ h => arr_hg A_R_12 h, fun _ _ _ _ h => arr_hs A_R_12 h, fun _ _ => arr_hk A_R_13, fun _ _ _ h => arr_hg A_R_13 h, fun _ _ _ _ h => arr_hs A_R_13 h, fun _ _ => arr_hk A_R_14, fun _ _ _ h => arr_hg A_R_14 h, fun _ _ _ _ h => arr_hs A_R_14 h, fun _ _ => arr_hk A_R_15, fun _ _ _ h => arr_hg A_R_15 h, fun _ _ _ _ h => arr_hs A_R_15 h, fun _ _ => arr_hk A_R_16, fun _ _ _ h => arr_hg A_R_16 h, fun _ _ _ _ h => arr_hs A_R_16 h, fun _ _ => arr_hk A_R_17, fun _ _ _ h => arr_hg A_R_17 h, fun _ _ _ _ h => arr_hs A_R_17 h, fun _ _ => arr_hk A_R_18, fun _ _ _ h => arr_hg A_R_18 h, fun _ _ _ _ h => arr_hs A_R_18 h, fun _ _ => arr_hk A_R_19, fun _ _ _ h => arr_hg A_R_19 h, fun _ _ _ _ h => arr_hs A_R_19 h, fun _ _ => arr_hk A_R_20, fun _ _ _ h => arr_hg A_R_20 h, fun _ _ _ _ h => arr_hs A_R_20 h, fun _ _ => arr_hk A_R_21, fun _ _ _ h => arr_hg A_R_21 h, fun _ _ _ _ h => arr_hs A_R_21 h, fun _ _ => arr_hk A_R_22, fun _ _ _ h => arr_hg A_R_22 h, fun _ _ _ _ h => arr_hs A_R_22 h, fun _ _ => arr_hk A_R_23, fun _ _ _ h => arr_hg A_R_23 h, fun _ _ _ _ h => arr_hs A_R_23 h, fun _ _ => arr_hk A_R_24, fun _ _ _ h => arr_hg A_R_24 h, fun _ _ _ _ h => arr_hs A_R_24 h, fun _ _ => arr_hk A_R_25, fun _ _ _ h => arr_hg A_R_25 h, fun _ _ _ _ h => arr_hs A_R_25 h, fun _ _ => arr_hk A_R_26, fun _ _ _ h => arr_hg A_R_26 h, fun _ _ _ _ h => arr_hs A_R_26 h, fun _ _ => arr_hk A_R_27, fun _ _ _ h => arr_hg A_R_27 h, fun _ _ _ _ h => arr_hs A_R_27 h, fun _ _ => arr_hk A_R_28, fun _ _ _ h => arr_hg A_R_28 h, fun _ _ _ _ h => arr_hs A_R_28 h⟩
