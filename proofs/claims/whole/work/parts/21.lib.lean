/-! ===== Int32 by its bits: bt x i ===== -/
def bt (x : Int32) (i : Nat) : Bool := x.toBitVec.getLsbD i
theorem b_ext {x y : Int32} (h : ∀ i, i < 32 → bt x i = bt y i) : x = y := Int32.toBitVec_inj.mp (BitVec.eq_of_getLsbD_eq (fun i hi => h i hi))
theorem b_or (x y : Int32) (i : Nat) : bt (x ||| y) i = (bt x i || bt y i) := by unfold bt; rw [Int32.toBitVec_or, BitVec.getLsbD_or]
theorem b_and (x y : Int32) (i : Nat) : bt (x &&& y) i = (bt x i && bt y i) := by unfold bt; rw [Int32.toBitVec_and, BitVec.getLsbD_and]
theorem b_xor (x y : Int32) (i : Nat) : bt (x ^^^ y) i = (bt x i ^^ bt y i) := by unfold bt; rw [Int32.toBitVec_xor, BitVec.getLsbD_xor]
theorem b_big {x : Int32} {i : Nat} (h : 32 ≤ i) : bt x i = false := BitVec.getLsbD_of_ge _ _ h
theorem b_255 (i : Nat) : bt 255 i = decide (i < 8) := by
  rcases Nat.lt_or_ge i 32 with h | h
  · exact (by decide +kernel : ∀ i, i < 32 → bt 255 i = decide (i < 8)) i h
  · rw [b_big h, decide_eq_false (by omega)]
theorem b_65535 (i : Nat) : bt 65535 i = decide (i < 16) := by
  rcases Nat.lt_or_ge i 32 with h | h
  · exact (by decide +kernel : ∀ i, i < 32 → bt 65535 i = decide (i < 16)) i h
  · rw [b_big h, decide_eq_false (by omega)]
theorem b_m1 : ∀ i, i < 32 → bt (-1) i = true := by decide +kernel
theorem b_0 (i : Nat) : bt 0 i = false := BitVec.getLsbD_zero
theorem s_l : ∀ n, n < 32 → ((nI n &&& 31).toBitVec.smod 32).toNat = n := by decide +kernel
theorem s_u : ∀ n, n < 32 → (((nI n).toUInt32 &&& Int32.toUInt32 31).toBitVec % 32).toNat = n := by decide +kernel
theorem b_shl (n : Nat) (hn : n < 32) (x : Int32) {i : Nat} (hi : i < 32) : bt (x <<< (nI n &&& 31)) i = (decide (n ≤ i) && bt x (i - n)) := by
  unfold bt
  rw [Int32.toBitVec_shiftLeft]
  show (x.toBitVec <<< ((nI n &&& 31).toBitVec.smod 32).toNat).getLsbD i = _
  rw [s_l n hn, BitVec.getLsbD_shiftLeft]
  rcases Nat.lt_or_ge i n with h | h
  · simp [h, Nat.not_le.mpr h]
  · simp [hi, h, Nat.not_lt.mpr h]
theorem b_ushr (n : Nat) (hn : n < 32) (x : Int32) (i : Nat) : bt ((x.toUInt32 >>> ((nI n).toUInt32 &&& Int32.toUInt32 31)).toInt32) i = bt x (n + i) := by
  show (x.toUInt32 >>> ((nI n).toUInt32 &&& Int32.toUInt32 31)).toBitVec.getLsbD i = x.toUInt32.toBitVec.getLsbD (n + i)
  rw [UInt32.toBitVec_shiftRight]
  show (x.toUInt32.toBitVec >>> (((nI n).toUInt32 &&& Int32.toUInt32 31).toBitVec % 32).toNat).getLsbD i = _
  rw [s_u n hn, BitVec.getLsbD_ushiftRight]
theorem b_sshr (n : Nat) (hn : n < 32) (x : Int32) {i : Nat} (hi : i < 32) : bt (x >>> (nI n &&& 31)) i = if n + i < 32 then bt x (n + i) else bt x 31 := by
  unfold bt
  rw [Int32.toBitVec_shiftRight]
  show (x.toBitVec.sshiftRight ((nI n &&& 31).toBitVec.smod 32).toNat).getLsbD i = _
  rw [s_l n hn, BitVec.getLsbD_sshiftRight, BitVec.msb_eq_getLsbD_last]
  simp [hi]
theorem b_shl8 (x : Int32) {i : Nat} (hi : i < 32) : bt (x <<< ((8 : Int32) &&& 31)) i = (decide (8 ≤ i) && bt x (i - 8)) := b_shl 8 (by omega) x hi
theorem b_shl16 (x : Int32) {i : Nat} (hi : i < 32) : bt (x <<< ((16 : Int32) &&& 31)) i = (decide (16 ≤ i) && bt x (i - 16)) := b_shl 16 (by omega) x hi
theorem b_shl24 (x : Int32) {i : Nat} (hi : i < 32) : bt (x <<< ((24 : Int32) &&& 31)) i = (decide (24 ≤ i) && bt x (i - 24)) := b_shl 24 (by omega) x hi
theorem b_sshr8 (x : Int32) {i : Nat} (hi : i < 32) : bt (x >>> ((8 : Int32) &&& 31)) i = if 8 + i < 32 then bt x (8 + i) else bt x 31 := b_sshr 8 (by omega) x hi
/-! ===== mine ===== -/
def b2i (b : Bool) : Int32 := if b then 1 else 0
theorem b2i_01 (b : Bool) : b2i b = 0 ∨ b2i b = 1 := by cases b <;> simp [b2i]
theorem eC_b (c : PX Bool) (ls : LV) (h : HV) (K : Int32 → HV → Prop) : eC c ls h K = c ls h (fun t h1 => K (b2i t) h1) := rfl
theorem sRz_b (c : PX Bool) (kn kb kc : LV → HV → Prop) (kr : Option Value → HV → Prop) (ls : LV) (h : HV) : sRz (eC c) kn kb kc kr ls h = c ls h (fun t h1 => kr (some (.int (b2i t))) h1) := by
  show c ls h (fun t h1 => (b2i t = 0 ∨ b2i t = 1) ∧ kr (some (.int (b2i t))) h1) = _
  congr 1
  funext t h1
  simp [b2i_01]
def is01 (x : Int32) : Prop := x = 0 ∨ x = 1
theorem is01_b (t : Bool) : is01 (b2i t) = True := by cases t <;> simp [is01, b2i]
theorem is01_0 : is01 0 = True := by simp [is01]
theorem is01_1 : is01 1 = True := by simp [is01]
theorem sRz_g (e : PX Int32) (kn kb kc : LV → HV → Prop) (kr : Option Value → HV → Prop) (ls : LV) (h : HV) : sRz e kn kb kc kr ls h = e ls h (fun x h1 => is01 x ∧ kr (some (.int x)) h1) := rfl
theorem LITL : ((0 : Int64) = lN 0) ∧ ((1 : Int64) = lN 1) ∧ ((2 : Int64) = lN 2) ∧ ((3 : Int64) = lN 3) ∧ ((4 : Int64) = lN 4) ∧ ((5 : Int64) = lN 5) ∧ ((6 : Int64) = lN 6) ∧ ((7 : Int64) = lN 7) ∧ ((8 : Int64) = lN 8) ∧ ((9 : Int64) = lN 9) ∧ ((10 : Int64) = lN 10) ∧ ((11 : Int64) = lN 11) ∧ ((12 : Int64) = lN 12) ∧ ((13 : Int64) = lN 13) ∧ ((14 : Int64) = lN 14) ∧ ((15 : Int64) = lN 15) ∧ ((16 : Int64) = lN 16) ∧ ((17 : Int64) = lN 17) ∧ ((18 : Int64) = lN 18) ∧ ((19 : Int64) = lN 19) ∧ ((48 : Int64) = lN 48) ∧ ((55 : Int64) = lN 55) ∧ ((57 : Int64) = lN 57) ∧ ((65 : Int64) = lN 65) ∧ ((66 : Int64) = lN 66) ∧ ((99 : Int64) = lN 99) ∧ ((100 : Int64) = lN 100) ∧ ((255 : Int64) = lN 255) := ⟨rfl, rfl, rfl, rfl, rfl, rfl, rfl, rfl, rfl, rfl, rfl, rfl, rfl, rfl, rfl, rfl, rfl, rfl, rfl, rfl, rfl, rfl, rfl, rfl, rfl, rfl, rfl, rfl⟩
theorem b2i_0 (b : Bool) : (b2i b = 0) = (b = false) := by cases b <;> simp [b2i]
theorem b2i_1 (b : Bool) : (b2i b = 1) = (b = true) := by cases b <;> simp [b2i]
theorem b2i_t : b2i true = 1 := rfl
theorem b2i_f : b2i false = 0 := rfl
/-- loops: an invariant with a measure that falls -/
theorem lp_ind {n : Nat} {c : PX Bool} {b st : PS} {kn kb kc : LV → HV → Prop} {kr : Option Value → HV → Prop} (I : Nat → LV → HV → Prop)
    (hI : ∀ m ls h, I m ls h → ∀ X : LV → HV → Prop, (∀ m' ls' h', m' < m → I m' ls' h' → X ls' h') → c ls h (fun t h1 => if t then b (fun ls2 h2 => st (fun ls3 h3 => X (lcut n ls3) h3) (fun _ _ => False) (fun _ _ => False) kr ls2 h2) (fun ls2 h2 => kn (lcut n ls2) h2) (fun ls2 h2 => st (fun ls3 h3 => X (lcut n ls3) h3) (fun _ _ => False) (fun _ _ => False) kr ls2 h2) kr ls h1 else kn ls h1))
    {m : Nat} {ls : LV} {h : HV} (h0 : I m ls h) : sLp n c b st kn kb kc kr ls h := by
  intro X hX
  have key : ∀ m ls h, I m ls h → X ls h := by
    intro m
    induction m using Nat.strongRecOn with
    | ind m ih =>
      intro ls h hm
      exact hX ls h (hI m ls h hm X fun m' ls' h' h1 h2 => ih m' h1 ls' h' h2)
  exact key m ls h h0
/-- what may have changed -/
def Fr (F : Nat → Nat → Prop) (s s' : MS) : Prop := s'.2 = s.2 ∧ ∀ r k, ¬ F r k → s'.1 r k = s.1 r k
theorem Fr.rf {F : Nat → Nat → Prop} {s : MS} : Fr F s s := ⟨rfl, fun _ _ _ => rfl⟩
theorem Fr.up {F : Nat → Nat → Prop} {s s' : MS} (h : Fr F s s') {r k : Nat} (x : Int32) (hF : F r k) : Fr F s (up s' r k x) := ⟨h.1, fun a b q => by
  rw [up_get, if_neg (by rintro ⟨rfl, rfl⟩; exact q hF)]
  exact h.2 a b q⟩
theorem Fr.tr {F G : Nat → Nat → Prop} {s t u : MS} (h : Fr F s t) (g : Fr G t u) (hG : ∀ r k, G r k → F r k) : Fr F s u := ⟨g.1.trans h.1, fun a b q => (g.2 a b fun z => q (hG a b z)).trans (h.2 a b q)⟩
theorem Fr.wk {F G : Nat → Nat → Prop} {s t : MS} (g : Fr G s t) (hG : ∀ r k, G r k → F r k) : Fr F s t := ⟨g.1, fun a b q => g.2 a b fun z => q (hG a b z)⟩
/-! bits of what the classes compute -/
theorem b_one (k : Nat) : bt 1 k = decide (k = 0) := by
  rcases Nat.lt_or_ge k 32 with h | h
  · exact (by decide +kernel : ∀ i, i < 32 → bt 1 i = decide (i = 0)) k h
  · rw [b_big h, decide_eq_false (by omega)]
theorem b_bit {i k : Nat} (hi : i < 32) (hk : k < 32) : bt ((1 : Int32) <<< (nI i &&& 31)) k = decide (k = i) := by
  rw [b_shl i hi 1 hk, b_one]
  by_cases h : k = i
  · subst h; simp
  · simp [h]; omega
theorem b_neg (x : Int32) {k : Nat} (hk : k < 32) : bt (x ^^^ (-1)) k = !bt x k := by rw [b_xor, b_m1 k hk]; simp
/-- the test (set >> k & 1) == 1 -/
theorem b_test (x : Int32) {k : Nat} (hk : k < 32) : (x >>> (nI k &&& 31) &&& 1 = 1) = (bt x k = true) := by
  have e : x >>> (nI k &&& 31) &&& 1 = if bt x k then 1 else 0 := by
    apply b_ext
    intro i hi
    rw [b_and, b_one, b_sshr k hk x hi]
    by_cases h0 : i = 0
    · subst h0
      rw [Nat.add_zero, if_pos hk]
      cases bt x k <;> simp [b_one, b_0]
    · rw [decide_eq_false h0]
      cases bt x k <;> simp [b_one, b_0, h0]
  rw [e]
  cases bt x k <;> simp
theorem b_test1 (x : Int32) {k : Nat} (hk : k < 32) : x >>> (nI k &&& 31) &&& 1 = b2i (bt x k) := by
  have e := b_test x hk
  have f : x >>> (nI k &&& 31) &&& 1 = 0 ∨ x >>> (nI k &&& 31) &&& 1 = 1 := by
    have : x >>> (nI k &&& 31) &&& 1 = if bt x k then 1 else 0 := by
      apply b_ext
      intro i hi
      rw [b_and, b_one, b_sshr k hk x hi]
      by_cases h0 : i = 0
      · subst h0
        rw [Nat.add_zero, if_pos hk]
        cases bt x k <;> simp [b_one, b_0]
      · rw [decide_eq_false h0]
        cases bt x k <;> simp [b_one, b_0, h0]
    rw [this]; cases bt x k <;> simp
  cases hb : bt x k with
  | true => rw [hb] at e; simp only [eq_self] at e; exact of_eq_true e
  | false =>
    rw [hb] at e
    rcases f with f | f
    · exact f
    · rw [f] at e; simp at e
theorem b_eq0 (x : Int32) : (x = 0) = ∀ k, k < 32 → bt x k = false := propext ⟨fun h k _ => by rw [h, b_0], fun h => b_ext fun i hi => by rw [h i hi, b_0]⟩
theorem nI_lit (n : Nat) : (OfNat.ofNat n : Int32) = nI n := rfl
/-! the block, as a mathematical thing: how many instructions, and each one's kind and three numbers -/
abbrev PC : Type := Nat × (Nat → Nat × Nat × Nat × Nat)
def pK (P : PC) (i : Nat) : Nat := (P.2 i).1
def pa (P : PC) (i : Nat) : Nat := (P.2 i).2.1
def pb (P : PC) (i : Nat) : Nat := (P.2 i).2.2.1
def pc (P : PC) (i : Nat) : Nat := (P.2 i).2.2.2
def okI (P : PC) (i : Nat) : Prop := pK P i ≤ 6 ∧ (pK P i = 0 → pa P i < 2 ∧ pb P i < 8) ∧ (pK P i = 1 → pa P i < 10) ∧ (2 ≤ pK P i → pK P i ≤ 5 → (pa P i < i ∧ pK P (pa P i) ≠ 6) ∧ pb P i < i ∧ pK P (pb P i) ≠ 6) ∧ (pK P i = 6 → pa P i < 2 ∧ pb P i < 8 ∧ pc P i < i ∧ pK P (pc P i) ≠ 6)
def okP (P : PC) : Prop := P.1 ≤ 16 ∧ ∀ i, i < P.1 → okI P i
/-- the block in the class's Code at the cell c -/
def mC (P : PC) (c : Nat) (s : MS) : Prop := s.1 c 6 = nI P.1 ∧ ∀ i, i < P.1 → s.1 (c + 1) i = nI (pK P i) ∧ s.1 (c + 2) i = nI (if pK P i = 0 ∨ pK P i = 6 then pa P i else 0) ∧ s.1 (c + 3) i = nI (if pK P i = 0 ∨ pK P i = 6 then pb P i else 0) ∧
  s.1 (c + 4) i = nI (if pK P i = 1 then pa P i else 0) ∧ s.1 (c + 5) i = nI (if pK P i = 6 then pc P i else if 2 ≤ pK P i then pa P i else 0) ∧ s.1 (c + 6) i = nI (if 2 ≤ pK P i ∧ pK P i ≤ 5 then pb P i else 0)
/-- the block in the reference -/
def mR (P : PC) (s : MS) : Prop := s.1 65 2 = nI P.1 ∧ ∀ i, i < P.1 → s.1 67 i = nI (pK P i) ∧ s.1 68 i = nI (pa P i) ∧ (pK P i ≠ 1 → s.1 69 i = nI (pb P i)) ∧ (pK P i = 6 → s.1 70 i = nI (pc P i))
def pMem (P : PC) (i : Nat) : Bool := decide (pK P i = 0) || decide (pK P i = 6)
def pBin (P : PC) (i : Nat) : Bool := decide (2 ≤ pK P i) && decide (pK P i ≤ 5)
def pAddr (P : PC) (base i : Nat) : Nat := if pa P i = 0 then pb P i else base + pb P i
def pUses (P : PC) (j i : Nat) : Bool := pBin P j && (decide (pa P j = i) || decide (pb P j = i)) || decide (pK P j = 6) && decide (pc P j = i)
def pMeet (P : PC) (base known i j : Nat) : Bool := if pa P i = pa P j then decide (pb P i = pb P j) else decide (known = 0) || decide (pAddr P base i = pAddr P base j)
/-- j follows i -/
def pFol (P : PC) (base known : Nat) (out : Nat → Bool) (i j : Nat) : Bool := !out i && !out j && (pUses P j i || pMem P i && pMem P j && (decide (pK P i = 6) || decide (pK P j = 6)) && pMeet P base known i j || decide (pK P i = 5) && (decide (pK P j = 5) || decide (pK P j = 6)) || decide (pK P j = 5) && (decide (pK P i = 5) || decide (pK P i = 6)))
def depT (f : Nat → Nat → Bool) : Nat → Nat → Nat → Bool
  | 0 => fun _ _ => false
  | n + 1 => fun i j => if j = n then (List.range n).any (fun m => f m n && (decide (i = m) || depT f n i m)) else depT f n i j
/-- j depends on i -/
def pDep (f : Nat → Nat → Bool) (i j : Nat) : Bool := depT f (j + 1) i j
theorem depT_eq (f : Nat → Nat → Bool) : ∀ (n i j : Nat), j < n → depT f n i j = pDep f i j
  | 0, _, _, h => absurd h (Nat.not_lt_zero _)
  | n + 1, i, j, h => by
    by_cases e : j = n
    · subst e; rfl
    · show (if j = n then _ else depT f n i j) = _
      rw [if_neg e]
      exact depT_eq f n i j (by omega)
theorem pDep_eq (f : Nat → Nat → Bool) (i j : Nat) : pDep f i j = (List.range j).any (fun m => f m j && (decide (i = m) || pDep f i m)) := by
  show (if j = j then _ else _) = _
  rw [if_pos rfl]
  apply Bool.eq_iff_iff.mpr
  rw [List.any_eq_true, List.any_eq_true]
  constructor
  · rintro ⟨m, hm, h⟩
    exact ⟨m, hm, by rw [← depT_eq f j i m (List.mem_range.mp hm)]; exact h⟩
  · rintro ⟨m, hm, h⟩
    exact ⟨m, hm, by rw [depT_eq f j i m (List.mem_range.mp hm)]; exact h⟩
theorem pDep_lt (f : Nat → Nat → Bool) {i : Nat} : ∀ j, pDep f i j = true → i < j := by
  intro j
  induction j using Nat.strongRecOn with
  | ind j ih =>
    intro h
    rw [pDep_eq, List.any_eq_true] at h
    obtain ⟨m, hm, h⟩ := h
    rw [List.mem_range] at hm
    simp only [Bool.and_eq_true, Bool.or_eq_true, decide_eq_true_eq] at h
    rcases h.2 with e | e
    · omega
    · have := ih m hm e; omega
/-! numbers: nI k against literals -/
theorem LIT : ((2 : Int32) = nI 2) ∧ ((3 : Int32) = nI 3) ∧ ((4 : Int32) = nI 4) ∧ ((5 : Int32) = nI 5) ∧ ((6 : Int32) = nI 6) ∧ ((7 : Int32) = nI 7) ∧ ((8 : Int32) = nI 8) ∧ ((9 : Int32) = nI 9) ∧ ((10 : Int32) = nI 10) ∧ ((11 : Int32) = nI 11) ∧ ((12 : Int32) = nI 12) ∧ ((13 : Int32) = nI 13) ∧ ((14 : Int32) = nI 14) ∧ ((15 : Int32) = nI 15) ∧ ((16 : Int32) = nI 16) ∧ ((17 : Int32) = nI 17) ∧ ((18 : Int32) = nI 18) ∧ ((19 : Int32) = nI 19) ∧ ((20 : Int32) = nI 20) ∧ ((21 : Int32) = nI 21) ∧ ((22 : Int32) = nI 22) ∧ ((23 : Int32) = nI 23) ∧ ((24 : Int32) = nI 24) ∧ ((25 : Int32) = nI 25) ∧ ((26 : Int32) = nI 26) ∧ ((27 : Int32) = nI 27) ∧ ((28 : Int32) = nI 28) ∧ ((29 : Int32) = nI 29) ∧ ((30 : Int32) = nI 30) ∧ ((32 : Int32) = nI 32) ∧ ((33 : Int32) = nI 33) ∧ ((34 : Int32) = nI 34) ∧ ((35 : Int32) = nI 35) ∧ ((36 : Int32) = nI 36) ∧ ((37 : Int32) = nI 37) ∧ ((38 : Int32) = nI 38) ∧ ((39 : Int32) = nI 39) ∧ ((40 : Int32) = nI 40) ∧ ((41 : Int32) = nI 41) ∧ ((42 : Int32) = nI 42) ∧ ((43 : Int32) = nI 43) ∧ ((44 : Int32) = nI 44) ∧ ((45 : Int32) = nI 45) ∧ ((46 : Int32) = nI 46) ∧ ((47 : Int32) = nI 47) ∧ ((48 : Int32) = nI 48) ∧ ((49 : Int32) = nI 49) ∧ ((50 : Int32) = nI 50) ∧ ((51 : Int32) = nI 51) ∧ ((52 : Int32) = nI 52) ∧ ((53 : Int32) = nI 53) ∧ ((54 : Int32) = nI 54) ∧ ((55 : Int32) = nI 55) ∧ ((56 : Int32) = nI 56) ∧ ((57 : Int32) = nI 57) ∧ ((58 : Int32) = nI 58) ∧ ((59 : Int32) = nI 59) ∧ ((60 : Int32) = nI 60) ∧ ((61 : Int32) = nI 61) ∧ ((62 : Int32) = nI 62) ∧ ((63 : Int32) = nI 63) ∧ ((64 : Int32) = nI 64) ∧ ((65 : Int32) = nI 65) ∧ ((66 : Int32) = nI 66) ∧ ((67 : Int32) = nI 67) ∧ ((68 : Int32) = nI 68) ∧ ((69 : Int32) = nI 69) ∧ ((70 : Int32) = nI 70) ∧ ((71 : Int32) = nI 71) ∧ ((72 : Int32) = nI 72) ∧ ((73 : Int32) = nI 73) ∧ ((74 : Int32) = nI 74) ∧ ((75 : Int32) = nI 75) ∧ ((76 : Int32) = nI 76) ∧ ((77 : Int32) = nI 77) ∧ ((78 : Int32) = nI 78) ∧ ((79 : Int32) = nI 79) ∧ ((80 : Int32) = nI 80) ∧ ((81 : Int32) = nI 81) ∧ ((82 : Int32) = nI 82) ∧ ((83 : Int32) = nI 83) ∧ ((84 : Int32) = nI 84) ∧ ((85 : Int32) = nI 85) ∧ ((86 : Int32) = nI 86) ∧ ((87 : Int32) = nI 87) ∧ ((88 : Int32) = nI 88) ∧ ((89 : Int32) = nI 89) ∧ ((90 : Int32) = nI 90) ∧ ((91 : Int32) = nI 91) ∧ ((92 : Int32) = nI 92) ∧ ((93 : Int32) = nI 93) ∧ ((94 : Int32) = nI 94) ∧ ((95 : Int32) = nI 95) ∧ ((96 : Int32) = nI 96) ∧ ((97 : Int32) = nI 97) ∧ ((98 : Int32) = nI 98) ∧ ((99 : Int32) = nI 99) ∧ ((100 : Int32) = nI 100) ∧ ((101 : Int32) = nI 101) ∧ ((102 : Int32) = nI 102) ∧ ((103 : Int32) = nI 103) ∧ ((104 : Int32) = nI 104) ∧ ((105 : Int32) = nI 105) ∧ ((106 : Int32) = nI 106) ∧ ((107 : Int32) = nI 107) ∧ ((108 : Int32) = nI 108) ∧ ((109 : Int32) = nI 109) ∧ ((110 : Int32) = nI 110) ∧ ((111 : Int32) = nI 111) ∧ ((112 : Int32) = nI 112) ∧ ((113 : Int32) = nI 113) ∧ ((114 : Int32) = nI 114) ∧ ((115 : Int32) = nI 115) ∧ ((116 : Int32) = nI 116) ∧ ((117 : Int32) = nI 117) ∧ ((118 : Int32) = nI 118) ∧ ((119 : Int32) = nI 119) ∧ ((120 : Int32) = nI 120) ∧ ((121 : Int32) = nI 121) ∧ ((122 : Int32) = nI 122) ∧ ((123 : Int32) = nI 123) ∧ ((124 : Int32) = nI 124) ∧ ((125 : Int32) = nI 125) ∧ ((126 : Int32) = nI 126) ∧ ((127 : Int32) = nI 127) ∧ ((255 : Int32) = nI 255) ∧ ((720 : Int32) = nI 720) ∧ ((1000 : Int32) = nI 1000) ∧ ((10000 : Int32) = nI 10000) := ⟨rfl, rfl, rfl, rfl, rfl, rfl, rfl, rfl, rfl, rfl, rfl, rfl, rfl, rfl, rfl, rfl, rfl, rfl, rfl, rfl, rfl, rfl, rfl, rfl, rfl, rfl, rfl, rfl, rfl, rfl, rfl, rfl, rfl, rfl, rfl, rfl, rfl, rfl, rfl, rfl, rfl, rfl, rfl, rfl, rfl, rfl, rfl, rfl, rfl, rfl, rfl, rfl, rfl, rfl, rfl, rfl, rfl, rfl, rfl, rfl, rfl, rfl, rfl, rfl, rfl, rfl, rfl, rfl, rfl, rfl, rfl, rfl, rfl, rfl, rfl, rfl, rfl, rfl, rfl, rfl, rfl, rfl, rfl, rfl, rfl, rfl, rfl, rfl, rfl, rfl, rfl, rfl, rfl, rfl, rfl, rfl, rfl, rfl, rfl, rfl, rfl, rfl, rfl, rfl, rfl, rfl, rfl, rfl, rfl, rfl, rfl, rfl, rfl, rfl, rfl, rfl, rfl, rfl, rfl, rfl, rfl, rfl, rfl, rfl, rfl, rfl, rfl, rfl, rfl⟩
theorem L_0le {k : Nat} (hk : k < 2 ^ 31) : (0 ≤ nI k) = True := by simp [nI_pos' hk]
theorem L_0lt {k : Nat} (hk : k < 2 ^ 31) : (0 < nI k) = (0 < k) := propext (nI_ltI (a := 0) (by omega) hk)
theorem L_0eq {k : Nat} (hk : k < 2 ^ 31) : (0 = nI k) = (0 = k) := propext (nI_eq (a := 0) (by omega) hk)
theorem L_eq0 {k : Nat} (hk : k < 2 ^ 31) : (nI k = 0) = (k = 0) := propext (nI_eq (b := 0) hk (by omega))
theorem L_le0 {k : Nat} (hk : k < 2 ^ 31) : (nI k ≤ 0) = (k = 0) := propext ((nI_leI (b := 0) hk (by omega)).trans (by omega))
theorem L_lt0 {k : Nat} (hk : k < 2 ^ 31) : (nI k < 0) = False := propext ((nI_ltI (b := 0) hk (by omega)).trans ⟨fun h => absurd h (Nat.not_lt_zero k), False.elim⟩)
theorem L_1eq {k : Nat} (hk : k < 2 ^ 31) : (1 = nI k) = (1 = k) := propext (nI_eq (a := 1) (by omega) hk)
theorem L_eq1 {k : Nat} (hk : k < 2 ^ 31) : (nI k = 1) = (k = 1) := propext (nI_eq (b := 1) hk (by omega))
theorem L_1le {k : Nat} (hk : k < 2 ^ 31) : (1 ≤ nI k) = (1 ≤ k) := propext (nI_leI (a := 1) (by omega) hk)
theorem L_1lt {k : Nat} (hk : k < 2 ^ 31) : (1 < nI k) = (1 < k) := propext (nI_ltI (a := 1) (by omega) hk)
theorem L_lt1 {k : Nat} (hk : k < 2 ^ 31) : (nI k < 1) = (k = 0) := propext ((nI_ltI (b := 1) hk (by omega)).trans (by omega))
theorem L_le1 {k : Nat} (hk : k < 2 ^ 31) : (nI k ≤ 1) = (k ≤ 1) := propext (nI_leI (b := 1) hk (by omega))
theorem L_p1 (k : Nat) : nI k + 1 = nI (k + 1) := nI_add k 1
/-- how many below n -/
def cnt (p : Nat → Bool) : Nat → Nat
  | 0 => 0
  | n + 1 => cnt p n + if p n then 1 else 0
theorem cnt_le (p : Nat → Bool) : ∀ n, cnt p n ≤ n
  | 0 => Nat.le_refl 0
  | n + 1 => by
    have := cnt_le p n
    simp only [cnt]
    split <;> omega
theorem cnt_cong {p q : Nat → Bool} : ∀ {n : Nat}, (∀ k, k < n → p k = q k) → cnt p n = cnt q n
  | 0, _ => rfl
  | n + 1, h => by
    simp only [cnt]
    rw [cnt_cong fun k hk => h k (Nat.lt_succ_of_lt hk), h n (Nat.lt_succ_self n)]
theorem ixf {n i : Nat} (hn : n ≤ 16) (hi : i < n) : i < 16 ∧ (nI i).toNatClampNeg = i ∧ 0 ≤ nI i := ⟨by omega, nI_clamp (by omega), nI_pos' (by omega)⟩
theorem ccf {c : Nat} (hc : c = 6 ∨ c = 13) : c ≠ 0 ∧ c ≠ 1 := by omega
/-! Int32 as natural numbers: shifts, masks -/
theorem bt_nI (n i : Nat) : bt (nI n) i = (decide (i < 32) && n.testBit i) := by
  unfold bt nI
  rw [show (Int32.ofNat n).toBitVec = BitVec.ofNat 32 n from rfl, BitVec.getLsbD_ofNat]
theorem nI_mul (a b : Nat) : nI a * nI b = nI (a * b) := by
  apply Int32.toBitVec_inj.1
  show BitVec.ofNat 32 a * BitVec.ofNat 32 b = BitVec.ofNat 32 (a * b)
  rw [BitVec.ofNat_mul]
theorem nI_sub {a b : Nat} (h : b ≤ a) : nI a - nI b = nI (a - b) := by
  obtain ⟨c, rfl⟩ : ∃ c, a = b + c := ⟨a - b, by omega⟩
  rw [Nat.add_sub_cancel_left, ← nI_add, Int32.add_comm, Int32.add_sub_cancel]
theorem nI_or (a b : Nat) : nI a ||| nI b = nI (a ||| b) := by
  apply b_ext
  intro i hi
  rw [b_or, bt_nI, bt_nI, bt_nI, Nat.testBit_or]
  simp [hi]
theorem nI_and (a b : Nat) : nI a &&& nI b = nI (a &&& b) := by
  apply b_ext
  intro i hi
  rw [b_and, bt_nI, bt_nI, bt_nI, Nat.testBit_and]
  simp [hi]
theorem nI_shr {e m : Nat} (he : e < 2 ^ 31) (hm : m < 32) : nI e >>> (nI m &&& 31) = nI (e / 2 ^ m) := by
  apply b_ext
  intro i hi
  rw [b_sshr m hm _ hi, bt_nI, bt_nI, bt_nI, Nat.testBit_div_two_pow]
  have h31 : e.testBit 31 = false := Nat.testBit_lt_two_pow he
  split
  · next h => simp [h, hi, Nat.add_comm]
  · next h =>
    have : e.testBit (i + m) = false := Nat.testBit_lt_two_pow (Nat.lt_of_lt_of_le he (Nat.pow_le_pow_right (by omega) (by omega)))
    simp [h31, this]
theorem nI_shl (e : Nat) {m : Nat} (hm : m < 32) : nI e <<< (nI m &&& 31) = nI (e * 2 ^ m) := by
  apply b_ext
  intro i hi
  rw [b_shl m hm _ hi, bt_nI, bt_nI, Nat.testBit_mul_two_pow]
  have : i - m < 32 := by omega
  simp [hi, this]
theorem nI_15 (n : Nat) : nI n &&& nI 15 = nI (n % 16) := by
  rw [nI_and, show (15 : Nat) = 2 ^ 4 - 1 from rfl, Nat.and_two_pow_sub_one_eq_mod]
/-! counting bits -/
def popF : Nat → Nat → Nat
  | 0, _ => 0
  | f + 1, n => n % 2 + popF f (n / 2)
theorem popF_cnt : ∀ (f n : Nat), popF f n = cnt (fun i => n.testBit i) f
  | 0, _ => rfl
  | f + 1, n => by
    have sh : ∀ (p : Nat → Bool) (m : Nat), cnt p (m + 1) = (if p 0 then 1 else 0) + cnt (fun i => p (i + 1)) m := by
      intro p m
      induction m with
      | zero => simp [cnt]
      | succ m ih => rw [cnt, ih, cnt]; omega
    rw [popF, popF_cnt f (n / 2), sh]
    congr 1
    · rw [Nat.testBit_zero]
      rcases Nat.mod_two_eq_zero_or_one n with h | h <;> simp [h]
    · exact cnt_cong fun k _ => by rw [Nat.testBit_div_two]
theorem nI_ushr {e m : Nat} (he : e < 2 ^ 31) (hm : m < 32) : ((nI e).toUInt32 >>> ((nI m).toUInt32 &&& Int32.toUInt32 31)).toInt32 = nI (e / 2 ^ m) := by
  apply b_ext
  intro i hi
  rw [b_ushr m hm, bt_nI, bt_nI, Nat.testBit_div_two_pow, Nat.add_comm m i]
  by_cases h : i + m < 32
  · simp [h, hi]
  · have : e.testBit (i + m) = false := Nat.testBit_lt_two_pow (Nat.lt_of_lt_of_le he (Nat.pow_le_pow_right (by omega) (by omega)))
    simp [h, this]
/-! bundles: lists of instructions; as one number four bits a lane -/
def encN : List Nat → Nat
  | [] => 0
  | a :: t => a + 16 * encN t
def wfB (w : Nat) (b : List Nat) : Prop := b.length = w ∧ ∀ x, x ∈ b → x < 16
theorem encN_lt : ∀ b : List Nat, (∀ x, x ∈ b → x < 16) → encN b < 16 ^ b.length
  | [], _ => by simp [encN]
  | a :: t, h => by
    have h1 := h a List.mem_cons_self
    have h2 := encN_lt t fun x hx => h x (List.mem_cons_of_mem _ hx)
    simp only [encN, List.length_cons, Nat.pow_succ]
    omega
theorem encN_get : ∀ (b : List Nat) (k : Nat), (∀ x, x ∈ b → x < 16) → encN b / 16 ^ k % 16 = b.getD k 0
  | [], k, _ => by simp [encN]
  | a :: t, 0, h => by
    have h1 := h a List.mem_cons_self
    simp only [encN, Nat.pow_zero, Nat.div_one, List.getD_cons_zero]
    omega
  | a :: t, k + 1, h => by
    have h1 := h a List.mem_cons_self
    rw [List.getD_cons_succ, ← encN_get t k fun x hx => h x (List.mem_cons_of_mem _ hx), Nat.pow_succ, Nat.mul_comm, ← Nat.div_div_eq_div_mul]
    congr 2
    simp only [encN]
    omega
theorem encN_app : ∀ (b : List Nat) (x : Nat), encN (b ++ [x]) = encN b + 16 ^ b.length * x
  | [], x => by simp [encN]
  | a :: t, x => by
    simp only [List.cons_append, encN, encN_app t x, List.length_cons, Nat.pow_succ]
    rw [Nat.mul_add, ← Nat.mul_assoc, Nat.mul_comm 16 (16 ^ t.length)]
    omega
theorem encN_inj : ∀ (b c : List Nat), b.length = c.length → (∀ x, x ∈ b → x < 16) → (∀ x, x ∈ c → x < 16) → encN b = encN c → b = c
  | [], [], _, _, _, _ => rfl
  | [], _ :: _, h, _, _, _ => by simp at h
  | _ :: _, [], h, _, _, _ => by simp at h
  | a :: t, b :: u, h, h1, h2, e => by
    have a1 := h1 a List.mem_cons_self
    have b1 := h2 b List.mem_cons_self
    simp only [encN] at e
    have e1 : a = b := by omega
    have e2 : encN t = encN u := by omega
    rw [e1, encN_inj t u (by simpa using h) (fun x hx => h1 x (List.mem_cons_of_mem _ hx)) (fun x hx => h2 x (List.mem_cons_of_mem _ hx)) e2]
theorem pow16 (k : Nat) : 2 ^ (4 * k) = 16 ^ k := by rw [Nat.pow_mul]
theorem enc_lt {w : Nat} {b : List Nat} (hw : w ≤ 4) (h : wfB w b) : encN b < 65536 := by
  have := encN_lt b h.2
  rw [h.1] at this
  exact Nat.lt_of_lt_of_le this (Nat.pow_le_pow_right (by omega) hw)
/-- the instruction in a lane -/
def ln (b : List Nat) (k : Nat) : Nat := b.getD k 0
theorem ln_mem {w : Nat} {b : List Nat} (h : wfB w b) {k : Nat} (hk : k < w) : ln b k ∈ b := by
  unfold ln
  rw [List.getD_eq_getElem?_getD, List.getElem?_eq_getElem (by rw [h.1]; exact hk)]
  exact List.getElem_mem _
theorem ln_lt {w : Nat} {b : List Nat} (h : wfB w b) {k : Nat} (hk : k < w) : ln b k < 16 := h.2 _ (ln_mem h hk)
theorem ln_take {w : Nat} {b : List Nat} (h : wfB w b) {k : Nat} (hk : k < w) : b.take (k + 1) = b.take k ++ [ln b k] := by
  unfold ln
  rw [List.take_succ, List.getD_eq_getElem?_getD, List.getElem?_eq_getElem (by rw [h.1]; exact hk)]
  rfl
theorem mem_ln {w : Nat} {b : List Nat} (h : wfB w b) {x : Nat} : x ∈ b ↔ ∃ k, k < w ∧ ln b k = x := by
  constructor
  · intro hx
    obtain ⟨k, hk, e⟩ := List.getElem_of_mem hx
    refine ⟨k, by rw [← h.1]; exact hk, ?_⟩
    unfold ln
    rw [List.getD_eq_getElem?_getD, List.getElem?_eq_getElem hk]
    exact e
  · rintro ⟨k, hk, rfl⟩
    exact ln_mem h hk
theorem ext_ln {w : Nat} {b c : List Nat} (hb : wfB w b) (hc : wfB w c) (h : ∀ k, k < w → ln b k = ln c k) : b = c := by
  apply List.ext_getElem (hb.1.trans hc.1.symm)
  intro k h1 h2
  have := h k (by rw [← hb.1]; exact h1)
  unfold ln at this
  rw [List.getD_eq_getElem?_getD, List.getD_eq_getElem?_getD, List.getElem?_eq_getElem h1, List.getElem?_eq_getElem h2] at this
  exact this
theorem enc_lane {w : Nat} {b : List Nat} (hw : w ≤ 4) (h : wfB w b) {k : Nat} (hk : k < 4) : nI (encN b) >>> (nI (4 * k) &&& 31) &&& nI 15 = nI (ln b k) := by
  rw [nI_shr (by have := enc_lt hw h; omega) (by omega), nI_15, pow16, encN_get b k h.2]; rfl
def setN (b : List Nat) : Nat := b.foldl (fun m i => m ||| 2 ^ i) 0
def mS (b : List Nat) : Int32 := nI (setN b)
theorem setN_app (b : List Nat) (x : Nat) : setN (b ++ [x]) = setN b ||| 2 ^ x := by simp [setN, List.foldl_append]
theorem setN_bit (b : List Nat) (j : Nat) : (setN b).testBit j = b.contains j := by
  have key : ∀ (b : List Nat) (m : Nat), (b.foldl (fun m i => m ||| 2 ^ i) m).testBit j = (m.testBit j || b.contains j) := by
    intro b
    induction b with
    | nil => intro m; simp
    | cons a t ih =>
      intro m
      rw [List.foldl_cons, ih, Nat.testBit_or, Nat.testBit_two_pow, List.contains_cons]
      rw [show (j == a) = decide (a = j) by rw [Bool.eq_iff_iff]; simp only [beq_iff_eq, decide_eq_true_eq]; exact eq_comm]
      cases m.testBit j <;> cases t.contains j <;> simp
  have := key b 0
  rw [Nat.zero_testBit, Bool.false_or] at this
  exact this
theorem mS_bit (b : List Nat) {j : Nat} (hj : j < 32) : bt (mS b) j = b.contains j := by
  unfold mS
  rw [bt_nI, setN_bit]
  simp [hj]
theorem setN_lt {b : List Nat} (h : ∀ x, x ∈ b → x < 16) : setN b < 65536 := by
  apply Nat.lt_pow_two_of_testBit (n := 16)
  intro i hi
  rw [setN_bit]
  cases hc : b.contains i with
  | false => rfl
  | true =>
    have := h i (by simpa using hc)
    omega
theorem bit_nI {i : Nat} (hi : i < 32) : (1 : Int32) <<< (nI i &&& 31) = nI (2 ^ i) := by
  have := nI_shl 1 hi
  rw [Nat.one_mul] at this
  exact this
