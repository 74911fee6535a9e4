/-! THE MEANING OF JAVA, as transformers of what shall hold behind; expressions PX, statements PS; and how bytecode carries them (Ev: pushes a value, Eo: pushes what a call gives back, Ea: pushes arguments, Cd: branches, Ex: carries out) -/
abbrev PX (α : Type) : Type := LV → HV → (α → HV → Prop) → Prop
abbrev PS : Type := (LV → HV → Prop) → (LV → HV → Prop) → (LV → HV → Prop) → (Option Value → HV → Prop) → LV → HV → Prop
section PD
variable {α β γ : Type}
def eV (v : α) : PX α := fun _ h K => K v h
def eI (i : Nat) : PX Int32 := fun ls h K => ∃ x, ls[i]? = some (.int x) ∧ K x h
def eL (i : Nat) : PX Int64 := fun ls h K => ∃ x, ls[i]? = some (.long x) ∧ K x h
def eR (i : Nat) : PX Nat := fun ls h K => ∃ x, ls[i]? = some (.ref x) ∧ K x h
def e1 (f : α → β) (a : PX α) : PX β := fun ls h K => a ls h fun x h1 => K (f x) h1
def e2 (f : α → β → γ) (a : PX α) (b : PX β) : PX γ := fun ls h K => a ls h fun x h1 => b ls h1 fun y h2 => K (f x y) h2
def eDI (f : Int32 → Int32 → Int32) (a b : PX Int32) : PX Int32 := fun ls h K => a ls h fun x h1 => b ls h1 fun y h2 => ¬ y = 0 ∧ K (f x y) h2
def eDL (f : Int64 → Int64 → Int64) (a b : PX Int64) : PX Int64 := fun ls h K => a ls h fun x h1 => b ls h1 fun y h2 => ¬ y = 0 ∧ K (f x y) h2
/-- a field of an int, a long, a reference -/
def eFI (ci k : Nat) (a : PX Nat) : PX Int32 := fun ls h K => a ls h fun r h1 => r ≠ 1 ∧ hk h1 r = some ci ∧ ∃ x, hg h1 r k = some (.int x) ∧ K x h1
def eFL (ci k : Nat) (a : PX Nat) : PX Int64 := fun ls h K => a ls h fun r h1 => r ≠ 1 ∧ hk h1 r = some ci ∧ ∃ x, hg h1 r k = some (.long x) ∧ K x h1
def eFR (ci k : Nat) (a : PX Nat) : PX Nat := fun ls h K => a ls h fun r h1 => r ≠ 1 ∧ hk h1 r = some ci ∧ ∃ x, hg h1 r k = some (.ref x) ∧ K x h1
def eAI (a : PX Nat) (i : PX Int32) : PX Int32 := fun ls h K => a ls h fun r h1 => i ls h1 fun j h2 => r ≠ 1 ∧ hk h2 r = some 20 ∧ 0 ≤ j ∧ ∃ x, hg h2 r j.toNatClampNeg = some (.int x) ∧ K x h2
def eAZ (a : PX Nat) (i : PX Int32) : PX Int32 := fun ls h K => a ls h fun r h1 => i ls h1 fun j h2 => 2 ≤ r ∧ hk h2 r = some 21 ∧ 0 ≤ j ∧ ∃ x, hg h2 r j.toNatClampNeg = some (.int x) ∧ K x h2
def eAR (a : PX Nat) (i : PX Int32) : PX Nat := fun ls h K => a ls h fun r h1 => i ls h1 fun j h2 => 2 ≤ r ∧ hk h2 r = some 22 ∧ 0 ≤ j ∧ ∃ x, hg h2 r j.toNatClampNeg = some (.ref x) ∧ K x h2
def eLen (a : PX Nat) : PX Int32 := fun ls h K => a ls h fun r h1 => r ≠ 1 ∧ hk h1 r = some 20 ∧ ∃ n, hn h1 r = some n ∧ K (Int32.ofNat n) h1
def aN : PX LV := fun _ h K => K [] h
def aC (ia : α → Value) (e : PX α) (es : PX LV) : PX LV := fun ls h K => e ls h fun x h1 => es ls h1 fun vs h2 => K (ia x :: vs) h2
/-- calls: of an object of the class ci with n more arguments; of a static method -/
def xV (ci n : Nat) (F : PM) (r : PX Nat) (as : PX LV) : PX (Option Value) := fun ls h K => r ls h fun q h1 => as ls h1 fun t h2 => q ≠ 1 ∧ hk h2 q = some ci ∧ t.length = n ∧ F (.ref q :: t) h2 K
def xS (n : Nat) (F : PM) (as : PX LV) : PX (Option Value) := fun ls h K => as ls h fun t h2 => t.length = n ∧ F t h2 K
def eX (ia : α → Value) (c : PX (Option Value)) : PX α := fun ls h K => c ls h fun o h1 => ∃ x, o = some (ia x) ∧ K x h1
def eIf (c : PX Bool) (a b : PX α) : PX α := fun ls h K => c ls h fun t h1 => if t then a ls h1 K else b ls h1 K
def eC (c : PX Bool) : PX Int32 := fun ls h K => c ls h fun t h1 => K (if t then 1 else 0) h1
def cA (a b : PX Bool) : PX Bool := fun ls h K => a ls h fun t h1 => if t then b ls h1 K else K false h1
def cO (a b : PX Bool) : PX Bool := fun ls h K => a ls h fun t h1 => if t then K true h1 else b ls h1 K
def cN (a : PX Bool) : PX Bool := fun ls h K => a ls h fun t h1 => K (!t) h1
-- statements
def sSk : PS := fun kn _ _ _ ls h => kn ls h
def sSq (a b : PS) : PS := fun kn kb kc kr ls h => a (fun ls1 h1 => b kn kb kc kr ls1 h1) kb kc kr ls h
def sI (i : Nat) (e : PX Int32) : PS := fun kn _ _ _ ls h => e ls h fun x h1 => i < ls.length ∧ kn (lset ls i (.int x)) h1
def sL (i : Nat) (e : PX Int64) : PS := fun kn _ _ _ ls h => e ls h fun x h1 => i + 1 < ls.length ∧ kn (lset (lset ls (i + 1) .null) i (.long x)) h1
def sR (i : Nat) (e : PX Nat) : PS := fun kn _ _ _ ls h => e ls h fun x h1 => i < ls.length ∧ kn (lset ls i (.ref x)) h1
def sInc (i : Nat) (n : Int32) : PS := fun kn _ _ _ ls h => ∃ x, ls[i]? = some (.int x) ∧ kn (lset ls i (.int (x + n))) h
def sF (ia : α → Value) (ci k : Nat) (a : PX Nat) (e : PX α) : PS := fun kn _ _ _ ls h => a ls h fun r h1 => e ls h1 fun x h2 => r ≠ 1 ∧ hk h2 r = some ci ∧ (∃ w, hg h2 r k = some w) ∧ kn ls (hs h2 r k (ia x))
/-- o.f op= e (of an int) -/
def sFO (ci k : Nat) (f : Int32 → Int32 → Int32) (a : PX Nat) (e : PX Int32) : PS := fun kn _ _ _ ls h => a ls h fun r h1 => r ≠ 1 ∧ hk h1 r = some ci ∧ ∃ x, hg h1 r k = some (.int x) ∧ e ls h1 fun y h2 => hk h2 r = some ci ∧ (∃ w, hg h2 r k = some w) ∧ kn ls (hs h2 r k (.int (f x y)))
def sAI (a : PX Nat) (i e : PX Int32) : PS := fun kn _ _ _ ls h => a ls h fun r h1 => i ls h1 fun j h2 => e ls h2 fun x h3 => 2 ≤ r ∧ hk h3 r = some 20 ∧ 0 ≤ j ∧ (∃ w, hg h3 r j.toNatClampNeg = some w) ∧ kn ls (hs h3 r j.toNatClampNeg (.int x))
def sAZ (a : PX Nat) (i e : PX Int32) : PS := fun kn _ _ _ ls h => a ls h fun r h1 => i ls h1 fun j h2 => e ls h2 fun x h3 => 2 ≤ r ∧ hk h3 r = some 21 ∧ 0 ≤ j ∧ (x = 0 ∨ x = 1) ∧ (∃ w, hg h3 r j.toNatClampNeg = some w) ∧ kn ls (hs h3 r j.toNatClampNeg (.int x))
/-- a[i] op= e -/
def sAO (f : Int32 → Int32 → Int32) (a : PX Nat) (i e : PX Int32) : PS := fun kn _ _ _ ls h => a ls h fun r h1 => i ls h1 fun j h2 => 2 ≤ r ∧ hk h2 r = some 20 ∧ 0 ≤ j ∧ ∃ x, hg h2 r j.toNatClampNeg = some (.int x) ∧ e ls h2 fun y h3 => hk h3 r = some 20 ∧ (∃ w, hg h3 r j.toNatClampNeg = some w) ∧ kn ls (hs h3 r j.toNatClampNeg (.int (f x y)))
def sX (c : PX (Option Value)) : PS := fun kn _ _ _ ls h => c ls h fun o h1 => o = none ∧ kn ls h1
def sXp (c : PX (Option Value)) : PS := fun kn _ _ _ ls h => c ls h fun o h1 => (∃ x, o = some (.int x)) ∧ kn ls h1
def sIf (c : PX Bool) (a b : PS) : PS := fun kn kb kc kr ls h => c ls h fun t h1 => if t then a kn kb kc kr ls h1 else b kn kb kc kr ls h1
/-- while (c) { b } with the step st; n locals live at its head -/
def sLp (n : Nat) (c : PX Bool) (b st : PS) : PS := fun kn _ _ kr ls h => ∀ X : LV → HV → Prop,
  (∀ ls h, c ls h (fun t h1 => if t then b (fun ls2 h2 => st (fun ls3 h3 => X (lcut n ls3) h3) (fun _ _ => False) (fun _ _ => False) kr ls2 h2) (fun ls2 h2 => kn (lcut n ls2) h2) (fun ls2 h2 => st (fun ls3 h3 => X (lcut n ls3) h3) (fun _ _ => False) (fun _ _ => False) kr ls2 h2) kr ls h1 else kn ls h1) → X ls h) → X ls h
def sCut (n : Nat) (a : PS) : PS := fun kn kb kc kr ls h => a (fun ls1 h1 => kn (lcut n ls1) h1) kb kc kr ls h
def sSqs : List PS → PS
  | [] => sSk
  | a :: t => sSq a (sSqs t)
/-- switch: the bodies, each running on into the next -/
def sSw (n : Nat) (e : PX Int32) (tbl : List (Int32 × Nat)) (d : Nat) (bs : List PS) : PS := fun kn _ kc kr ls h => e ls h fun x h1 => sSqs (bs.drop (ixOf tbl d x)) (fun ls2 h2 => kn (lcut n ls2) h2) (fun ls2 h2 => kn (lcut n ls2) h2) kc kr ls h1
def sRt (ia : α → Value) (e : PX α) : PS := fun _ _ _ kr ls h => e ls h fun x h1 => kr (some (ia x)) h1
def sRz (e : PX Int32) : PS := fun _ _ _ kr ls h => e ls h fun x h1 => (x = 0 ∨ x = 1) ∧ kr (some (.int x)) h1
def sRv : PS := fun _ _ _ kr _ h => kr none h
def sBk : PS := fun _ kb _ _ ls h => kb ls h
def sCt : PS := fun _ _ kc _ ls h => kc ls h
def sCp (a : PX Nat) (i : PX Int32) (b : PX Nat) (j m : PX Int32) : PS := fun kn _ _ _ ls h => a ls h fun r h1 => i ls h1 fun x h2 => b ls h2 fun q h3 => j ls h3 fun y h4 => m ls h4 fun z h5 =>
  ∃ src dst, h5[r]? = some (20, src) ∧ h5[q]? = some (20, dst) ∧ 2 ≤ r ∧ 2 ≤ q ∧ ¬ x < 0 ∧ ¬ y < 0 ∧ ¬ z < 0 ∧ x.toNatClampNeg + z.toNatClampNeg ≤ src.length ∧ y.toNatClampNeg + z.toNatClampNeg ≤ dst.length ∧ kn ls (h5.set q (20, cpyL src dst x.toNatClampNeg y.toNatClampNeg z.toNatClampNeg))
-- what a constructor makes; g: how many cells and slots there may be
def eNew (g : Nat × Nat) (ci : Nat) (fs : List Value) (rm : Room) (n : Nat) (F : PM) (as : PX LV) : PX Nat := fun ls h K => h.length + 1 ≤ g.1 ∧ hsz h + fs.length ≤ g.2 ∧ as ls (h ++ [(ci, fs)]) fun t h1 => t.length = n ∧ h1.length + rm.cells ≤ g.1 ∧ hsz h1 + rm.slots ≤ g.2 ∧ F (.ref h.length :: t) h1 fun o h2 => o = none ∧ K h.length h2
def eNA (g : Nat × Nat) (kd : Nat) (n : PX Int32) : PX Nat := fun ls h K => n ls h fun x h1 => ¬ x < 0 ∧ x.toNatClampNeg ≤ 100000000 ∧ h1.length + 1 ≤ g.1 ∧ hsz h1 + x.toNatClampNeg ≤ g.2 ∧ K h1.length (h1 ++ [(kd, List.replicate x.toNatClampNeg (.int 0))])
def eNM (g : Nat × Nat) (n : PX Int32) : PX Nat := fun ls h K => n ls h fun x h1 => ¬ x < 0 ∧ x.toNatClampNeg ≤ 100000000 ∧ h1.length + 3 ≤ g.1 ∧ hsz h1 + (2 + 2 * x.toNatClampNeg) ≤ g.2 ∧ K h1.length (h1 ++ [(22, [.ref (h1.length + 1), .ref (h1.length + 2)])] ++ [(20, List.replicate x.toNatClampNeg (.int 0))] ++ [(20, List.replicate x.toNatClampNeg (.int 0))])
end PD
/-! how bytecode carries them -/
section PR
variable {α β γ : Type} {cc : ByteArray} {κ : KT} {d w pc pc1 pc2 pc3 pc4 pc5 pT pF pN pB pC : Nat}
def Ev (cc : ByteArray) (κ : KT) (d pc pc' : Nat) (ia : α → Value) (E : PX α) : Prop := ∀ ls st h K, stw st ≤ d → (∀ x h', K x h' → wA cc κ pc' ls (ia x :: st) h') → E ls h K → wA cc κ pc ls st h
def Eo (cc : ByteArray) (κ : KT) (d pc pc' : Nat) (E : PX (Option Value)) : Prop := ∀ ls st h K, stw st ≤ d → (∀ o h', K o h' → wA cc κ pc' ls (o.toList ++ st) h') → E ls h K → wA cc κ pc ls st h
def Ea (cc : ByteArray) (κ : KT) (d pc pc' : Nat) (E : PX LV) : Prop := ∀ ls st h K, stw st ≤ d → (∀ vs h', K vs h' → wA cc κ pc' ls (vs.reverse ++ st) h') → E ls h K → wA cc κ pc ls st h
def Cd (cc : ByteArray) (κ : KT) (d pc pT pF : Nat) (E : PX Bool) : Prop := ∀ ls st h K, stw st ≤ d → (∀ h', K true h' → wA cc κ pT ls st h') → (∀ h', K false h' → wA cc κ pF ls st h') → E ls h K → wA cc κ pc ls st h
def Ex (cc : ByteArray) (κ : KT) (pc pN pB pC : Nat) (S : PS) : Prop := ∀ ls h kn kb kc kr, (∀ ls' h', kn ls' h' → wA cc κ pN ls' [] h') → (∀ ls' h', kb ls' h' → wA cc κ pB ls' [] h') → (∀ ls' h', kc ls' h' → wA cc κ pC ls' [] h') → (∀ o h', kr o h' → k_ret κ o h') → S kn kb kc kr ls h → wA cc κ pc ls [] h
theorem stw_cons (v : Value) (st : LV) : stw (v :: st) = v.category + stw st := by simp [stw]
theorem E_ic {n : Int} {v : Int32} (hd : decode cc pc = .ok (.iconst n, 1)) (hv : Int32.ofInt n = v) : Ev cc κ d pc (pc + 1) .int (eV v) := fun _ _ _ _ _ q k => r_iconst hd hv (q _ _ k)
theorem E_bi {n : Int} {v : Int32} (hd : decode cc pc = .ok (.bipush n, 2)) (hv : (Int8.ofInt n).toInt32 = v) : Ev cc κ d pc (pc + 2) .int (eV v) := fun _ _ _ _ _ q k => r_bipush hd hv (q _ _ k)
theorem E_si {n : Int} {v : Int32} (hd : decode cc pc = .ok (.sipush n, 3)) (hv : (Int16.ofInt n).toInt32 = v) : Ev cc κ d pc (pc + 3) .int (eV v) := fun _ _ _ _ _ q k => r_sipush hd hv (q _ _ k)
theorem E_lc {n : Fin 2} {v : Int64} (hd : decode cc pc = .ok (.lconst n, 1)) (hv : Int64.ofNat (n : Nat) = v) : Ev cc κ d pc (pc + 1) .long (eV v) := fun _ _ _ _ _ q k => r_lconst hd hv (q _ _ k)
theorem E_ldcw {own : String} {index : Nat} {v : Int32} (ho : k_own κ = own) (hw : Cond.constant own index v ∈ BIG) (hd : decode cc pc = .ok (.ldc_w index, 3)) : Ev cc κ d pc (pc + 3) .int (eV v) := fun _ _ _ _ _ q k => r_ldcw ho hw hd (q _ _ k)
theorem E_ldc2 {own : String} {index : Nat} {v : Int64} (ho : k_own κ = own) (hw : Cond.constantLong own index v ∈ BIG) (hd : decode cc pc = .ok (.ldc2_w index, 3)) : Ev cc κ d pc (pc + 3) .long (eV v) := fun _ _ _ _ _ q k => r_ldc2 ho hw hd (q _ _ k)
theorem E_iln {k : Fin 4} {i : Nat} (hd : decode cc pc = .ok (.iload_n k, 1)) (hi : (k : Nat) = i) : Ev cc κ d pc (pc + 1) .int (eI i) := fun _ _ _ _ _ q ⟨_, hl, k⟩ => r_iload_n hd hi hl (q _ _ k)
theorem E_il {i : Nat} (hd : decode cc pc = .ok (.iload i, 2)) : Ev cc κ d pc (pc + 2) .int (eI i) := fun _ _ _ _ _ q ⟨_, hl, k⟩ => r_iload hd hl (q _ _ k)
theorem E_lln {k : Fin 4} {i : Nat} (hd : decode cc pc = .ok (.lload_n k, 1)) (hi : (k : Nat) = i) : Ev cc κ d pc (pc + 1) .long (eL i) := fun _ _ _ _ _ q ⟨_, hl, k⟩ => r_lload_n hd hi hl (q _ _ k)
theorem E_ll {i : Nat} (hd : decode cc pc = .ok (.lload i, 2)) : Ev cc κ d pc (pc + 2) .long (eL i) := fun _ _ _ _ _ q ⟨_, hl, k⟩ => r_lload hd hl (q _ _ k)
theorem E_aln {k : Fin 4} {i : Nat} (hd : decode cc pc = .ok (.aload_n k, 1)) (hi : (k : Nat) = i) : Ev cc κ d pc (pc + 1) .ref (eR i) := fun _ _ _ _ _ q ⟨_, hl, k⟩ => r_aload_n hd hi hl (q _ _ k)
theorem E_u {f : α → β} {ia : α → Value} {ib : β → Value} {a : PX α} (h1 : Ev cc κ d pc pc1 ia a) (op : ∀ ls st h x, wA cc κ pc2 ls (ib (f x) :: st) h → wA cc κ pc1 ls (ia x :: st) h) : Ev cc κ d pc pc2 ib (e1 f a) :=
  fun ls st h K hs q k => h1 ls st h _ hs (fun x h' z => op ls st h' x (q _ _ z)) k
theorem E_b {f : α → β → γ} {ia : α → Value} {ib : β → Value} {ig : γ → Value} {a : PX α} {b : PX β} (hw : ∀ x, (ia x).category = w) (h1 : Ev cc κ d pc pc1 ia a) (h2 : Ev cc κ (w + d) pc1 pc2 ib b) (op : ∀ ls st h x y, wA cc κ pc3 ls (ig (f x y) :: st) h → wA cc κ pc2 ls (ib y :: ia x :: st) h) : Ev cc κ d pc pc3 ig (e2 f a b) :=
  fun ls st h K hs q k => h1 ls st h _ hs (fun x h' z => h2 ls (ia x :: st) h' _ (by rw [stw_cons, hw]; omega) (fun y h2 z2 => op ls st h2 x y (q _ _ z2)) z) k
theorem catI (x : Int32) : (Value.int x).category = 1 := rfl
theorem catL (x : Int64) : (Value.long x).category = 2 := rfl
theorem catR (x : Nat) : (Value.ref x).category = 1 := rfl
section BI
variable {a b : PX Int32}
theorem E_iadd (h1 : Ev cc κ d pc pc1 .int a) (h2 : Ev cc κ (1 + d) pc1 pc2 .int b) (hd : decode cc pc2 = .ok (.iadd, 1)) : Ev cc κ d pc (pc2 + 1) .int (e2 (fun x y : Int32 => x + y) a b) := E_b catI h1 h2 fun _ _ _ _ _ k => r_iadd hd k
theorem E_isub (h1 : Ev cc κ d pc pc1 .int a) (h2 : Ev cc κ (1 + d) pc1 pc2 .int b) (hd : decode cc pc2 = .ok (.isub, 1)) : Ev cc κ d pc (pc2 + 1) .int (e2 (fun x y : Int32 => x - y) a b) := E_b catI h1 h2 fun _ _ _ _ _ k => r_isub hd k
theorem E_imul (h1 : Ev cc κ d pc pc1 .int a) (h2 : Ev cc κ (1 + d) pc1 pc2 .int b) (hd : decode cc pc2 = .ok (.imul, 1)) : Ev cc κ d pc (pc2 + 1) .int (e2 (fun x y : Int32 => x * y) a b) := E_b catI h1 h2 fun _ _ _ _ _ k => r_imul hd k
theorem E_iand (h1 : Ev cc κ d pc pc1 .int a) (h2 : Ev cc κ (1 + d) pc1 pc2 .int b) (hd : decode cc pc2 = .ok (.iand, 1)) : Ev cc κ d pc (pc2 + 1) .int (e2 (fun x y : Int32 => x &&& y) a b) := E_b catI h1 h2 fun _ _ _ _ _ k => r_iand hd k
theorem E_ior (h1 : Ev cc κ d pc pc1 .int a) (h2 : Ev cc κ (1 + d) pc1 pc2 .int b) (hd : decode cc pc2 = .ok (.ior, 1)) : Ev cc κ d pc (pc2 + 1) .int (e2 (fun x y : Int32 => x ||| y) a b) := E_b catI h1 h2 fun _ _ _ _ _ k => r_ior hd k
theorem E_ixor (h1 : Ev cc κ d pc pc1 .int a) (h2 : Ev cc κ (1 + d) pc1 pc2 .int b) (hd : decode cc pc2 = .ok (.ixor, 1)) : Ev cc κ d pc (pc2 + 1) .int (e2 (fun x y : Int32 => x ^^^ y) a b) := E_b catI h1 h2 fun _ _ _ _ _ k => r_ixor hd k
theorem E_ishl (h1 : Ev cc κ d pc pc1 .int a) (h2 : Ev cc κ (1 + d) pc1 pc2 .int b) (hd : decode cc pc2 = .ok (.ishl, 1)) : Ev cc κ d pc (pc2 + 1) .int (e2 (fun x y : Int32 => x <<< (y &&& 31)) a b) := E_b catI h1 h2 fun _ _ _ _ _ k => r_ishl hd k
theorem E_ishr (h1 : Ev cc κ d pc pc1 .int a) (h2 : Ev cc κ (1 + d) pc1 pc2 .int b) (hd : decode cc pc2 = .ok (.ishr, 1)) : Ev cc κ d pc (pc2 + 1) .int (e2 (fun x y : Int32 => x >>> (y &&& 31)) a b) := E_b catI h1 h2 fun _ _ _ _ _ k => r_ishr hd k
theorem E_iushr (h1 : Ev cc κ d pc pc1 .int a) (h2 : Ev cc κ (1 + d) pc1 pc2 .int b) (hd : decode cc pc2 = .ok (.iushr, 1)) : Ev cc κ d pc (pc2 + 1) .int (e2 (fun x y => (x.toUInt32 >>> (y.toUInt32 &&& Int32.toUInt32 31)).toInt32) a b) := E_b catI h1 h2 fun _ _ _ _ _ k => r_iushr hd k
theorem E_ineg (h1 : Ev cc κ d pc pc1 .int a) (hd : decode cc pc1 = .ok (.ineg, 1)) : Ev cc κ d pc (pc1 + 1) .int (e1 (fun x => -x) a) := E_u h1 fun _ _ _ _ k => r_ineg hd k
theorem E_i2l (h1 : Ev cc κ d pc pc1 .int a) (hd : decode cc pc1 = .ok (.i2l, 1)) : Ev cc κ d pc (pc1 + 1) .long (e1 (fun x : Int32 => x.toInt64) a) := E_u h1 fun _ _ _ _ k => r_i2l hd k
theorem E_idiv (h1 : Ev cc κ d pc pc1 .int a) (h2 : Ev cc κ (1 + d) pc1 pc2 .int b) (hd : decode cc pc2 = .ok (.idiv, 1)) : Ev cc κ d pc (pc2 + 1) .int (eDI (fun x y => x / y) a b) :=
  fun ls st h K hs q k => h1 ls st h _ hs (fun x h' z => h2 ls (.int x :: st) h' _ (by rw [stw_cons, catI]; omega) (fun y h2 z2 => r_idiv hd z2.1 (q _ _ z2.2)) z) k
theorem E_irem (h1 : Ev cc κ d pc pc1 .int a) (h2 : Ev cc κ (1 + d) pc1 pc2 .int b) (hd : decode cc pc2 = .ok (.irem, 1)) : Ev cc κ d pc (pc2 + 1) .int (eDI (fun x y => x - x / y * y) a b) :=
  fun ls st h K hs q k => h1 ls st h _ hs (fun x h' z => h2 ls (.int x :: st) h' _ (by rw [stw_cons, catI]; omega) (fun y h2 z2 => r_irem hd z2.1 (q _ _ z2.2)) z) k
end BI
section BL
variable {a b : PX Int64} {c : PX Int32}
theorem E_ladd (h1 : Ev cc κ d pc pc1 .long a) (h2 : Ev cc κ (2 + d) pc1 pc2 .long b) (hd : decode cc pc2 = .ok (.ladd, 1)) : Ev cc κ d pc (pc2 + 1) .long (e2 (fun x y : Int64 => x + y) a b) := E_b catL h1 h2 fun _ _ _ _ _ k => r_ladd hd k
theorem E_lsub (h1 : Ev cc κ d pc pc1 .long a) (h2 : Ev cc κ (2 + d) pc1 pc2 .long b) (hd : decode cc pc2 = .ok (.lsub, 1)) : Ev cc κ d pc (pc2 + 1) .long (e2 (fun x y : Int64 => x - y) a b) := E_b catL h1 h2 fun _ _ _ _ _ k => r_lsub hd k
theorem E_lmul (h1 : Ev cc κ d pc pc1 .long a) (h2 : Ev cc κ (2 + d) pc1 pc2 .long b) (hd : decode cc pc2 = .ok (.lmul, 1)) : Ev cc κ d pc (pc2 + 1) .long (e2 (fun x y : Int64 => x * y) a b) := E_b catL h1 h2 fun _ _ _ _ _ k => r_lmul hd k
theorem E_land (h1 : Ev cc κ d pc pc1 .long a) (h2 : Ev cc κ (2 + d) pc1 pc2 .long b) (hd : decode cc pc2 = .ok (.land, 1)) : Ev cc κ d pc (pc2 + 1) .long (e2 (fun x y : Int64 => x &&& y) a b) := E_b catL h1 h2 fun _ _ _ _ _ k => r_land hd k
theorem E_lor (h1 : Ev cc κ d pc pc1 .long a) (h2 : Ev cc κ (2 + d) pc1 pc2 .long b) (hd : decode cc pc2 = .ok (.lor, 1)) : Ev cc κ d pc (pc2 + 1) .long (e2 (fun x y : Int64 => x ||| y) a b) := E_b catL h1 h2 fun _ _ _ _ _ k => r_lor hd k
theorem E_lshl (h1 : Ev cc κ d pc pc1 .long a) (h2 : Ev cc κ (2 + d) pc1 pc2 .int c) (hd : decode cc pc2 = .ok (.lshl, 1)) : Ev cc κ d pc (pc2 + 1) .long (e2 (fun (x : Int64) (y : Int32) => x <<< (y.toInt64 &&& 63)) a c) := E_b catL h1 h2 fun _ _ _ _ _ k => r_lshl hd k
theorem E_lushr (h1 : Ev cc κ d pc pc1 .long a) (h2 : Ev cc κ (2 + d) pc1 pc2 .int c) (hd : decode cc pc2 = .ok (.lushr, 1)) : Ev cc κ d pc (pc2 + 1) .long (e2 (fun x y => (x.toUInt64 >>> (y.toInt64.toUInt64 &&& Int64.toUInt64 63)).toInt64) a c) := E_b catL h1 h2 fun _ _ _ _ _ k => r_lushr hd k
theorem E_l2i (h1 : Ev cc κ d pc pc1 .long a) (hd : decode cc pc1 = .ok (.l2i, 1)) : Ev cc κ d pc (pc1 + 1) .int (e1 (fun x : Int64 => x.toInt32) a) := E_u h1 fun _ _ _ _ k => r_l2i hd k
theorem E_ldiv (h1 : Ev cc κ d pc pc1 .long a) (h2 : Ev cc κ (2 + d) pc1 pc2 .long b) (hd : decode cc pc2 = .ok (.ldiv, 1)) : Ev cc κ d pc (pc2 + 1) .long (eDL (fun x y => x / y) a b) :=
  fun ls st h K hs q k => h1 ls st h _ hs (fun x h' z => h2 ls (.long x :: st) h' _ (by rw [stw_cons, catL]; omega) (fun y h2 z2 => r_ldiv hd z2.1 (q _ _ z2.2)) z) k
theorem E_lrem (h1 : Ev cc κ d pc pc1 .long a) (h2 : Ev cc κ (2 + d) pc1 pc2 .long b) (hd : decode cc pc2 = .ok (.lrem, 1)) : Ev cc κ d pc (pc2 + 1) .long (eDL (fun x y => x - x / y * y) a b) :=
  fun ls st h K hs q k => h1 ls st h _ hs (fun x h' z => h2 ls (.long x :: st) h' _ (by rw [stw_cons, catL]; omega) (fun y h2 z2 => r_lrem hd z2.1 (q _ _ z2.2)) z) k
end BL
section FI
variable {own : String} {index ci k : Nat} {ty : FieldType} {fin : Nat} {a : PX Nat} {i : PX Int32}
theorem E_fI (hF : FldOK own index ci k ty fin) (ho : k_own κ = own) (h1 : Ev cc κ d pc pc1 .ref a) (hd : decode cc pc1 = .ok (.getfield index, 3)) : Ev cc κ d pc (pc1 + 3) .int (eFI ci k a) :=
  fun ls st h K hs q z => h1 ls st h _ hs (fun _ _ ⟨z1, z2, _, z3, z4⟩ => r_get hF ho z1 z2 z3 hd (q _ _ z4)) z
theorem E_fL (hF : FldOK own index ci k ty fin) (ho : k_own κ = own) (h1 : Ev cc κ d pc pc1 .ref a) (hd : decode cc pc1 = .ok (.getfield index, 3)) : Ev cc κ d pc (pc1 + 3) .long (eFL ci k a) :=
  fun ls st h K hs q z => h1 ls st h _ hs (fun _ _ ⟨z1, z2, _, z3, z4⟩ => r_get hF ho z1 z2 z3 hd (q _ _ z4)) z
theorem E_fR (hF : FldOK own index ci k ty fin) (ho : k_own κ = own) (h1 : Ev cc κ d pc pc1 .ref a) (hd : decode cc pc1 = .ok (.getfield index, 3)) : Ev cc κ d pc (pc1 + 3) .ref (eFR ci k a) :=
  fun ls st h K hs q z => h1 ls st h _ hs (fun _ _ ⟨z1, z2, _, z3, z4⟩ => r_get hF ho z1 z2 z3 hd (q _ _ z4)) z
theorem E_fN {C : String} {T : u_T} {N : Nat} {host : String} (f1 : ci < 20) (f2 : classes[ci]? = some (C, T, N)) (f3 : k < N) (f4 : ∀ w ∈ u_ws C T N, w ∈ BIG) (f7 : Cond.fieldLinkNest own index (T k).1 (T k).2.1 (T k).2.2.1 host ∈ BIGN) (ho : k_own κ = own) (h1 : Ev cc κ d pc pc1 .ref a) (hd : decode cc pc1 = .ok (.getfield index, 3)) : Ev cc κ d pc (pc1 + 3) .int (eFI ci k a) :=
  fun ls st h K hs q z => h1 ls st h _ hs (fun _ _ ⟨z1, z2, _, z3, z4⟩ => r_getN f1 f2 f3 f4 f7 ho z1 z2 z3 hd (q _ _ z4)) z
theorem E_aI (h1 : Ev cc κ d pc pc1 .ref a) (h2 : Ev cc κ (1 + d) pc1 pc2 .int i) (hd : decode cc pc2 = .ok (.iaload, 1)) : Ev cc κ d pc (pc2 + 1) .int (eAI a i) :=
  fun ls st h K hs q z => h1 ls st h _ hs (fun r h' z => h2 ls (.ref r :: st) h' _ (by rw [stw_cons, catR]; omega) (fun _ _ ⟨z1, z2, z3, _, z4, z5⟩ => r_iald z1 z2 z3 z4 hd (q _ _ z5)) z) z
theorem E_aZ (h1 : Ev cc κ d pc pc1 .ref a) (h2 : Ev cc κ (1 + d) pc1 pc2 .int i) (hd : decode cc pc2 = .ok (.baload, 1)) : Ev cc κ d pc (pc2 + 1) .int (eAZ a i) :=
  fun ls st h K hs q z => h1 ls st h _ hs (fun r h' z => h2 ls (.ref r :: st) h' _ (by rw [stw_cons, catR]; omega) (fun _ _ ⟨z1, z2, z3, _, z4, z5⟩ => r_zald z1 z2 z3 z4 hd (q _ _ z5)) z) z
theorem E_aR (h1 : Ev cc κ d pc pc1 .ref a) (h2 : Ev cc κ (1 + d) pc1 pc2 .int i) (hd : decode cc pc2 = .ok (.aaload, 1)) : Ev cc κ d pc (pc2 + 1) .ref (eAR a i) :=
  fun ls st h K hs q z => h1 ls st h _ hs (fun r h' z => h2 ls (.ref r :: st) h' _ (by rw [stw_cons, catR]; omega) (fun _ _ ⟨z1, z2, z3, _, z4, z5⟩ => r_aald z1 z2 z3 z4 hd (q _ _ z5)) z) z
theorem E_len (h1 : Ev cc κ d pc pc1 .ref a) (hd : decode cc pc1 = .ok (.arraylength, 1)) : Ev cc κ d pc (pc1 + 1) .int (eLen a) :=
  fun ls st h K hs q z => h1 ls st h _ hs (fun _ _ ⟨z1, z2, _, z3, z4⟩ => r_alen z1 z2 z3 hd (q _ _ z4)) z
theorem E_gs (hw : Cond.fieldLink own index "PackLanes" "FACTORIALS" "[I" ∈ BIG) (ho : k_own κ = own) (hd : decode cc pc = .ok (.getstatic index, 3)) : Ev cc κ d pc (pc + 3) .ref (eV 0) :=
  fun ls st h K hs q z => r_gets hw ho hd (q _ _ z)
end FI
theorem A_n : Ea cc κ d pc pc aN := fun _ _ _ _ _ q z => q _ _ z
theorem A_c {ia : α → Value} {e : PX α} {es : PX LV} (hw : ∀ x, (ia x).category = w) (h1 : Ev cc κ d pc pc1 ia e) (h2 : Ea cc κ (w + d) pc1 pc2 es) : Ea cc κ d pc pc2 (aC ia e es) :=
  fun ls st h K hs q z => h1 ls st h _ hs (fun x h' z => h2 ls (ia x :: st) h' _ (by rw [stw_cons, hw]; omega) (fun vs h2 z2 => by
    have := q _ _ z2
    rw [List.reverse_cons, List.append_assoc] at this
    exact this) z) z
section CA
variable {own : String} {index : Nat} {y : MethodName} {host : String} {bytes : ByteArray} {maxL : Nat} {ret : Option FieldType} {n ci : Nat} {rm : Room} {F : PM} {T : u_T} {N : Nat} {r : PX Nat} {as : PX LV}
theorem O_V (hc : CallV own index y bytes maxL ret n) (hC : Ctr (k_l κ) y bytes maxL ret rm F) (hm : rm.cells = 0 ∧ rm.slots = 0) (ho : k_own κ = own) (hR : rm.frames + 1 ≤ (k_R κ).frames ∧ 8 + (maxL + 11) + rm.locals ≤ (k_R κ).locals) (h8 : d ≤ 8) (hcl : classes[ci]? = some (y.cls, T, N)) (hci : ci < 20)
    (h1 : Ev cc κ d pc pc1 .ref r) (h2 : Ea cc κ (1 + d) pc1 pc2 as) (hd : decode cc pc2 = .ok (.invokevirtual index, 3)) : Eo cc κ d pc (pc2 + 3) (xV ci n F r as) :=
  fun ls st h K hs q z => h1 ls st h _ hs (fun r h' z => h2 ls (.ref r :: st) h' _ (by rw [stw_cons, catR]; omega) (fun vs h2 ⟨z1, z2, z3, z4⟩ => r_callV hc hC hm ho hR (by omega) hcl hci z1 z2 z3 z4 hd q) z) z
theorem O_S (hc : CallS own index y bytes maxL ret n) (hC : Ctr (k_l κ) y bytes maxL ret rm F) (hm : rm.cells = 0 ∧ rm.slots = 0) (ho : k_own κ = own) (hR : rm.frames + 1 ≤ (k_R κ).frames ∧ 8 + (maxL + 11) + rm.locals ≤ (k_R κ).locals) (h8 : d ≤ 8)
    (h2 : Ea cc κ d pc pc2 as) (hd : decode cc pc2 = .ok (.invokestatic index, 3)) : Eo cc κ d pc (pc2 + 3) (xS n F as) :=
  fun ls st h K hs q z => h2 ls st h _ hs (fun vs h2 ⟨z1, z2⟩ => r_callS hc hC hm ho hR (by omega) z1 z2 hd q) z
theorem O_SN (hc : CallSN own index y host bytes maxL ret n) (hC : Ctr (k_l κ) y bytes maxL ret rm F) (hm : rm.cells = 0 ∧ rm.slots = 0) (ho : k_own κ = own) (hR : rm.frames + 1 ≤ (k_R κ).frames ∧ 8 + (maxL + 11) + rm.locals ≤ (k_R κ).locals) (h8 : d ≤ 8)
    (h2 : Ea cc κ d pc pc2 as) (hd : decode cc pc2 = .ok (.invokestatic index, 3)) : Eo cc κ d pc (pc2 + 3) (xS n F as) :=
  fun ls st h K hs q z => h2 ls st h _ hs (fun vs h2 ⟨z1, z2⟩ => r_callSN hc hC hm ho hR (by omega) z1 z2 hd q) z
theorem E_x {ia : α → Value} {c : PX (Option Value)} (h1 : Eo cc κ d pc pc1 c) : Ev cc κ d pc pc1 ia (eX ia c) :=
  fun ls st h K hs q z => h1 ls st h _ hs (fun _ _ ⟨x, z1, z2⟩ => by subst z1; exact q _ _ z2) z
end CA
section CC
variable {a b : PX Bool} {x y : PX Int32} {off : Int}
theorem E_if {ia : α → Value} {c : PX Bool} {u v : PX α} (hc : Cd cc κ d pc pT pF c) (h1 : Ev cc κ d pT pc1 ia u) (hd : decode cc pc1 = .ok (.goto off, 3)) (ht : (pc1 : Int) + off = (pc2 : Int)) (h2 : Ev cc κ d pF pc2 ia v) : Ev cc κ d pc pc2 ia (eIf c u v) :=
  fun ls st h K hs q z => hc ls st h _ hs (fun h' z => h1 ls st h' _ hs (fun x h2 z2 => r_goto hd ht (q _ _ z2)) z) (fun h' z => h2 ls st h' _ hs q z) z
theorem E_C {c : PX Bool} (hc : Cd cc κ d pc pT pF c) (d1 : decode cc pT = .ok (.iconst 1, 1)) (hd : decode cc (pT + 1) = .ok (.goto off, 3)) (ht : ((pT + 1 : Nat) : Int) + off = (pc2 : Int)) (d2 : decode cc pF = .ok (.iconst 0, 1)) (he : pF + 1 = pc2) : Ev cc κ d pc pc2 .int (eC c) :=
  fun ls st h K hs q z => hc ls st h _ hs (fun h' z => r_iconst d1 rfl (r_goto hd ht (q _ _ z))) (fun h' z => r_iconst d2 rfl (by rw [he]; exact q _ _ z)) z
theorem C_and (h1 : Cd cc κ d pc pc1 pF a) (h2 : Cd cc κ d pc1 pT pF b) : Cd cc κ d pc pT pF (cA a b) :=
  fun ls st h K hs qt qf z => h1 ls st h (fun t h1 => if t then b ls h1 K else K false h1) hs (fun h' z => h2 ls st h' K hs qt qf z) (fun h' z => qf _ z) z
theorem C_or (h1 : Cd cc κ d pc pT pc1 a) (h2 : Cd cc κ d pc1 pT pF b) : Cd cc κ d pc pT pF (cO a b) :=
  fun ls st h K hs qt qf z => h1 ls st h (fun t h1 => if t then K true h1 else b ls h1 K) hs (fun h' z => qt _ z) (fun h' z => h2 ls st h' K hs qt qf z) z
theorem C_not (h1 : Cd cc κ d pc pF pT a) : Cd cc κ d pc pT pF (cN a) :=
  fun ls st h K hs qt qf z => h1 ls st h _ hs (fun h' z => qf _ z) (fun h' z => qt _ z) z
/-- a jump when it does not hold (J), or when it holds (T) -/
theorem C_2 {f : Int32 → Int32 → Bool} (h1 : Ev cc κ d pc pc1 .int x) (h2 : Ev cc κ (1 + d) pc1 pc2 .int y) (op : ∀ ls st h u v, (f u v = true → wA cc κ pT ls st h) → (f u v = false → wA cc κ pF ls st h) → wA cc κ pc2 ls (.int v :: .int u :: st) h) : Cd cc κ d pc pT pF (e2 f x y) :=
  fun ls st h K hs qt qf z => h1 ls st h _ hs (fun u h' z => h2 ls (.int u :: st) h' _ (by rw [stw_cons, catI]; omega) (fun v h2 z2 => op ls st h2 u v (fun e => qt _ (by rw [e] at z2; exact z2)) (fun e => qf _ (by rw [e] at z2; exact z2))) z) z
theorem C_1 {f : Int32 → Bool} (h1 : Ev cc κ d pc pc1 .int x) (op : ∀ ls st h u, (f u = true → wA cc κ pT ls st h) → (f u = false → wA cc κ pF ls st h) → wA cc κ pc1 ls (.int u :: st) h) : Cd cc κ d pc pT pF (e1 f x) :=
  fun ls st h K hs qt qf z => h1 ls st h _ hs (fun u h' z2 => op ls st h' u (fun e => qt _ (by rw [e] at z2; exact z2)) (fun e => qf _ (by rw [e] at z2; exact z2))) z
theorem J2_lt (h1 : Ev cc κ d pc pc1 .int x) (h2 : Ev cc κ (1 + d) pc1 pc2 .int y) (hd : decode cc pc2 = .ok (.if_icmp .ge off, 3)) (ht : (pc2 : Int) + off = (pF : Int)) : Cd cc κ d pc (pc2 + 3) pF (e2 (fun x y : Int32 => decide (x < y)) x y) := C_2 h1 h2 fun _ _ _ u v kT kF => r_ic_ge hd ht (fun q => kF (decide_eq_false (Int32.not_lt.mpr q))) (fun q => kT (decide_eq_true (Int32.not_le.mp q)))
theorem T2_lt (h1 : Ev cc κ d pc pc1 .int x) (h2 : Ev cc κ (1 + d) pc1 pc2 .int y) (hd : decode cc pc2 = .ok (.if_icmp .lt off, 3)) (ht : (pc2 : Int) + off = (pT : Int)) : Cd cc κ d pc pT (pc2 + 3) (e2 (fun x y : Int32 => decide (x < y)) x y) := C_2 h1 h2 fun _ _ _ u v kT kF => r_ic_lt hd ht (fun q => kT (decide_eq_true q)) (fun q => kF (decide_eq_false q))
theorem J1_lt (h1 : Ev cc κ d pc pc2 .int x) (hd : decode cc pc2 = .ok (.ifCond .ge off, 3)) (ht : (pc2 : Int) + off = (pF : Int)) : Cd cc κ d pc (pc2 + 3) pF (e1 (fun x : Int32 => decide (x < 0)) x) := C_1 h1 fun _ _ _ u kT kF => r_if_ge hd ht (fun q => kF (decide_eq_false (Int32.not_lt.mpr q))) (fun q => kT (decide_eq_true (Int32.not_le.mp q)))
theorem T1_lt (h1 : Ev cc κ d pc pc2 .int x) (hd : decode cc pc2 = .ok (.ifCond .lt off, 3)) (ht : (pc2 : Int) + off = (pT : Int)) : Cd cc κ d pc pT (pc2 + 3) (e1 (fun x : Int32 => decide (x < 0)) x) := C_1 h1 fun _ _ _ u kT kF => r_if_lt hd ht (fun q => kT (decide_eq_true q)) (fun q => kF (decide_eq_false q))
theorem J2_ge (h1 : Ev cc κ d pc pc1 .int x) (h2 : Ev cc κ (1 + d) pc1 pc2 .int y) (hd : decode cc pc2 = .ok (.if_icmp .lt off, 3)) (ht : (pc2 : Int) + off = (pF : Int)) : Cd cc κ d pc (pc2 + 3) pF (e2 (fun x y : Int32 => decide (y ≤ x)) x y) := C_2 h1 h2 fun _ _ _ u v kT kF => r_ic_lt hd ht (fun q => kF (decide_eq_false (Int32.not_le.mpr q))) (fun q => kT (decide_eq_true (Int32.not_lt.mp q)))
theorem T2_ge (h1 : Ev cc κ d pc pc1 .int x) (h2 : Ev cc κ (1 + d) pc1 pc2 .int y) (hd : decode cc pc2 = .ok (.if_icmp .ge off, 3)) (ht : (pc2 : Int) + off = (pT : Int)) : Cd cc κ d pc pT (pc2 + 3) (e2 (fun x y : Int32 => decide (y ≤ x)) x y) := C_2 h1 h2 fun _ _ _ u v kT kF => r_ic_ge hd ht (fun q => kT (decide_eq_true q)) (fun q => kF (decide_eq_false q))
theorem J1_ge (h1 : Ev cc κ d pc pc2 .int x) (hd : decode cc pc2 = .ok (.ifCond .lt off, 3)) (ht : (pc2 : Int) + off = (pF : Int)) : Cd cc κ d pc (pc2 + 3) pF (e1 (fun x : Int32 => decide (0 ≤ x)) x) := C_1 h1 fun _ _ _ u kT kF => r_if_lt hd ht (fun q => kF (decide_eq_false (Int32.not_le.mpr q))) (fun q => kT (decide_eq_true (Int32.not_lt.mp q)))
theorem T1_ge (h1 : Ev cc κ d pc pc2 .int x) (hd : decode cc pc2 = .ok (.ifCond .ge off, 3)) (ht : (pc2 : Int) + off = (pT : Int)) : Cd cc κ d pc pT (pc2 + 3) (e1 (fun x : Int32 => decide (0 ≤ x)) x) := C_1 h1 fun _ _ _ u kT kF => r_if_ge hd ht (fun q => kT (decide_eq_true q)) (fun q => kF (decide_eq_false q))
theorem J2_gt (h1 : Ev cc κ d pc pc1 .int x) (h2 : Ev cc κ (1 + d) pc1 pc2 .int y) (hd : decode cc pc2 = .ok (.if_icmp .le off, 3)) (ht : (pc2 : Int) + off = (pF : Int)) : Cd cc κ d pc (pc2 + 3) pF (e2 (fun x y : Int32 => decide (y < x)) x y) := C_2 h1 h2 fun _ _ _ u v kT kF => r_ic_le hd ht (fun q => kF (decide_eq_false (Int32.not_lt.mpr q))) (fun q => kT (decide_eq_true (Int32.not_le.mp q)))
theorem T2_gt (h1 : Ev cc κ d pc pc1 .int x) (h2 : Ev cc κ (1 + d) pc1 pc2 .int y) (hd : decode cc pc2 = .ok (.if_icmp .gt off, 3)) (ht : (pc2 : Int) + off = (pT : Int)) : Cd cc κ d pc pT (pc2 + 3) (e2 (fun x y : Int32 => decide (y < x)) x y) := C_2 h1 h2 fun _ _ _ u v kT kF => r_ic_gt hd ht (fun q => kT (decide_eq_true q)) (fun q => kF (decide_eq_false q))
theorem J1_gt (h1 : Ev cc κ d pc pc2 .int x) (hd : decode cc pc2 = .ok (.ifCond .le off, 3)) (ht : (pc2 : Int) + off = (pF : Int)) : Cd cc κ d pc (pc2 + 3) pF (e1 (fun x : Int32 => decide (0 < x)) x) := C_1 h1 fun _ _ _ u kT kF => r_if_le hd ht (fun q => kF (decide_eq_false (Int32.not_lt.mpr q))) (fun q => kT (decide_eq_true (Int32.not_le.mp q)))
theorem T1_gt (h1 : Ev cc κ d pc pc2 .int x) (hd : decode cc pc2 = .ok (.ifCond .gt off, 3)) (ht : (pc2 : Int) + off = (pT : Int)) : Cd cc κ d pc pT (pc2 + 3) (e1 (fun x : Int32 => decide (0 < x)) x) := C_1 h1 fun _ _ _ u kT kF => r_if_gt hd ht (fun q => kT (decide_eq_true q)) (fun q => kF (decide_eq_false q))
theorem J2_le (h1 : Ev cc κ d pc pc1 .int x) (h2 : Ev cc κ (1 + d) pc1 pc2 .int y) (hd : decode cc pc2 = .ok (.if_icmp .gt off, 3)) (ht : (pc2 : Int) + off = (pF : Int)) : Cd cc κ d pc (pc2 + 3) pF (e2 (fun x y : Int32 => decide (x ≤ y)) x y) := C_2 h1 h2 fun _ _ _ u v kT kF => r_ic_gt hd ht (fun q => kF (decide_eq_false (Int32.not_le.mpr q))) (fun q => kT (decide_eq_true (Int32.not_lt.mp q)))
theorem T2_le (h1 : Ev cc κ d pc pc1 .int x) (h2 : Ev cc κ (1 + d) pc1 pc2 .int y) (hd : decode cc pc2 = .ok (.if_icmp .le off, 3)) (ht : (pc2 : Int) + off = (pT : Int)) : Cd cc κ d pc pT (pc2 + 3) (e2 (fun x y : Int32 => decide (x ≤ y)) x y) := C_2 h1 h2 fun _ _ _ u v kT kF => r_ic_le hd ht (fun q => kT (decide_eq_true q)) (fun q => kF (decide_eq_false q))
theorem J1_le (h1 : Ev cc κ d pc pc2 .int x) (hd : decode cc pc2 = .ok (.ifCond .gt off, 3)) (ht : (pc2 : Int) + off = (pF : Int)) : Cd cc κ d pc (pc2 + 3) pF (e1 (fun x : Int32 => decide (x ≤ 0)) x) := C_1 h1 fun _ _ _ u kT kF => r_if_gt hd ht (fun q => kF (decide_eq_false (Int32.not_le.mpr q))) (fun q => kT (decide_eq_true (Int32.not_lt.mp q)))
theorem T1_le (h1 : Ev cc κ d pc pc2 .int x) (hd : decode cc pc2 = .ok (.ifCond .le off, 3)) (ht : (pc2 : Int) + off = (pT : Int)) : Cd cc κ d pc pT (pc2 + 3) (e1 (fun x : Int32 => decide (x ≤ 0)) x) := C_1 h1 fun _ _ _ u kT kF => r_if_le hd ht (fun q => kT (decide_eq_true q)) (fun q => kF (decide_eq_false q))
theorem J2_eq (h1 : Ev cc κ d pc pc1 .int x) (h2 : Ev cc κ (1 + d) pc1 pc2 .int y) (hd : decode cc pc2 = .ok (.if_icmp .ne off, 3)) (ht : (pc2 : Int) + off = (pF : Int)) : Cd cc κ d pc (pc2 + 3) pF (e2 (fun x y : Int32 => decide (x = y)) x y) := C_2 h1 h2 fun _ _ _ u v kT kF => r_ic_ne hd ht (fun q => kF (decide_eq_false q)) (fun q => kT (decide_eq_true q))
theorem T2_eq (h1 : Ev cc κ d pc pc1 .int x) (h2 : Ev cc κ (1 + d) pc1 pc2 .int y) (hd : decode cc pc2 = .ok (.if_icmp .eq off, 3)) (ht : (pc2 : Int) + off = (pT : Int)) : Cd cc κ d pc pT (pc2 + 3) (e2 (fun x y : Int32 => decide (x = y)) x y) := C_2 h1 h2 fun _ _ _ u v kT kF => r_ic_eq hd ht (fun q => kT (decide_eq_true q)) (fun q => kF (decide_eq_false q))
theorem J1_eq (h1 : Ev cc κ d pc pc2 .int x) (hd : decode cc pc2 = .ok (.ifCond .ne off, 3)) (ht : (pc2 : Int) + off = (pF : Int)) : Cd cc κ d pc (pc2 + 3) pF (e1 (fun x : Int32 => decide (x = 0)) x) := C_1 h1 fun _ _ _ u kT kF => r_if_ne hd ht (fun q => kF (decide_eq_false q)) (fun q => kT (decide_eq_true q))
theorem T1_eq (h1 : Ev cc κ d pc pc2 .int x) (hd : decode cc pc2 = .ok (.ifCond .eq off, 3)) (ht : (pc2 : Int) + off = (pT : Int)) : Cd cc κ d pc pT (pc2 + 3) (e1 (fun x : Int32 => decide (x = 0)) x) := C_1 h1 fun _ _ _ u kT kF => r_if_eq hd ht (fun q => kT (decide_eq_true q)) (fun q => kF (decide_eq_false q))
theorem J2_ne (h1 : Ev cc κ d pc pc1 .int x) (h2 : Ev cc κ (1 + d) pc1 pc2 .int y) (hd : decode cc pc2 = .ok (.if_icmp .eq off, 3)) (ht : (pc2 : Int) + off = (pF : Int)) : Cd cc κ d pc (pc2 + 3) pF (e2 (fun x y : Int32 => decide (¬ x = y)) x y) := C_2 h1 h2 fun _ _ _ u v kT kF => r_ic_eq hd ht (fun q => kF (decide_eq_false (fun z => z q))) (fun q => kT (decide_eq_true q))
theorem T2_ne (h1 : Ev cc κ d pc pc1 .int x) (h2 : Ev cc κ (1 + d) pc1 pc2 .int y) (hd : decode cc pc2 = .ok (.if_icmp .ne off, 3)) (ht : (pc2 : Int) + off = (pT : Int)) : Cd cc κ d pc pT (pc2 + 3) (e2 (fun x y : Int32 => decide (¬ x = y)) x y) := C_2 h1 h2 fun _ _ _ u v kT kF => r_ic_ne hd ht (fun q => kT (decide_eq_true q)) (fun q => kF (decide_eq_false (fun z => z q)))
theorem J1_ne (h1 : Ev cc κ d pc pc2 .int x) (hd : decode cc pc2 = .ok (.ifCond .eq off, 3)) (ht : (pc2 : Int) + off = (pF : Int)) : Cd cc κ d pc (pc2 + 3) pF (e1 (fun x : Int32 => decide (¬ x = 0)) x) := C_1 h1 fun _ _ _ u kT kF => r_if_eq hd ht (fun q => kF (decide_eq_false (fun z => z q))) (fun q => kT (decide_eq_true q))
theorem T1_ne (h1 : Ev cc κ d pc pc2 .int x) (hd : decode cc pc2 = .ok (.ifCond .ne off, 3)) (ht : (pc2 : Int) + off = (pT : Int)) : Cd cc κ d pc pT (pc2 + 3) (e1 (fun x : Int32 => decide (¬ x = 0)) x) := C_1 h1 fun _ _ _ u kT kF => r_if_ne hd ht (fun q => kT (decide_eq_true q)) (fun q => kF (decide_eq_false (fun z => z q)))
theorem lg_lt {x y : Int64} : lg_cmp x y < 0 ↔ x < y := by
  unfold lg_cmp
  split
  · next h => exact ⟨fun q => absurd q (by decide), fun q => absurd q (Int64.not_lt.mpr (Int64.le_of_lt h))⟩
  · next h =>
    split
    · next e => subst e; exact ⟨fun q => absurd q (by decide), fun q => absurd q (Int64.lt_irrefl)⟩
    · next e => exact ⟨fun _ => Int64.lt_of_le_of_ne (Int64.not_lt.mp h) e, fun _ => by decide⟩
theorem lg_gt {x y : Int64} : 0 < lg_cmp x y ↔ y < x := by
  unfold lg_cmp
  split
  · next h => exact ⟨fun _ => h, fun _ => by decide⟩
  · next h =>
    split
    · next e => exact ⟨fun q => absurd q (by decide), fun q => absurd q h⟩
    · next e => exact ⟨fun q => absurd q (by decide), fun q => absurd q h⟩
theorem lg_eq {x y : Int64} : lg_cmp x y = 0 ↔ x = y := by
  unfold lg_cmp
  split
  · next h => exact ⟨fun q => absurd q (by decide), fun q => by subst q; exact absurd h Int64.lt_irrefl⟩
  · next h =>
    split
    · next e => exact ⟨fun _ => e, fun _ => rfl⟩
    · next e => exact ⟨fun q => absurd q (by decide), fun q => absurd q e⟩
theorem lg_ge {x y : Int64} : 0 ≤ lg_cmp x y ↔ y ≤ x := by rw [← Int32.not_lt, lg_lt, Int64.not_lt]
theorem lg_le {x y : Int64} : lg_cmp x y ≤ 0 ↔ x ≤ y := by rw [← Int32.not_lt, lg_gt, Int64.not_lt]
theorem C_L {a b : PX Int64} {f : Int64 → Int64 → Bool} (h1 : Ev cc κ d pc pc1 .long a) (h2 : Ev cc κ (2 + d) pc1 pc2 .long b) (hl : decode cc pc2 = .ok (.lcmp, 1)) (op : ∀ ls st h u v, (f u v = true → wA cc κ pT ls st h) → (f u v = false → wA cc κ pF ls st h) → wA cc κ (pc2 + 1) ls (.int (lg_cmp u v) :: st) h) : Cd cc κ d pc pT pF (e2 f a b) :=
  fun ls st h K hs qt qf z => h1 ls st h _ hs (fun u h' z => h2 ls (.long u :: st) h' _ (by rw [stw_cons, catL]; omega) (fun v h2 z2 => r_lcmp hl (op ls st h2 u v (fun e => qt _ (by rw [e] at z2; exact z2)) (fun e => qf _ (by rw [e] at z2; exact z2)))) z) z
theorem JL_lt {a b : PX Int64} (h1 : Ev cc κ d pc pc1 .long a) (h2 : Ev cc κ (2 + d) pc1 pc2 .long b) (hl : decode cc pc2 = .ok (.lcmp, 1)) (hd : decode cc (pc2 + 1) = .ok (.ifCond .ge off, 3)) (ht : ((pc2 + 1 : Nat) : Int) + off = (pF : Int)) : Cd cc κ d pc (pc2 + 1 + 3) pF (e2 (fun x y : Int64 => decide (x < y)) a b) := C_L h1 h2 hl fun _ _ _ u v kT kF => r_if_ge hd ht (fun q => kF (decide_eq_false (Int64.not_lt.mpr (lg_ge.mp q)))) (fun q => kT (decide_eq_true (Int64.not_le.mp (fun z => q (lg_ge.mpr z)))))
theorem TL_lt {a b : PX Int64} (h1 : Ev cc κ d pc pc1 .long a) (h2 : Ev cc κ (2 + d) pc1 pc2 .long b) (hl : decode cc pc2 = .ok (.lcmp, 1)) (hd : decode cc (pc2 + 1) = .ok (.ifCond .lt off, 3)) (ht : ((pc2 + 1 : Nat) : Int) + off = (pT : Int)) : Cd cc κ d pc pT (pc2 + 1 + 3) (e2 (fun x y : Int64 => decide (x < y)) a b) := C_L h1 h2 hl fun _ _ _ u v kT kF => r_if_lt hd ht (fun q => kT (decide_eq_true (lg_lt.mp q))) (fun q => kF (decide_eq_false (fun z => q (lg_lt.mpr z))))
theorem JL_ge {a b : PX Int64} (h1 : Ev cc κ d pc pc1 .long a) (h2 : Ev cc κ (2 + d) pc1 pc2 .long b) (hl : decode cc pc2 = .ok (.lcmp, 1)) (hd : decode cc (pc2 + 1) = .ok (.ifCond .lt off, 3)) (ht : ((pc2 + 1 : Nat) : Int) + off = (pF : Int)) : Cd cc κ d pc (pc2 + 1 + 3) pF (e2 (fun x y : Int64 => decide (y ≤ x)) a b) := C_L h1 h2 hl fun _ _ _ u v kT kF => r_if_lt hd ht (fun q => kF (decide_eq_false (Int64.not_le.mpr (lg_lt.mp q)))) (fun q => kT (decide_eq_true (Int64.not_lt.mp (fun z => q (lg_lt.mpr z)))))
theorem TL_ge {a b : PX Int64} (h1 : Ev cc κ d pc pc1 .long a) (h2 : Ev cc κ (2 + d) pc1 pc2 .long b) (hl : decode cc pc2 = .ok (.lcmp, 1)) (hd : decode cc (pc2 + 1) = .ok (.ifCond .ge off, 3)) (ht : ((pc2 + 1 : Nat) : Int) + off = (pT : Int)) : Cd cc κ d pc pT (pc2 + 1 + 3) (e2 (fun x y : Int64 => decide (y ≤ x)) a b) := C_L h1 h2 hl fun _ _ _ u v kT kF => r_if_ge hd ht (fun q => kT (decide_eq_true (lg_ge.mp q))) (fun q => kF (decide_eq_false (fun z => q (lg_ge.mpr z))))
theorem JL_gt {a b : PX Int64} (h1 : Ev cc κ d pc pc1 .long a) (h2 : Ev cc κ (2 + d) pc1 pc2 .long b) (hl : decode cc pc2 = .ok (.lcmp, 1)) (hd : decode cc (pc2 + 1) = .ok (.ifCond .le off, 3)) (ht : ((pc2 + 1 : Nat) : Int) + off = (pF : Int)) : Cd cc κ d pc (pc2 + 1 + 3) pF (e2 (fun x y : Int64 => decide (y < x)) a b) := C_L h1 h2 hl fun _ _ _ u v kT kF => r_if_le hd ht (fun q => kF (decide_eq_false (Int64.not_lt.mpr (lg_le.mp q)))) (fun q => kT (decide_eq_true (Int64.not_le.mp (fun z => q (lg_le.mpr z)))))
theorem TL_gt {a b : PX Int64} (h1 : Ev cc κ d pc pc1 .long a) (h2 : Ev cc κ (2 + d) pc1 pc2 .long b) (hl : decode cc pc2 = .ok (.lcmp, 1)) (hd : decode cc (pc2 + 1) = .ok (.ifCond .gt off, 3)) (ht : ((pc2 + 1 : Nat) : Int) + off = (pT : Int)) : Cd cc κ d pc pT (pc2 + 1 + 3) (e2 (fun x y : Int64 => decide (y < x)) a b) := C_L h1 h2 hl fun _ _ _ u v kT kF => r_if_gt hd ht (fun q => kT (decide_eq_true (lg_gt.mp q))) (fun q => kF (decide_eq_false (fun z => q (lg_gt.mpr z))))
theorem JL_le {a b : PX Int64} (h1 : Ev cc κ d pc pc1 .long a) (h2 : Ev cc κ (2 + d) pc1 pc2 .long b) (hl : decode cc pc2 = .ok (.lcmp, 1)) (hd : decode cc (pc2 + 1) = .ok (.ifCond .gt off, 3)) (ht : ((pc2 + 1 : Nat) : Int) + off = (pF : Int)) : Cd cc κ d pc (pc2 + 1 + 3) pF (e2 (fun x y : Int64 => decide (x ≤ y)) a b) := C_L h1 h2 hl fun _ _ _ u v kT kF => r_if_gt hd ht (fun q => kF (decide_eq_false (Int64.not_le.mpr (lg_gt.mp q)))) (fun q => kT (decide_eq_true (Int64.not_lt.mp (fun z => q (lg_gt.mpr z)))))
theorem TL_le {a b : PX Int64} (h1 : Ev cc κ d pc pc1 .long a) (h2 : Ev cc κ (2 + d) pc1 pc2 .long b) (hl : decode cc pc2 = .ok (.lcmp, 1)) (hd : decode cc (pc2 + 1) = .ok (.ifCond .le off, 3)) (ht : ((pc2 + 1 : Nat) : Int) + off = (pT : Int)) : Cd cc κ d pc pT (pc2 + 1 + 3) (e2 (fun x y : Int64 => decide (x ≤ y)) a b) := C_L h1 h2 hl fun _ _ _ u v kT kF => r_if_le hd ht (fun q => kT (decide_eq_true (lg_le.mp q))) (fun q => kF (decide_eq_false (fun z => q (lg_le.mpr z))))
theorem JL_eq {a b : PX Int64} (h1 : Ev cc κ d pc pc1 .long a) (h2 : Ev cc κ (2 + d) pc1 pc2 .long b) (hl : decode cc pc2 = .ok (.lcmp, 1)) (hd : decode cc (pc2 + 1) = .ok (.ifCond .ne off, 3)) (ht : ((pc2 + 1 : Nat) : Int) + off = (pF : Int)) : Cd cc κ d pc (pc2 + 1 + 3) pF (e2 (fun x y : Int64 => decide (x = y)) a b) := C_L h1 h2 hl fun _ _ _ u v kT kF => r_if_ne hd ht (fun q => kF (decide_eq_false (fun z => q (lg_eq.mpr z)))) (fun q => kT (decide_eq_true (lg_eq.mp q)))
theorem TL_eq {a b : PX Int64} (h1 : Ev cc κ d pc pc1 .long a) (h2 : Ev cc κ (2 + d) pc1 pc2 .long b) (hl : decode cc pc2 = .ok (.lcmp, 1)) (hd : decode cc (pc2 + 1) = .ok (.ifCond .eq off, 3)) (ht : ((pc2 + 1 : Nat) : Int) + off = (pT : Int)) : Cd cc κ d pc pT (pc2 + 1 + 3) (e2 (fun x y : Int64 => decide (x = y)) a b) := C_L h1 h2 hl fun _ _ _ u v kT kF => r_if_eq hd ht (fun q => kT (decide_eq_true (lg_eq.mp q))) (fun q => kF (decide_eq_false (fun z => q (lg_eq.mpr z))))
theorem JL_ne {a b : PX Int64} (h1 : Ev cc κ d pc pc1 .long a) (h2 : Ev cc κ (2 + d) pc1 pc2 .long b) (hl : decode cc pc2 = .ok (.lcmp, 1)) (hd : decode cc (pc2 + 1) = .ok (.ifCond .eq off, 3)) (ht : ((pc2 + 1 : Nat) : Int) + off = (pF : Int)) : Cd cc κ d pc (pc2 + 1 + 3) pF (e2 (fun x y : Int64 => decide (¬ x = y)) a b) := C_L h1 h2 hl fun _ _ _ u v kT kF => r_if_eq hd ht (fun q => kF (decide_eq_false (fun z => z (lg_eq.mp q)))) (fun q => kT (decide_eq_true (fun z => q (lg_eq.mpr z))))
theorem TL_ne {a b : PX Int64} (h1 : Ev cc κ d pc pc1 .long a) (h2 : Ev cc κ (2 + d) pc1 pc2 .long b) (hl : decode cc pc2 = .ok (.lcmp, 1)) (hd : decode cc (pc2 + 1) = .ok (.ifCond .ne off, 3)) (ht : ((pc2 + 1 : Nat) : Int) + off = (pT : Int)) : Cd cc κ d pc pT (pc2 + 1 + 3) (e2 (fun x y : Int64 => decide (¬ x = y)) a b) := C_L h1 h2 hl fun _ _ _ u v kT kF => r_if_ne hd ht (fun q => kT (decide_eq_true (fun z => q (lg_eq.mpr z)))) (fun q => kF (decide_eq_false (fun z => z (lg_eq.mp q))))
end CC
end PR
