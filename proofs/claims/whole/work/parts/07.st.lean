def sSO : PS := fun kn _ _ _ ls h => (∃ x, ls[0]? = some (.ref x)) ∧ kn ls h
section SR
variable {cc : ByteArray} {κ : KT} {pc pc1 pc2 pc3 pc4 pT pF pN pB pC pS pG : Nat} {off : Int}
theorem S_sk : Ex cc κ pc pc pB pC sSk := fun _ _ _ _ _ _ qn _ _ _ z => qn _ _ z
theorem S_sq {a b : PS} (h1 : Ex cc κ pc pc1 pB pC a) (h2 : Ex cc κ pc1 pN pB pC b) : Ex cc κ pc pN pB pC (sSq a b) :=
  fun ls h kn kb kc kr qn qb qc qr z => h1 ls h _ kb kc kr (fun ls' h' z => h2 ls' h' kn kb kc kr qn qb qc qr z) qb qc qr z
theorem S_go {a : PS} (h1 : Ex cc κ pc pc1 pB pC a) (hd : decode cc pc1 = .ok (.goto off, 3)) (ht : (pc1 : Int) + off = (pN : Int)) : Ex cc κ pc pN pB pC a :=
  fun ls h kn kb kc kr qn qb qc qr z => h1 ls h kn kb kc kr (fun ls' h' z => r_goto hd ht (qn _ _ z)) qb qc qr z
theorem S_In {i : Nat} {k : Fin 4} {e : PX Int32} (h1 : Ev cc κ 0 pc pc1 .int e) (hd : decode cc pc1 = .ok (.istore_n k, 1)) (hi : (k : Nat) = i) : Ex cc κ pc (pc1 + 1) pB pC (sI i e) :=
  fun ls h kn kb kc kr qn qb qc qr z => h1 ls [] h _ (Nat.le_refl 0) (fun x h' ⟨z1, z2⟩ => r_istore_n hd hi z1 (qn _ _ z2)) z
theorem S_I {i : Nat} {e : PX Int32} (h1 : Ev cc κ 0 pc pc1 .int e) (hd : decode cc pc1 = .ok (.istore i, 2)) : Ex cc κ pc (pc1 + 2) pB pC (sI i e) :=
  fun ls h kn kb kc kr qn qb qc qr z => h1 ls [] h _ (Nat.le_refl 0) (fun x h' ⟨z1, z2⟩ => r_istore hd z1 (qn _ _ z2)) z
theorem S_Ln {i : Nat} {k : Fin 4} {e : PX Int64} (h1 : Ev cc κ 0 pc pc1 .long e) (hd : decode cc pc1 = .ok (.lstore_n k, 1)) (hi : (k : Nat) = i) : Ex cc κ pc (pc1 + 1) pB pC (sL i e) :=
  fun ls h kn kb kc kr qn qb qc qr z => h1 ls [] h _ (Nat.le_refl 0) (fun x h' ⟨z1, z2⟩ => r_lstore_n hd hi z1 (qn _ _ z2)) z
theorem S_L {i : Nat} {e : PX Int64} (h1 : Ev cc κ 0 pc pc1 .long e) (hd : decode cc pc1 = .ok (.lstore i, 2)) : Ex cc κ pc (pc1 + 2) pB pC (sL i e) :=
  fun ls h kn kb kc kr qn qb qc qr z => h1 ls [] h _ (Nat.le_refl 0) (fun x h' ⟨z1, z2⟩ => r_lstore hd z1 (qn _ _ z2)) z
theorem S_Rn {i : Nat} {k : Fin 4} {e : PX Nat} (h1 : Ev cc κ 0 pc pc1 .ref e) (hd : decode cc pc1 = .ok (.astore_n k, 1)) (hi : (k : Nat) = i) : Ex cc κ pc (pc1 + 1) pB pC (sR i e) :=
  fun ls h kn kb kc kr qn qb qc qr z => h1 ls [] h _ (Nat.le_refl 0) (fun x h' ⟨z1, z2⟩ => r_astore_n hd hi z1 (qn _ _ z2)) z
theorem S_Inc {i : Nat} {k : Int} {n : Int32} (hd : decode cc pc = .ok (.iinc i k, 3)) (hk : Int32.ofInt k = n) : Ex cc κ pc (pc + 3) pB pC (sInc i n) :=
  fun ls h kn kb kc kr qn qb qc qr ⟨_, z1, z2⟩ => by subst hk; exact r_iinc hd z1 (qn _ _ z2)
section SF
variable {own : String} {index ci k : Nat} {ty : FieldType} {fin : Nat} {a : PX Nat}
theorem S_FI {e : PX Int32} (hF : FldOK own index ci k .int 0) (ho : k_own κ = own) (h1 : Ev cc κ 0 pc pc1 .ref a) (h2 : Ev cc κ (1 + 0) pc1 pc2 .int e) (hd : decode cc pc2 = .ok (.putfield index, 3)) : Ex cc κ pc (pc2 + 3) pB pC (sF .int ci k a e) :=
  fun ls h kn kb kc kr qn qb qc qr z => h1 ls [] h _ (Nat.le_refl 0) (fun r h' z => h2 ls [.ref r] h' _ (Nat.le_of_eq rfl) (fun x h2 ⟨z1, z2, ⟨_, z3⟩, z4⟩ => r_put hF ho z1 z2 z3 rfl rfl hd (qn _ _ z4)) z) z
theorem S_FL {e : PX Int64} (hF : FldOK own index ci k .long 0) (ho : k_own κ = own) (h1 : Ev cc κ 0 pc pc1 .ref a) (h2 : Ev cc κ (1 + 0) pc1 pc2 .long e) (hd : decode cc pc2 = .ok (.putfield index, 3)) : Ex cc κ pc (pc2 + 3) pB pC (sF .long ci k a e) :=
  fun ls h kn kb kc kr qn qb qc qr z => h1 ls [] h _ (Nat.le_refl 0) (fun r h' z => h2 ls [.ref r] h' _ (Nat.le_of_eq rfl) (fun x h2 ⟨z1, z2, ⟨_, z3⟩, z4⟩ => r_put hF ho z1 z2 z3 rfl rfl hd (qn _ _ z4)) z) z
theorem S_FR {e : PX Nat} (hF : FldOK own index ci k ty 1) (ho : k_own κ = own) (hi : KO cc κ → (k_me κ).name = "<init>") (hn : ∀ q, narrow ty (.ref q) = .ref q ∧ fits ty (.ref q) = true) (h1 : Ev cc κ 0 pc pc1 .ref a) (h2 : Ev cc κ (1 + 0) pc1 pc2 .ref e) (hd : decode cc pc2 = .ok (.putfield index, 3)) : Ex cc κ pc (pc2 + 3) pB pC (sF .ref ci k a e) :=
  fun ls h kn kb kc kr qn qb qc qr z => h1 ls [] h _ (Nat.le_refl 0) (fun r h' z => h2 ls [.ref r] h' _ (Nat.le_of_eq rfl) (fun x h2 ⟨z1, z2, ⟨_, z3⟩, z4⟩ => r_putF hF ho z1 hi z2 z3 (hn _).1 (hn _).2 hd (qn _ _ z4)) z) z
theorem S_FO {index2 : Nat} {f : Int32 → Int32 → Int32} {e : PX Int32} {fin2 : Nat} (hF : FldOK own index ci k .int fin2) (hG : FldOK own index2 ci k .int 0) (ho : k_own κ = own) (h1 : Ev cc κ 0 pc pc1 .ref a) (hd1 : decode cc pc1 = .ok (.dup, 1)) (hd2 : decode cc (pc1 + 1) = .ok (.getfield index, 3)) (h2 : Ev cc κ 2 (pc1 + 1 + 3) pc2 .int e) (op : ∀ ls st h x y, wA cc κ (pc2 + 1) ls (.int (f x y) :: st) h → wA cc κ pc2 ls (.int y :: .int x :: st) h) (hd : decode cc (pc2 + 1) = .ok (.putfield index2, 3)) : Ex cc κ pc (pc2 + 1 + 3) pB pC (sFO ci k f a e) :=
  fun ls h kn kb kc kr qn qb qc qr z => h1 ls [] h _ (Nat.le_refl 0) (fun r h' ⟨z1, z2, x, z3, z4⟩ => r_dup hd1 rfl (r_get hF ho z1 z2 z3 hd2 (h2 ls [.int x, .ref r] h' _ (Nat.le_of_eq rfl) (fun y h2 ⟨y1, ⟨_, y2⟩, y3⟩ => op _ _ _ _ _ (r_put hG ho z1 y1 y2 rfl rfl hd (qn _ _ y3))) z4))) z
end SF
section SA
variable {a : PX Nat} {i e : PX Int32}
theorem S_AI (h1 : Ev cc κ 0 pc pc1 .ref a) (h2 : Ev cc κ (1 + 0) pc1 pc2 .int i) (h3 : Ev cc κ (1 + (1 + 0)) pc2 pc3 .int e) (hd : decode cc pc3 = .ok (.iastore, 1)) : Ex cc κ pc (pc3 + 1) pB pC (sAI a i e) :=
  fun ls h kn kb kc kr qn qb qc qr z => h1 ls [] h _ (Nat.le_refl 0) (fun r h' z => h2 ls [.ref r] h' _ (Nat.le_of_eq rfl) (fun j h2 z => h3 ls [.int j, .ref r] h2 _ (Nat.le_of_eq rfl) (fun x h3 ⟨z1, z2, z3, ⟨_, z4⟩, z5⟩ => r_iast z1 z2 z3 z4 hd (qn _ _ z5)) z) z) z
theorem S_AZ (h1 : Ev cc κ 0 pc pc1 .ref a) (h2 : Ev cc κ (1 + 0) pc1 pc2 .int i) (h3 : Ev cc κ (1 + (1 + 0)) pc2 pc3 .int e) (hd : decode cc pc3 = .ok (.bastore, 1)) : Ex cc κ pc (pc3 + 1) pB pC (sAZ a i e) :=
  fun ls h kn kb kc kr qn qb qc qr z => h1 ls [] h _ (Nat.le_refl 0) (fun r h' z => h2 ls [.ref r] h' _ (Nat.le_of_eq rfl) (fun j h2 z => h3 ls [.int j, .ref r] h2 _ (Nat.le_of_eq rfl) (fun x h3 ⟨z1, z2, z3, z0, ⟨_, z4⟩, z5⟩ => r_zast z1 z2 z3 z0 z4 hd (qn _ _ z5)) z) z) z
theorem S_AO {f : Int32 → Int32 → Int32} (h1 : Ev cc κ 0 pc pc1 .ref a) (h2 : Ev cc κ (1 + 0) pc1 pc2 .int i) (hd1 : decode cc pc2 = .ok (.dup2, 1)) (hd2 : decode cc (pc2 + 1) = .ok (.iaload, 1)) (h3 : Ev cc κ 3 (pc2 + 1 + 1) pc3 .int e) (op : ∀ ls st h x y, wA cc κ (pc3 + 1) ls (.int (f x y) :: st) h → wA cc κ pc3 ls (.int y :: .int x :: st) h) (hd : decode cc (pc3 + 1) = .ok (.iastore, 1)) : Ex cc κ pc (pc3 + 1 + 1) pB pC (sAO f a i e) :=
  fun ls h kn kb kc kr qn qb qc qr z => h1 ls [] h _ (Nat.le_refl 0) (fun r h' z => h2 ls [.ref r] h' _ (Nat.le_of_eq rfl) (fun j h2 ⟨z1, z2, z3, x, z4, z5⟩ => r_dup2 hd1 rfl rfl (r_iald (by omega) z2 z3 z4 hd2 (h3 ls [.int x, .int j, .ref r] h2 _ (Nat.le_of_eq rfl) (fun y h3 ⟨y1, ⟨_, y2⟩, y3⟩ => op _ _ _ _ _ (r_iast z1 y1 z3 y2 hd (qn _ _ y3))) z5))) z) z
end SA
theorem S_X {c : PX (Option Value)} (h1 : Eo cc κ 0 pc pc1 c) : Ex cc κ pc pc1 pB pC (sX c) :=
  fun ls h kn kb kc kr qn qb qc qr z => h1 ls [] h _ (Nat.le_refl 0) (fun o h' ⟨z1, z2⟩ => by subst z1; exact qn _ _ z2) z
theorem S_Xp {c : PX (Option Value)} (h1 : Eo cc κ 0 pc pc1 c) (hd : decode cc pc1 = .ok (.pop, 1)) : Ex cc κ pc (pc1 + 1) pB pC (sXp c) :=
  fun ls h kn kb kc kr qn qb qc qr z => h1 ls [] h _ (Nat.le_refl 0) (fun o h' ⟨⟨x, z1⟩, z2⟩ => by subst z1; exact r_pop hd rfl (qn _ _ z2)) z
theorem S_if1 {c : PX Bool} {a : PS} (h1 : Cd cc κ 0 pc pT pF c) (h2 : Ex cc κ pT pF pB pC a) : Ex cc κ pc pF pB pC (sIf c a sSk) :=
  fun ls h kn kb kc kr qn qb qc qr z => h1 ls [] h _ (Nat.le_refl 0) (fun h' z => h2 ls h' kn kb kc kr qn qb qc qr z) (fun h' z => qn _ _ z) z
theorem S_if2 {c : PX Bool} {a b : PS} (h1 : Cd cc κ 0 pc pT pF c) (h2 : Ex cc κ pT pN pB pC a) (h3 : Ex cc κ pF pN pB pC b) : Ex cc κ pc pN pB pC (sIf c a b) :=
  fun ls h kn kb kc kr qn qb qc qr z => h1 ls [] h _ (Nat.le_refl 0) (fun h' z => h2 ls h' kn kb kc kr qn qb qc qr z) (fun h' z => h3 ls h' kn kb kc kr qn qb qc qr z) z
theorem S_lp {n : Nat} {c : PX Bool} {b st : PS} (h1 : Cd cc κ 0 pc pT pF c) (h2 : Ex cc κ pT pS pF pS b) (h3 : Ex cc κ pS pG 0 0 st) (hd : decode cc pG = .ok (.goto off, 3)) (ht : (pG : Int) + off = (pc : Int)) : Ex cc κ pc pF pB pC (sLp n c b st) := by
  intro ls h kn kb kc kr qn qb qc qr z
  refine z (fun ls h => wA cc κ pc ls [] h) fun ls h z => ?_
  have step : ∀ ls2 h2, st (fun ls3 h3 => wA cc κ pc (lcut n ls3) [] h3) (fun _ _ => False) (fun _ _ => False) kr ls2 h2 → wA cc κ pS ls2 [] h2 := fun ls2 h2 z => h3 ls2 h2 _ _ _ kr (fun ls3 h3 z => r_goto hd ht (wA_cut n z)) (fun _ _ q => q.elim) (fun _ _ q => q.elim) qr z
  exact h1 ls [] h _ (Nat.le_refl 0) (fun h' z => h2 ls h' _ _ _ kr step (fun ls2 h2 z => wA_cut n (qn _ _ z)) step qr z) (fun h' z => qn _ _ z) z
theorem S_sqb {a : PS} (h1 : Ex cc κ pc pB pB pC a) : Ex cc κ pc pN pB pC (sSq a sBk) :=
  fun ls h kn kb kc kr qn qb qc qr z => h1 ls h kb kb kc kr qb qb qc qr z
theorem S_lp0 {n : Nat} {c : PX Bool} {b : PS} (h1 : Cd cc κ 0 pc pT pF c) (h2 : Ex cc κ pT pc pF pc b) : Ex cc κ pc pF pB pC (sLp n c b sSk) := by
  intro ls h kn kb kc kr qn qb qc qr z
  refine z (fun ls h => wA cc κ pc ls [] h) fun ls h z => ?_
  exact h1 ls [] h _ (Nat.le_refl 0) (fun h' z => h2 ls h' _ _ _ kr (fun ls2 h2 z => wA_cut n z) (fun ls2 h2 z => wA_cut n (qn _ _ z)) (fun ls2 h2 z => wA_cut n z) qr z) (fun h' z => qn _ _ z) z
theorem rk {rm rmc : Room} {maxL : Nat} (hR : k_R κ = rm) (h : (decide (rmc.frames + 1 ≤ rm.frames) && decide (8 + (maxL + 11) + rmc.locals ≤ rm.locals)) = true) : rmc.frames + 1 ≤ (k_R κ).frames ∧ 8 + (maxL + 11) + rmc.locals ≤ (k_R κ).locals := by
  simp only [Bool.and_eq_true, decide_eq_true_eq] at h
  rw [hR]; exact h
theorem rk1 {rm : Room} (hR : k_R κ = rm) (h : (decide (1 ≤ rm.frames) && decide (26 ≤ rm.locals)) = true) : 1 ≤ (k_R κ).frames ∧ 26 ≤ (k_R κ).locals := by
  simp only [Bool.and_eq_true, decide_eq_true_eq] at h
  rw [hR]; exact h
theorem rk2 {rm : Room} (hR : k_R κ = rm) (h : (decide (1 ≤ rm.frames) && decide (20 ≤ rm.locals)) = true) : 1 ≤ (k_R κ).frames ∧ 20 ≤ (k_R κ).locals := by
  simp only [Bool.and_eq_true, decide_eq_true_eq] at h
  rw [hR]; exact h
theorem S_cut {n : Nat} {a : PS} (h1 : Ex cc κ pc pN pB pC a) : Ex cc κ pc pN pB pC (sCut n a) :=
  fun ls h kn kb kc kr qn qb qc qr z => h1 ls h _ kb kc kr (fun ls' h' z => wA_cut n (qn _ _ z)) qb qc qr z
def Exs (cc : ByteArray) (κ : KT) (pE pC : Nat) : List Nat → List PS → Prop
  | [p], [] => p = pE
  | p :: q :: ps, b :: bs => Ex cc κ p q pE pC b ∧ Exs cc κ pE pC (q :: ps) bs
  | _, _ => False
theorem Exs_at {pE : Nat} : ∀ (i : Nat) (ps : List Nat) (bs : List PS), Exs cc κ pE pC ps bs → i ≤ bs.length → Ex cc κ (ps.getD i 0) pE pE pC (sSqs (bs.drop i))
  | 0, [p], [], h, _ => by cases h; exact S_sk
  | 0, p :: q :: ps, b :: bs, h, _ => by
    have := Exs_at 0 (q :: ps) bs h.2 (Nat.zero_le _)
    exact S_sq h.1 this
  | i + 1, p :: q :: ps, b :: bs, h, hi => Exs_at i (q :: ps) bs h.2 (by simpa using hi)
  | i + 1, [p], [], _, hi => absurd hi (by simp)
  | _, [], _, h, _ => by cases h
  | _, [_], _ :: _, h, _ => by cases h
  | _, _ :: _ :: _, [], h, _ => by cases h
theorem ixOf_le (m d : Nat) (v : Int32) (hd : d ≤ m) : ∀ tbl : List (Int32 × Nat), tbl.all (fun q => decide (q.2 ≤ m)) = true → ixOf tbl d v ≤ m
  | [], _ => hd
  | (k, i) :: t, h => by
    simp only [List.all_cons, Bool.and_eq_true, decide_eq_true_eq] at h
    simp only [ixOf]
    split
    · exact h.1
    · exact ixOf_le m d v hd t h.2
theorem S_sw {n : Nat} {e : PX Int32} {tbl : List (Int32 × Nat)} {d : Nat} {pcs : List Nat} {bs : List PS} (h1 : Ev cc κ 0 pc pc1 .int e) (hsw : ∀ ls h x, wA cc κ (pcs.getD (ixOf tbl d x) 0) ls [] h → wA cc κ pc1 ls [.int x] h) (hb : Exs cc κ pN pC pcs bs) (hd : (decide (d ≤ bs.length) && tbl.all (fun q => decide (q.2 ≤ bs.length))) = true) : Ex cc κ pc pN pB pC (sSw n e tbl d bs) := by
  intro ls h kn kb kc kr qn qb qc qr z
  simp only [Bool.and_eq_true, decide_eq_true_eq] at hd
  exact h1 ls [] h _ (Nat.le_refl 0) (fun x h' z => hsw ls h' x (Exs_at _ pcs bs hb (ixOf_le _ d x hd.1 tbl hd.2) ls h' _ _ kc kr (fun ls' h' z => wA_cut n (qn _ _ z)) (fun ls' h' z => wA_cut n (qn _ _ z)) qc qr z)) z
theorem S_ri {e : PX Int32} (hrt : k_rt κ = some .int) (h1 : Ev cc κ 0 pc pc1 .int e) (hd : decode cc pc1 = .ok (.ireturn, 1)) : Ex cc κ pc pN pB pC (sRt .int e) :=
  fun ls h kn kb kc kr qn qb qc qr z => h1 ls [] h _ (Nat.le_refl 0) (fun x h' z => r_ret (o := some (.int x)) (by rw [hrt]; exact ⟨rfl, x, rfl⟩) hd (qr _ _ z)) z
theorem S_rl {e : PX Int64} (hrt : k_rt κ = some .long) (h1 : Ev cc κ 0 pc pc1 .long e) (hd : decode cc pc1 = .ok (.lreturn, 1)) : Ex cc κ pc pN pB pC (sRt .long e) :=
  fun ls h kn kb kc kr qn qb qc qr z => h1 ls [] h _ (Nat.le_refl 0) (fun x h' z => r_ret (o := some (.long x)) (by rw [hrt]; exact ⟨rfl, x, rfl⟩) hd (qr _ _ z)) z
theorem S_rz {e : PX Int32} (hrt : k_rt κ = some .boolean) (h1 : Ev cc κ 0 pc pc1 .int e) (hd : decode cc pc1 = .ok (.ireturn, 1)) : Ex cc κ pc pN pB pC (sRz e) :=
  fun ls h kn kb kc kr qn qb qc qr z => h1 ls [] h _ (Nat.le_refl 0) (fun x h' ⟨z1, z2⟩ => r_ret (o := some (.int x)) (by rw [hrt]; exact ⟨rfl, x, rfl, z1⟩) hd (qr _ _ z2)) z
theorem S_rv (hrt : k_rt κ = none) (hd : decode cc pc = .ok (.return_, 1)) : Ex cc κ pc pN pB pC sRv :=
  fun ls h kn kb kc kr qn qb qc qr z => r_ret (o := none) (by rw [hrt]; exact ⟨rfl, rfl⟩) hd (qr _ _ z)
theorem S_bk0 : Ex cc κ pc pN pc pC sBk := fun _ _ _ _ _ _ _ qb _ _ z => qb _ _ z
theorem S_bk (hd : decode cc pc = .ok (.goto off, 3)) (ht : (pc : Int) + off = (pB : Int)) : Ex cc κ pc pN pB pC sBk := fun _ _ _ _ _ _ _ qb _ _ z => r_goto hd ht (qb _ _ z)
theorem S_ct (hd : decode cc pc = .ok (.goto off, 3)) (ht : (pc : Int) + off = (pC : Int)) : Ex cc κ pc pN pB pC sCt := fun _ _ _ _ _ _ _ _ qc _ z => r_goto hd ht (qc _ _ z)
theorem S_so {own : String} {index : Nat} (hw : Cond.methodLink own index Lib.objectInit ∈ BIG) (hi : Cond.instanceMethod Lib.objectInit ∈ BIG) (hc : Cond.code Lib.objectInit ⟨#[0xb1]⟩ 1 none ∈ BIG) (ho : k_own κ = own) (hR : 1 ≤ (k_R κ).frames ∧ 20 ≤ (k_R κ).locals) (hd0 : decode cc pc = .ok (.aload_n 0, 1)) (hd : decode cc (pc + 1) = .ok (.invokespecial index, 3)) : Ex cc κ pc (pc + 1 + 3) pB pC sSO :=
  fun ls h kn kb kc kr qn qb qc qr ⟨⟨x, z1⟩, z2⟩ => r_aload_n hd0 rfl z1 (r_oinit hw hi hc ho hR (by decide) hd (qn _ _ z2))
theorem S_cp {own : String} {index : Nat} {a b : PX Nat} {i j m : PX Int32} (hw : Cond.methodLink own index arraycopyName ∈ BIG) (hwn : Cond.native arraycopyName ∈ BIG) (hws : Cond.static arraycopyName ∈ BIG) (hwi : Cond.initialized "java/lang/System" ∈ BIG) (ho : k_own κ = own) (hR : 1 ≤ (k_R κ).frames ∧ 26 ≤ (k_R κ).locals)
    (h1 : Ev cc κ 0 pc pc1 .ref a) (h2 : Ev cc κ 1 pc1 pc2 .int i) (h3 : Ev cc κ 2 pc2 pc3 .ref b) (h4 : Ev cc κ 3 pc3 pc4 .int j) (h5 : Ev cc κ 4 pc4 pS .int m) (hd : decode cc pS = .ok (.invokestatic index, 3)) : Ex cc κ pc (pS + 3) pB pC (sCp a i b j m) :=
  fun ls h kn kb kc kr qn qb qc qr z => h1 ls [] h _ (Nat.le_refl 0) (fun r h1 z => h2 ls [.ref r] h1 _ (Nat.le_of_eq rfl) (fun x h2 z => h3 ls [.int x, .ref r] h2 _ (Nat.le_of_eq rfl) (fun q h3 z => h4 ls [.ref q, .int x, .ref r] h3 _ (Nat.le_of_eq rfl) (fun y h4 z => h5 ls [.int y, .ref q, .int x, .ref r] h4 _ (Nat.le_of_eq rfl)
    (fun w h5 ⟨src, dst, z1, z2, z3, z4, z5, z6, z7, z8, z9, z10⟩ => r_copy hw hwn hws hwi ho hR (by decide) z1 z2 z3 z4 z5 z6 z7 z8 z9 hd (qn _ _ z10)) z) z) z) z) z
theorem E_new {own : String} {index index2 d ci n : Nat} {fs : List Value} {y : MethodName} {bytes : ByteArray} {maxL : Nat} {rm : Room} {F : PM} {as : PX LV} {g : Nat × Nat} (hg : g = (k_n0 κ + (k_R κ).cells, k_t0 κ + (k_R κ).slots)) (hF : NewOK own index ci fs) (hc : CallI own index2 y bytes maxL n) (hC : Ctr (k_l κ) y bytes maxL none rm F) (ho : k_own κ = own) (hR : rm.frames + 1 ≤ (k_R κ).frames ∧ 8 + (maxL + 11) + rm.locals ≤ (k_R κ).locals) (h8 : d ≤ 7)
    (hd0 : decode cc pc = .ok (.new index, 3)) (hd1 : decode cc (pc + 3) = .ok (.dup, 1)) (h1 : Ea cc κ (2 + d) (pc + 3 + 1) pc1 as) (hd : decode cc pc1 = .ok (.invokespecial index2, 3)) : Ev cc κ d pc (pc1 + 3) .ref (eNew g ci fs rm n F as) := by
  intro ls st h K hs q ⟨z1, z2, z3⟩
  subst hg
  refine r_new hF ho z1 z2 hd0 (r_dup hd1 rfl (h1 ls (.ref h.length :: .ref h.length :: st) _ _ (by rw [stw_cons, stw_cons, catR]; omega) ?_ z3))
  rintro t h1 ⟨y1, y2, y3, y4⟩
  exact r_callI hc hC ho hR (by rw [stw_cons, catR]; omega) y2 y3 y1 y4 hd (fun o h' ⟨x1, x2⟩ => by subst x1; exact q _ _ x2)
theorem E_abs {own : String} {index d : Nat} {a : PX Int32} (hw : Cond.methodLink own index Lib.Math.abs.name ∈ BIG) (hws : Cond.static Lib.Math.abs.name ∈ BIG) (hwi : Cond.initialized "java/lang/Math" ∈ BIG) (hwc : Cond.code Lib.Math.abs.name Lib.Math.abs.code 1 (some .int) ∈ BIG) (ho : k_own κ = own) (hR : 1 ≤ (k_R κ).frames ∧ 20 ≤ (k_R κ).locals) (h7 : d ≤ 7) (h1 : Ev cc κ d pc pc1 .int a) (hd : decode cc pc1 = .ok (.invokestatic index, 3)) : Ev cc κ d pc (pc1 + 3) .int (e1 (fun x : Int32 => if 0 ≤ x then x else 0 - x) a) :=
  fun ls st h K hs q z => h1 ls st h _ hs (fun x h' z => by
    subst ho
    intro O mls H locs cells slots hL hW
    exact va_mabs O.1 O.2.1 (by rw [O.2.2.1]; exact (Lh_size hL).symm) O.2.2.2.1 (O.2.2.2.2.1 _ hw) (O.2.2.2.2.1 _ hws) (O.2.2.2.2.1 _ hwi) (O.2.2.2.2.1 _ hwc) hR.1 (by rw [stw_cv]; omega) hW.2.2.2.2.2.1 hW.2.2.2.2.2.2 hd (q _ _ z O mls H locs cells slots hL hW)) z
theorem E_NI {d : Nat} {n : PX Int32} {g : Nat × Nat} (hg : g = (k_n0 κ + (k_R κ).cells, k_t0 κ + (k_R κ).slots)) (hw : Cond.arrayClass .int ∈ BIG) (h1 : Ev cc κ d pc pc1 .int n) (hd : decode cc pc1 = .ok (.newarray .int, 2)) : Ev cc κ d pc (pc1 + 2) .ref (eNA g 20 n) :=
  fun ls st h K hs q z => by subst hg; exact h1 ls st h _ hs (fun x h' ⟨z1, z2, z3, z4, z5⟩ => r_newI hw z1 rfl z2 z3 z4 hd (q _ _ z5)) z
theorem E_NZ {d : Nat} {n : PX Int32} {g : Nat × Nat} (hg : g = (k_n0 κ + (k_R κ).cells, k_t0 κ + (k_R κ).slots)) (hw : Cond.arrayClass .boolean ∈ BIG) (h1 : Ev cc κ d pc pc1 .int n) (hd : decode cc pc1 = .ok (.newarray .boolean, 2)) : Ev cc κ d pc (pc1 + 2) .ref (eNA g 21 n) :=
  fun ls st h K hs q z => by subst hg; exact h1 ls st h _ hs (fun x h' ⟨z1, z2, z3, z4, z5⟩ => r_newZ hw z1 rfl z2 z3 z4 hd (q _ _ z5)) z
theorem E_NM {own : String} {index d : Nat} {n : PX Int32} {g : Nat × Nat} (hg : g = (k_n0 κ + (k_R κ).cells, k_t0 κ + (k_R κ).slots)) (hw : Cond.classLink own index "[[I" ∈ BIG) (hwa : Cond.arrayClass .int ∈ BIG) (ho : k_own κ = own) (hd0 : decode cc pc = .ok (.iconst 2, 1)) (h1 : Ev cc κ (1 + d) (pc + 1) pc1 .int n) (hd : decode cc pc1 = .ok (.multianewarray index 2, 4)) : Ev cc κ d pc (pc1 + 4) .ref (eNM g n) :=
  fun ls st h K hs q z => by subst hg; exact r_iconst hd0 rfl (h1 ls (.int 2 :: st) h _ (by rw [stw_cons, catI]; omega) (fun x h' ⟨z1, z2, z3, z4, z5⟩ => r_mna hw hwa ho z1 rfl z2 z3 z4 hd (q _ _ z5)) z)
end SR
/-! from a method's body to its contract -/
def lx : List Value → LV
  | [] => []
  | v :: t => if v.category = 2 then v :: .null :: lx t else v :: lx t
def lini (n : Nat) (vs : List Value) : LV := lx vs ++ List.replicate (n - (lx vs).length) .null
theorem lx_args (G : GT) : ∀ (vs : List Value) (i : Nat) (v : Value) (k : Nat), (lx vs)[i]? = some v → v ≠ .null → (k + i, cv G v) ∈ lv_args k (vs.map (cv G))
  | [], i, v, k, h, _ => by simp [lx] at h
  | w :: t, i, v, k, h, hv => by
    simp only [List.map_cons, lv_args, cv_cat]
    unfold lx at h
    by_cases hc : w.category = 2
    · rw [if_pos hc] at h ⊢
      match i, h with
      | 0, h => simp at h; subst h; exact List.mem_cons_self
      | 1, h => simp at h; exact absurd h.symm hv
      | i + 2, h =>
        simp only [List.getElem?_cons_succ] at h
        have := lx_args G t i v (k + 2) h hv
        rw [show k + 2 + i = k + (i + 2) by omega] at this
        exact List.mem_cons_of_mem _ this
    · rw [if_neg hc] at h ⊢
      match i, h with
      | 0, h => simp at h; subst h; exact List.mem_cons_self
      | i + 1, h =>
        simp only [List.getElem?_cons_succ] at h
        have := lx_args G t i v (k + 1) h hv
        rw [show k + 1 + i = k + (i + 1) by omega] at this
        exact List.mem_cons_of_mem _ this
theorem lx_len (G : GT) : ∀ vs : List Value, (lg_sl (vs.map (cv G))).length = (lx vs).length
  | [] => rfl
  | v :: t => by
    have ih := lx_len G t
    unfold lg_sl at ih ⊢
    simp only [List.map_cons, List.flatMap_cons, List.length_append, ih, cv_cat]
    simp only [lx]
    split <;> simp <;> omega
theorem lini_Lh (G : GT) {n : Nat} {vs : List Value} (h : (lx vs).length ≤ n) : Lh G n ((lg_sl (vs.map (cv G)) ++ List.replicate (n - (lg_sl (vs.map (cv G))).length) Slot.unset).toArray) (lini n vs) := by
  have h0 := lv_entry (vs.map (cv G)) (n := n) (by rw [lx_len]; exact h)
  refine ⟨by unfold lini; rw [List.length_append, List.length_replicate]; omega, h0.1, h0.2.1, fun q hq => ?_⟩
  obtain ⟨v, h1, h2, h3⟩ := asc_mem.mp hq
  have hlt : (lini n vs)[q.1]? = some v := h1
  unfold lini at hlt
  by_cases hl : q.1 < (lx vs).length
  · rw [List.getElem?_append_left hl] at hlt
    have := lx_args G vs q.1 v 0 hlt h2
    rw [Nat.zero_add] at this
    have h5 := h0.2.2 _ this
    rw [h3]
    exact h5
  · rw [List.getElem?_append_right (by omega), List.getElem?_replicate] at hlt
    split at hlt
    · exact absurd (Option.some.inj hlt).symm h2
    · cases hlt
/-- the contract of a method with the body B, out of how its bytecode carries B -/
theorem Ctr_of {l : Launch} {y : MethodName} {bytes : ByteArray} {maxL : Nat} {ret : Option FieldType} {rm : Room} {own : String} {X : PM} {B : Nat × Nat → PS} {KR : HV → (Option Value → HV → Prop) → Option Value → HV → Prop} (hy : plainName y.cls = true) (hown : y.cls = own)
    (hX : ∀ vs h Q, X vs h Q → (lx vs).length ≤ maxL ∧ B (h.length + rm.cells, hsz h + rm.slots) (fun _ _ => False) (fun _ _ => False) (fun _ _ => False) (KR h Q) (lini maxL vs) h)
    (hKR : ∀ h Q o h', KR h Q o h' → (rm.cells = 0 ∧ rm.slots = 0 ∨ h'.length = h.length + rm.cells ∧ hsz h' = hsz h + rm.slots) ∧ Q o h')
    (hrt : ret = none ∨ ret = some .int ∨ ret = some .boolean ∨ ret = some .long)
    (hB : ∀ κ : KT, k_l κ = l → k_own κ = own → k_R κ = rm → k_rt κ = ret → (k_me κ).name = y.name → Ex bytes κ 0 0 0 0 (B (k_n0 κ + (k_R κ).cells, k_t0 κ + (k_R κ).slots))) : Ctr l y bytes maxL ret rm X := by
  subst hown
  intro G vs h Qp hXX
  obtain ⟨hlen, hBB⟩ := hX vs h Qp hXX
  refine Met.ofW (cc := bytes) (maxL := maxL) (ret := ret) hy rfl ?_
  intro p e s m args below meth c s₁ BB hml hv
  obtain ⟨rfl, hWo, hTa⟩ := hv
  have hts0 := atoms_spec (ws := Cond.code y bytes maxL ret :: BIG) BB.pre
  have hr : meth.sig.returnType = ret := BB.returns
  have hlocks := BB.notSynchronized
  rw [lg_entry_eq]
  let κ : KT := (p, l, e, rm, s, m, ((vs.map (cv G)).toArray), below, meth, c, MQ below (mQ G h rm Qp) ((vs.map (cv G)).toArray) s rm.cells rm.slots (g_A G), G, maxL, h.length, hsz h, y.cls, ret, KR h Qp)
  have O : KO bytes κ := by
    refine ⟨BB.exec, BB.bytes, hml, findClass_of_methodNamed BB.named, fun w hw => hts0 w (List.mem_cons_of_mem _ hw), hTa, ?_⟩
    intro pc i o mls H locs cells slots h' hri hd hW hQ0
    have hQ := hKR _ _ _ _ hQ0
    obtain ⟨⟨w1, w2, w3, w4⟩, w5, w6, w7, w8, w9, w10⟩ := id hW
    have w9 : cells ≤ rm.cells := w9
    have w10 : slots ≤ rm.slots := w10
    have w7 : h'.length = h.length + cells := w7
    have w8 : hsz h' = hsz h + slots := w8
    have hq : ∀ t : State, t.heap = H → s.WarmedH t.vm → mQ G h rm Qp ((vs.map (cv G)).toArray) s (.returned (o.map (cv G))) t := fun t ht _ => by
      have e1 : h'.length = h.length + rm.cells ∧ hsz h' = hsz h + rm.slots := by
        rcases hQ.1 with q | q
        · exact ⟨by omega, by omega⟩
        · exact q
      exact ⟨⟨o, h', rfl, hQ.2, by rw [ht]; exact hW.1, e1.1, e1.2⟩, w5.F ht⟩
    have hri : retI ret i o := hri
    refine W.widen w9 w10 ?_
    rcases hrt with rfl | rfl | rfl | rfl
    · obtain ⟨rfl, rfl⟩ := hri
      exact W.vret BB.exec BB.bytes hr hq w5.2.2 hd
    · obtain ⟨rfl, x, rfl⟩ := hri
      exact W.iret BB.exec BB.bytes hr hq w5.2.2 hd
    · obtain ⟨rfl, x, rfl, hx⟩ := hri
      exact W.zret BB.exec BB.bytes hr (by rcases hx with rfl | rfl <;> rfl) hq w5.2.2 hd
    · obtain ⟨rfl, x, rfl⟩ := hri
      exact W.lret BB.exec BB.bytes hr hq w5.2.2 hd
  have key := hB κ rfl rfl rfl rfl (name_of_methodNamed BB.named BB.method).1 (lini maxL vs) h (fun _ _ => False) (fun _ _ => False) (fun _ _ => False) (KR h Qp) (fun _ _ q => q.elim) (fun _ _ q => q.elim) (fun _ _ q => q.elim) (fun _ _ q => q) hBB
  exact key O _ s.heap [] 0 0 (lini_Lh G hlen) ⟨hWo, va_S.rf, rfl, rfl, rfl, Nat.zero_le _, Nat.zero_le _⟩
