section EV
variable {G : Gx} {M : Mx} {n0 nF : Nat} {Q : Qx} {pc : Nat} {ls : List (Nat × Value)} {st : List Value} {n : Nat} {I : Ix} {L : Lx} {R : Rx} {pc' : Nat}
/-- the contract out of the walk -/
theorem Mt.of {as : List Value} (hy : plainName (mY M).cls = true) (hl : (lg_sl as).length ≤ mL M) (hn : n ≤ nF) (h : Ev G M n nF Q 0 (lv_args 0 as) [] n I L R) : Mt G M as n I L R nF Q := by
  refine Met.ofW (cc := mC M) (maxL := mL M) (ret := mR M) hy rfl ?_
  intro p e s m args below meth c s₁ B hml hv
  obtain ⟨rfl, hW, hg⟩ := hv
  have hts := atoms_spec (ws := wsM M) B.pre
  have hC : Cx G M p s m (as.map (gv G)).toArray meth c := ⟨B.exec, B.bytes, B.returns, B.notSynchronized, hml, findClass_of_methodNamed B.named, fun w hw => hts w (List.mem_cons_of_mem _ hw), hg, fun h9 => (name_of_methodNamed B.named B.method).1.trans h9⟩
  have hlen : (lg_sl (as.map (gv G))).length = (lg_sl as).length := by
    clear h hl hW hg hts hC B hml
    induction as with
    | nil => rfl
    | cons v as ih =>
      simp only [lg_sl, List.map_cons, List.flatMap_cons, List.length_append] at ih ⊢
      rw [ih, gv_cat]
      split <;> rfl
  have hls := lv_entry (as.map (gv G)) (n := mL M) (by rw [hlen]; exact hl)
  rw [lg_entry_eq]
  generalize (lg_sl (as.map (gv G)) ++ List.replicate (mL M - (lg_sl (as.map (gv G))).length) Slot.unset).toArray = la at hls ⊢
  rw [lv_args_map] at hls
  have h1 := h p e s m _ below meth c hC s.heap [] la hW va_S.rf hls (Nat.le_refl _) hn
  simp only [Nat.sub_self] at h1
  exact h1
theorem Ev.pcEq {a b : Nat} (h : a = b) (kk : Ev G M n0 nF Q b ls st n I L R) : Ev G M n0 nF Q a ls st n I L R := h ▸ kk
/-- fewer locals, by their places -/
theorem Ev.sub {ls' : List (Nat × Value)} (ks : List Nat) (hl : lv_pick ls ks = ls') (kk : Ev G M n0 nF Q pc ls' st n I L R) : Ev G M n0 nF Q pc ls st n I L R := by
  intro p e s m args below meth c hC H locs la hW hS h h0 hF
  refine kk p e s m args below meth c hC H locs la hW hS ?_ h0 hF
  subst hl
  refine ⟨h.1, h.2.1, fun q hq => ?_⟩
  obtain ⟨q0, hq0, rfl⟩ := List.mem_map.mp hq
  obtain ⟨k, -, hk⟩ := List.mem_filterMap.mp hq0
  exact h.2.2 _ (List.mem_map.mpr ⟨q0, List.mem_of_getElem? hk, rfl⟩)
theorem gp_at {k i : Nat} {v : Value} (h : ls[k]? = some (i, v)) : (ls.map (gp G))[k]? = some (i, gv G v) := by simp [List.getElem?_map, h, gp]
theorem Ev.iload {i k : Nat} {x : Int32} (hd : decode (mC M) pc = .ok (.iload i, 2)) (hp : pc + 2 = pc') (hl : ls[k]? = some (i, .int x)) (kk : Ev G M n0 nF Q pc' ls (.int x :: st) n I L R) : Ev G M n0 nF Q pc ls st n I L R := by
  subst hp; intro p e s m args below meth c hC H locs la hW hS h h0 hF
  exact lv_iload hC.1 hC.2.1 hd (lv_at h k (gp_at hl)) (kk p e s m args below meth c hC H locs la hW hS h h0 hF)
theorem Ev.iload_n {j : Fin 4} {i k : Nat} {x : Int32} (hd : decode (mC M) pc = .ok (.iload_n j, 1)) (hi : (j : Nat) = i) (hp : pc + 1 = pc') (hl : ls[k]? = some (i, .int x)) (kk : Ev G M n0 nF Q pc' ls (.int x :: st) n I L R) : Ev G M n0 nF Q pc ls st n I L R := by
  subst hp; intro p e s m args below meth c hC H locs la hW hS h h0 hF
  exact lv_iload_n hC.1 hC.2.1 hd hi (lv_at h k (gp_at hl)) (kk p e s m args below meth c hC H locs la hW hS h h0 hF)
theorem Ev.lload {i k : Nat} {x : Int64} (hd : decode (mC M) pc = .ok (.lload i, 2)) (hp : pc + 2 = pc') (hl : ls[k]? = some (i, .long x)) (kk : Ev G M n0 nF Q pc' ls (.long x :: st) n I L R) : Ev G M n0 nF Q pc ls st n I L R := by
  subst hp; intro p e s m args below meth c hC H locs la hW hS h h0 hF
  exact lv_lload hC.1 hC.2.1 hd (lv_at h k (gp_at hl)) (kk p e s m args below meth c hC H locs la hW hS h h0 hF)
theorem Ev.lload_n {j : Fin 4} {i k : Nat} {x : Int64} (hd : decode (mC M) pc = .ok (.lload_n j, 1)) (hi : (j : Nat) = i) (hp : pc + 1 = pc') (hl : ls[k]? = some (i, .long x)) (kk : Ev G M n0 nF Q pc' ls (.long x :: st) n I L R) : Ev G M n0 nF Q pc ls st n I L R := by
  subst hp; intro p e s m args below meth c hC H locs la hW hS h h0 hF
  exact lv_lload_n hC.1 hC.2.1 hd hi (lv_at h k (gp_at hl)) (kk p e s m args below meth c hC H locs la hW hS h h0 hF)
theorem Ev.aload_n {j : Fin 4} {i k : Nat} {x : Nat} (hd : decode (mC M) pc = .ok (.aload_n j, 1)) (hi : (j : Nat) = i) (hp : pc + 1 = pc') (hl : ls[k]? = some (i, .ref x)) (kk : Ev G M n0 nF Q pc' ls (.ref x :: st) n I L R) : Ev G M n0 nF Q pc ls st n I L R := by
  subst hp; intro p e s m args below meth c hC H locs la hW hS h h0 hF
  exact lv_aload_n hC.1 hC.2.1 hd hi (lv_at h k (gp_at hl)) (kk p e s m args below meth c hC H locs la hW hS h h0 hF)
def lf1 (i : Nat) (q : Nat × Value) : Bool := !(q.1 == i) && !(q.1 + 1 == i && q.2.category == 2)
def lf2 (i : Nat) (q : Nat × Value) : Bool := !(q.1 == i) && (!(q.1 == i + 1) && !(q.1 + 1 == i && q.2.category == 2))
theorem lf1_map {i : Nat} {v : Value} {ls ls' : List (Nat × Value)} (h : (i, v) :: ls.filter (lf1 i) = ls') : (i, gv G v) :: (ls.map (gp G)).filter (fun q => !(q.1 == i) && !(q.1 + 1 == i && q.2.category == 2)) = ls'.map (gp G) := by
  subst h
  rw [List.filter_map, List.map_cons]
  congr 1
  congr 1
  refine List.filter_congr fun q _ => ?_
  simp [gp, gv_cat, lf1]
theorem lf2_map {i : Nat} {v : Value} {ls ls' : List (Nat × Value)} (h : (i, v) :: ls.filter (lf2 i) = ls') : (i, gv G v) :: (ls.map (gp G)).filter (fun q => !(q.1 == i) && (!(q.1 == i + 1) && !(q.1 + 1 == i && q.2.category == 2))) = ls'.map (gp G) := by
  subst h
  rw [List.filter_map, List.map_cons]
  congr 1
  congr 1
  refine List.filter_congr fun q _ => ?_
  simp [gp, gv_cat, lf2]
theorem Ev.istore {i : Nat} {x : Int32} {ls' : List (Nat × Value)} (hd : decode (mC M) pc = .ok (.istore i, 2)) (hp : pc + 2 = pc') (hn : i < mL M) (hl : (i, .int x) :: ls.filter (lf1 i) = ls') (kk : Ev G M n0 nF Q pc' ls' st n I L R) : Ev G M n0 nF Q pc ls (.int x :: st) n I L R := by
  subst hp; intro p e s m args below meth c hC H locs la hW hS h h0 hF
  exact lv_istore hC.1 hC.2.1 hd h hn (lf1_map hl) fun la' h' => kk p e s m args below meth c hC H locs la' hW hS h' h0 hF
theorem Ev.istore_n {j : Fin 4} {i : Nat} {x : Int32} {ls' : List (Nat × Value)} (hd : decode (mC M) pc = .ok (.istore_n j, 1)) (hi : (j : Nat) = i) (hp : pc + 1 = pc') (hn : i < mL M) (hl : (i, .int x) :: ls.filter (lf1 i) = ls') (kk : Ev G M n0 nF Q pc' ls' st n I L R) : Ev G M n0 nF Q pc ls (.int x :: st) n I L R := by
  subst hp; intro p e s m args below meth c hC H locs la hW hS h h0 hF
  exact lv_istore_n hC.1 hC.2.1 hd hi h hn (lf1_map hl) fun la' h' => kk p e s m args below meth c hC H locs la' hW hS h' h0 hF
theorem Ev.lstore {i : Nat} {x : Int64} {ls' : List (Nat × Value)} (hd : decode (mC M) pc = .ok (.lstore i, 2)) (hp : pc + 2 = pc') (hn : i + 1 < mL M) (hl : (i, .long x) :: ls.filter (lf2 i) = ls') (kk : Ev G M n0 nF Q pc' ls' st n I L R) : Ev G M n0 nF Q pc ls (.long x :: st) n I L R := by
  subst hp; intro p e s m args below meth c hC H locs la hW hS h h0 hF
  exact lv_lstore hC.1 hC.2.1 hd h hn (lf2_map hl) fun la' h' => kk p e s m args below meth c hC H locs la' hW hS h' h0 hF
theorem Ev.lstore_n {j : Fin 4} {i : Nat} {x : Int64} {ls' : List (Nat × Value)} (hd : decode (mC M) pc = .ok (.lstore_n j, 1)) (hi : (j : Nat) = i) (hp : pc + 1 = pc') (hn : i + 1 < mL M) (hl : (i, .long x) :: ls.filter (lf2 i) = ls') (kk : Ev G M n0 nF Q pc' ls' st n I L R) : Ev G M n0 nF Q pc ls (.long x :: st) n I L R := by
  subst hp; intro p e s m args below meth c hC H locs la hW hS h h0 hF
  exact lv_lstore_n hC.1 hC.2.1 hd hi h hn (lf2_map hl) fun la' h' => kk p e s m args below meth c hC H locs la' hW hS h' h0 hF
theorem Ev.iinc {i k : Nat} {d : Int} {x v : Int32} {ls' : List (Nat × Value)} (hd : decode (mC M) pc = .ok (.iinc i d, 3)) (hp : pc + 3 = pc') (hk : ls[k]? = some (i, .int x)) (hv : x + Int32.ofInt d = v) (hn : i < mL M) (hl : (i, .int v) :: ls.filter (lf1 i) = ls') (kk : Ev G M n0 nF Q pc' ls' st n I L R) : Ev G M n0 nF Q pc ls st n I L R := by
  subst hp; intro p e s m args below meth c hC H locs la hW hS h h0 hF
  exact lv_iinc hC.1 hC.2.1 hd h (gp_at hk) hv hn (lf1_map hl) fun la' h' => kk p e s m args below meth c hC H locs la' hW hS h' h0 hF
theorem Ev.iconst {d : Int} {v : Int32} (hd : decode (mC M) pc = .ok (.iconst d, 1)) (hp : pc + 1 = pc') (hv : Int32.ofInt d = v) (kk : Ev G M n0 nF Q pc' ls (.int v :: st) n I L R) : Ev G M n0 nF Q pc ls st n I L R := by
  subst hp; intro p e s m args below meth c hC H locs la hW hS h h0 hF
  exact lv_iconst hC.1 hC.2.1 hd hv (kk p e s m args below meth c hC H locs la hW hS h h0 hF)
theorem Ev.bipush {d : Int} {v : Int32} (hd : decode (mC M) pc = .ok (.bipush d, 2)) (hp : pc + 2 = pc') (hv : (Int8.ofInt d).toInt32 = v) (kk : Ev G M n0 nF Q pc' ls (.int v :: st) n I L R) : Ev G M n0 nF Q pc ls st n I L R := by
  subst hp; intro p e s m args below meth c hC H locs la hW hS h h0 hF
  exact lv_bipush hC.1 hC.2.1 hd hv (kk p e s m args below meth c hC H locs la hW hS h h0 hF)
theorem Ev.sipush {d : Int} {v : Int32} (hd : decode (mC M) pc = .ok (.sipush d, 3)) (hp : pc + 3 = pc') (hv : (Int16.ofInt d).toInt32 = v) (kk : Ev G M n0 nF Q pc' ls (.int v :: st) n I L R) : Ev G M n0 nF Q pc ls st n I L R := by
  subst hp; intro p e s m args below meth c hC H locs la hW hS h h0 hF
  exact lv_sipush hC.1 hC.2.1 hd hv (kk p e s m args below meth c hC H locs la hW hS h h0 hF)
theorem Ev.lconst {d : Fin 2} {v : Int64} (hd : decode (mC M) pc = .ok (.lconst d, 1)) (hp : pc + 1 = pc') (hv : Int64.ofNat (d : Nat) = v) (kk : Ev G M n0 nF Q pc' ls (.long v :: st) n I L R) : Ev G M n0 nF Q pc ls st n I L R := by
  subst hp; intro p e s m args below meth c hC H locs la hW hS h h0 hF
  exact lv_lconst hC.1 hC.2.1 hd hv (kk p e s m args below meth c hC H locs la hW hS h h0 hF)
theorem Ev.ldc {i : Nat} {v : Int32} (hd : decode (mC M) pc = .ok (.ldc i, 2)) (hp : pc + 2 = pc') (hw : Cond.constant (mY M).cls i v ∈ tbg) (kk : Ev G M n0 nF Q pc' ls (.int v :: st) n I L R) : Ev G M n0 nF Q pc ls st n I L R := by
  subst hp; intro p e s m args below meth c hC H locs la hW hS h h0 hF
  exact lv_ldc hC.1 hC.2.1 hC.2.2.2.2.2.1 (hC.2.2.2.2.2.2.1 _ hw) hd (kk p e s m args below meth c hC H locs la hW hS h h0 hF)
theorem Ev.ldc2 {i : Nat} {v : Int64} (hd : decode (mC M) pc = .ok (.ldc2_w i, 3)) (hp : pc + 3 = pc') (hw : Cond.constantLong (mY M).cls i v ∈ tbg) (kk : Ev G M n0 nF Q pc' ls (.long v :: st) n I L R) : Ev G M n0 nF Q pc ls st n I L R := by
  subst hp; intro p e s m args below meth c hC H locs la hW hS h h0 hF
  exact lv_ldc2 hC.1 hC.2.1 hC.2.2.2.2.2.1 (hC.2.2.2.2.2.2.1 _ hw) hd (kk p e s m args below meth c hC H locs la hW hS h h0 hF)
theorem Ev.iadd {x y : Int32} (hd : decode (mC M) pc = .ok (.iadd, 1)) (hp : pc + 1 = pc') (kk : Ev G M n0 nF Q pc' ls (.int (x + y) :: st) n I L R) : Ev G M n0 nF Q pc ls (.int y :: .int x :: st) n I L R := by
  subst hp; intro p e s m args below meth c hC H locs la hW hS h h0 hF
  exact lv_iadd hC.1 hC.2.1 hd (kk p e s m args below meth c hC H locs la hW hS h h0 hF)
theorem Ev.isub {x y : Int32} (hd : decode (mC M) pc = .ok (.isub, 1)) (hp : pc + 1 = pc') (kk : Ev G M n0 nF Q pc' ls (.int (x - y) :: st) n I L R) : Ev G M n0 nF Q pc ls (.int y :: .int x :: st) n I L R := by
  subst hp; intro p e s m args below meth c hC H locs la hW hS h h0 hF
  exact lv_isub hC.1 hC.2.1 hd (kk p e s m args below meth c hC H locs la hW hS h h0 hF)
theorem Ev.imul {x y : Int32} (hd : decode (mC M) pc = .ok (.imul, 1)) (hp : pc + 1 = pc') (kk : Ev G M n0 nF Q pc' ls (.int (x * y) :: st) n I L R) : Ev G M n0 nF Q pc ls (.int y :: .int x :: st) n I L R := by
  subst hp; intro p e s m args below meth c hC H locs la hW hS h h0 hF
  exact lv_imul hC.1 hC.2.1 hd (kk p e s m args below meth c hC H locs la hW hS h h0 hF)
theorem Ev.iand {x y : Int32} (hd : decode (mC M) pc = .ok (.iand, 1)) (hp : pc + 1 = pc') (kk : Ev G M n0 nF Q pc' ls (.int (x &&& y) :: st) n I L R) : Ev G M n0 nF Q pc ls (.int y :: .int x :: st) n I L R := by
  subst hp; intro p e s m args below meth c hC H locs la hW hS h h0 hF
  exact lv_iand hC.1 hC.2.1 hd (kk p e s m args below meth c hC H locs la hW hS h h0 hF)
theorem Ev.ior {x y : Int32} (hd : decode (mC M) pc = .ok (.ior, 1)) (hp : pc + 1 = pc') (kk : Ev G M n0 nF Q pc' ls (.int (x ||| y) :: st) n I L R) : Ev G M n0 nF Q pc ls (.int y :: .int x :: st) n I L R := by
  subst hp; intro p e s m args below meth c hC H locs la hW hS h h0 hF
  exact lv_ior hC.1 hC.2.1 hd (kk p e s m args below meth c hC H locs la hW hS h h0 hF)
theorem Ev.ishl {x y : Int32} (hd : decode (mC M) pc = .ok (.ishl, 1)) (hp : pc + 1 = pc') (kk : Ev G M n0 nF Q pc' ls (.int (jshl x y) :: st) n I L R) : Ev G M n0 nF Q pc ls (.int y :: .int x :: st) n I L R := by
  subst hp; intro p e s m args below meth c hC H locs la hW hS h h0 hF
  exact lv_ishl hC.1 hC.2.1 hd (kk p e s m args below meth c hC H locs la hW hS h h0 hF)
theorem Ev.ishr {x y : Int32} (hd : decode (mC M) pc = .ok (.ishr, 1)) (hp : pc + 1 = pc') (kk : Ev G M n0 nF Q pc' ls (.int (jshr x y) :: st) n I L R) : Ev G M n0 nF Q pc ls (.int y :: .int x :: st) n I L R := by
  subst hp; intro p e s m args below meth c hC H locs la hW hS h h0 hF
  exact lv_ishr hC.1 hC.2.1 hd (kk p e s m args below meth c hC H locs la hW hS h h0 hF)
theorem Ev.iushr {x y : Int32} (hd : decode (mC M) pc = .ok (.iushr, 1)) (hp : pc + 1 = pc') (kk : Ev G M n0 nF Q pc' ls (.int (jush x y) :: st) n I L R) : Ev G M n0 nF Q pc ls (.int y :: .int x :: st) n I L R := by
  subst hp; intro p e s m args below meth c hC H locs la hW hS h h0 hF
  exact lv_iushr hC.1 hC.2.1 hd rfl (kk p e s m args below meth c hC H locs la hW hS h h0 hF)
theorem Ev.idiv {x y : Int32} (hd : decode (mC M) pc = .ok (.idiv, 1)) (hp : pc + 1 = pc') (hne : ¬ y = 0) (kk : Ev G M n0 nF Q pc' ls (.int (x / y) :: st) n I L R) : Ev G M n0 nF Q pc ls (.int y :: .int x :: st) n I L R := by
  subst hp; intro p e s m args below meth c hC H locs la hW hS h h0 hF
  exact lv_idiv hC.1 hC.2.1 hd hne (kk p e s m args below meth c hC H locs la hW hS h h0 hF)
theorem Ev.irem {x y : Int32} (hd : decode (mC M) pc = .ok (.irem, 1)) (hp : pc + 1 = pc') (hne : ¬ y = 0) (kk : Ev G M n0 nF Q pc' ls (.int (jrem x y) :: st) n I L R) : Ev G M n0 nF Q pc ls (.int y :: .int x :: st) n I L R := by
  subst hp; intro p e s m args below meth c hC H locs la hW hS h h0 hF
  exact lv_irem hC.1 hC.2.1 hd hne (kk p e s m args below meth c hC H locs la hW hS h h0 hF)
theorem Ev.ladd {x y : Int64} (hd : decode (mC M) pc = .ok (.ladd, 1)) (hp : pc + 1 = pc') (kk : Ev G M n0 nF Q pc' ls (.long (x + y) :: st) n I L R) : Ev G M n0 nF Q pc ls (.long y :: .long x :: st) n I L R := by
  subst hp; intro p e s m args below meth c hC H locs la hW hS h h0 hF
  exact lv_ladd hC.1 hC.2.1 hd (kk p e s m args below meth c hC H locs la hW hS h h0 hF)
theorem Ev.lmul {x y : Int64} (hd : decode (mC M) pc = .ok (.lmul, 1)) (hp : pc + 1 = pc') (kk : Ev G M n0 nF Q pc' ls (.long (x * y) :: st) n I L R) : Ev G M n0 nF Q pc ls (.long y :: .long x :: st) n I L R := by
  subst hp; intro p e s m args below meth c hC H locs la hW hS h h0 hF
  exact lv_lmul hC.1 hC.2.1 hd (kk p e s m args below meth c hC H locs la hW hS h h0 hF)
theorem Ev.lor {x y : Int64} (hd : decode (mC M) pc = .ok (.lor, 1)) (hp : pc + 1 = pc') (kk : Ev G M n0 nF Q pc' ls (.long (x ||| y) :: st) n I L R) : Ev G M n0 nF Q pc ls (.long y :: .long x :: st) n I L R := by
  subst hp; intro p e s m args below meth c hC H locs la hW hS h h0 hF
  exact lv_lor hC.1 hC.2.1 hd (kk p e s m args below meth c hC H locs la hW hS h h0 hF)
theorem Ev.ldiv {x y : Int64} (hd : decode (mC M) pc = .ok (.ldiv, 1)) (hp : pc + 1 = pc') (hne : ¬ y = 0) (kk : Ev G M n0 nF Q pc' ls (.long (x / y) :: st) n I L R) : Ev G M n0 nF Q pc ls (.long y :: .long x :: st) n I L R := by
  subst hp; intro p e s m args below meth c hC H locs la hW hS h h0 hF
  exact lv_ldiv hC.1 hC.2.1 hd hne (kk p e s m args below meth c hC H locs la hW hS h h0 hF)
theorem Ev.lrem {x y : Int64} (hd : decode (mC M) pc = .ok (.lrem, 1)) (hp : pc + 1 = pc') (hne : ¬ y = 0) (kk : Ev G M n0 nF Q pc' ls (.long (jlrem x y) :: st) n I L R) : Ev G M n0 nF Q pc ls (.long y :: .long x :: st) n I L R := by
  subst hp; intro p e s m args below meth c hC H locs la hW hS h h0 hF
  exact lv_lrem hC.1 hC.2.1 hd hne (kk p e s m args below meth c hC H locs la hW hS h h0 hF)
theorem Ev.lshl {x : Int64} {y : Int32} (hd : decode (mC M) pc = .ok (.lshl, 1)) (hp : pc + 1 = pc') (kk : Ev G M n0 nF Q pc' ls (.long (jlshl x y) :: st) n I L R) : Ev G M n0 nF Q pc ls (.int y :: .long x :: st) n I L R := by
  subst hp; intro p e s m args below meth c hC H locs la hW hS h h0 hF
  exact lv_lshl hC.1 hC.2.1 hd rfl (kk p e s m args below meth c hC H locs la hW hS h h0 hF)
theorem Ev.lcmp {x y : Int64} (hd : decode (mC M) pc = .ok (.lcmp, 1)) (hp : pc + 1 = pc') (kk : Ev G M n0 nF Q pc' ls (.int (lg_cmp x y) :: st) n I L R) : Ev G M n0 nF Q pc ls (.long y :: .long x :: st) n I L R := by
  subst hp; intro p e s m args below meth c hC H locs la hW hS h h0 hF
  exact W.lcmp hC.1 hC.2.1 hd (kk p e s m args below meth c hC H locs la hW hS h h0 hF)
theorem Ev.i2l {x : Int32} (hd : decode (mC M) pc = .ok (.i2l, 1)) (hp : pc + 1 = pc') (kk : Ev G M n0 nF Q pc' ls (.long x.toInt64 :: st) n I L R) : Ev G M n0 nF Q pc ls (.int x :: st) n I L R := by
  subst hp; intro p e s m args below meth c hC H locs la hW hS h h0 hF
  exact lv_i2l hC.1 hC.2.1 hd rfl (kk p e s m args below meth c hC H locs la hW hS h h0 hF)
theorem Ev.l2i {x : Int64} (hd : decode (mC M) pc = .ok (.l2i, 1)) (hp : pc + 1 = pc') (kk : Ev G M n0 nF Q pc' ls (.int x.toInt32 :: st) n I L R) : Ev G M n0 nF Q pc ls (.long x :: st) n I L R := by
  subst hp; intro p e s m args below meth c hC H locs la hW hS h h0 hF
  exact lv_l2i hC.1 hC.2.1 hd rfl (kk p e s m args below meth c hC H locs la hW hS h h0 hF)
theorem Ev.i2b {x : Int32} (hd : decode (mC M) pc = .ok (.i2b, 1)) (hp : pc + 1 = pc') (kk : Ev G M n0 nF Q pc' ls (.int x.toInt8.toInt32 :: st) n I L R) : Ev G M n0 nF Q pc ls (.int x :: st) n I L R := by
  subst hp; intro p e s m args below meth c hC H locs la hW hS h h0 hF
  exact lv_i2b hC.1 hC.2.1 hd rfl (kk p e s m args below meth c hC H locs la hW hS h h0 hF)
theorem Ev.dup {v : Value} (hd : decode (mC M) pc = .ok (.dup, 1)) (hp : pc + 1 = pc') (hv : v.category = 1) (kk : Ev G M n0 nF Q pc' ls (v :: v :: st) n I L R) : Ev G M n0 nF Q pc ls (v :: st) n I L R := by
  subst hp; intro p e s m args below meth c hC H locs la hW hS h h0 hF
  exact lv_dup hC.1 hC.2.1 hd (by rw [gv_cat]; exact hv) (kk p e s m args below meth c hC H locs la hW hS h h0 hF)
theorem Ev.dup2 {v w : Value} (hd : decode (mC M) pc = .ok (.dup2, 1)) (hp : pc + 1 = pc') (hv : v.category = 1) (hw : w.category = 1) (kk : Ev G M n0 nF Q pc' ls (v :: w :: v :: w :: st) n I L R) : Ev G M n0 nF Q pc ls (v :: w :: st) n I L R := by
  subst hp; intro p e s m args below meth c hC H locs la hW hS h h0 hF
  exact lv_dup2_11 hC.1 hC.2.1 hd (by rw [gv_cat]; exact hv) (by rw [gv_cat]; exact hw) (kk p e s m args below meth c hC H locs la hW hS h h0 hF)
theorem Ev.pop {v : Value} (hd : decode (mC M) pc = .ok (.pop, 1)) (hp : pc + 1 = pc') (hv : v.category = 1) (kk : Ev G M n0 nF Q pc' ls (st) n I L R) : Ev G M n0 nF Q pc ls (v :: st) n I L R := by
  subst hp; intro p e s m args below meth c hC H locs la hW hS h h0 hF
  exact lv_pop hC.1 hC.2.1 hd (by rw [gv_cat]; exact hv) (kk p e s m args below meth c hC H locs la hW hS h h0 hF)
theorem Ev.icmp_eq {x y : Int32} {off : Int} {tgt : Nat} (hd : decode (mC M) pc = .ok (.if_icmp .eq off, 3)) (ht : (pc : Int) + off = (tgt : Int)) (hp : pc + 3 = pc') (kt : x = y → Ev G M n0 nF Q tgt ls st n I L R) (kf : ¬ x = y → Ev G M n0 nF Q pc' ls st n I L R) : Ev G M n0 nF Q pc ls (.int y :: .int x :: st) n I L R := by
  subst hp; intro p e s m args below meth c hC H locs la hW hS h h0 hF
  exact lv_icmp_eq hC.1 hC.2.1 hd ht (fun q => kt q p e s m args below meth c hC H locs la hW hS h h0 hF) (fun q => kf q p e s m args below meth c hC H locs la hW hS h h0 hF)
theorem Ev.if_eq {x : Int32} {off : Int} {tgt : Nat} (hd : decode (mC M) pc = .ok (.ifCond .eq off, 3)) (ht : (pc : Int) + off = (tgt : Int)) (hp : pc + 3 = pc') (kt : x = 0 → Ev G M n0 nF Q tgt ls st n I L R) (kf : ¬ x = 0 → Ev G M n0 nF Q pc' ls st n I L R) : Ev G M n0 nF Q pc ls (.int x :: st) n I L R := by
  subst hp; intro p e s m args below meth c hC H locs la hW hS h h0 hF
  exact lv_if_eq hC.1 hC.2.1 hd ht (fun q => kt q p e s m args below meth c hC H locs la hW hS h h0 hF) (fun q => kf q p e s m args below meth c hC H locs la hW hS h h0 hF)
theorem Ev.icmp_ne {x y : Int32} {off : Int} {tgt : Nat} (hd : decode (mC M) pc = .ok (.if_icmp .ne off, 3)) (ht : (pc : Int) + off = (tgt : Int)) (hp : pc + 3 = pc') (kt : ¬ x = y → Ev G M n0 nF Q tgt ls st n I L R) (kf : x = y → Ev G M n0 nF Q pc' ls st n I L R) : Ev G M n0 nF Q pc ls (.int y :: .int x :: st) n I L R := by
  subst hp; intro p e s m args below meth c hC H locs la hW hS h h0 hF
  exact lv_icmp_ne hC.1 hC.2.1 hd ht (fun q => kt q p e s m args below meth c hC H locs la hW hS h h0 hF) (fun q => kf q p e s m args below meth c hC H locs la hW hS h h0 hF)
theorem Ev.if_ne {x : Int32} {off : Int} {tgt : Nat} (hd : decode (mC M) pc = .ok (.ifCond .ne off, 3)) (ht : (pc : Int) + off = (tgt : Int)) (hp : pc + 3 = pc') (kt : ¬ x = 0 → Ev G M n0 nF Q tgt ls st n I L R) (kf : x = 0 → Ev G M n0 nF Q pc' ls st n I L R) : Ev G M n0 nF Q pc ls (.int x :: st) n I L R := by
  subst hp; intro p e s m args below meth c hC H locs la hW hS h h0 hF
  exact lv_if_ne hC.1 hC.2.1 hd ht (fun q => kt q p e s m args below meth c hC H locs la hW hS h h0 hF) (fun q => kf q p e s m args below meth c hC H locs la hW hS h h0 hF)
theorem Ev.icmp_lt {x y : Int32} {off : Int} {tgt : Nat} (hd : decode (mC M) pc = .ok (.if_icmp .lt off, 3)) (ht : (pc : Int) + off = (tgt : Int)) (hp : pc + 3 = pc') (kt : x < y → Ev G M n0 nF Q tgt ls st n I L R) (kf : ¬ x < y → Ev G M n0 nF Q pc' ls st n I L R) : Ev G M n0 nF Q pc ls (.int y :: .int x :: st) n I L R := by
  subst hp; intro p e s m args below meth c hC H locs la hW hS h h0 hF
  exact lv_icmp_lt hC.1 hC.2.1 hd ht (fun q => kt q p e s m args below meth c hC H locs la hW hS h h0 hF) (fun q => kf q p e s m args below meth c hC H locs la hW hS h h0 hF)
theorem Ev.if_lt {x : Int32} {off : Int} {tgt : Nat} (hd : decode (mC M) pc = .ok (.ifCond .lt off, 3)) (ht : (pc : Int) + off = (tgt : Int)) (hp : pc + 3 = pc') (kt : x < 0 → Ev G M n0 nF Q tgt ls st n I L R) (kf : ¬ x < 0 → Ev G M n0 nF Q pc' ls st n I L R) : Ev G M n0 nF Q pc ls (.int x :: st) n I L R := by
  subst hp; intro p e s m args below meth c hC H locs la hW hS h h0 hF
  exact lv_if_lt hC.1 hC.2.1 hd ht (fun q => kt q p e s m args below meth c hC H locs la hW hS h h0 hF) (fun q => kf q p e s m args below meth c hC H locs la hW hS h h0 hF)
theorem Ev.icmp_ge {x y : Int32} {off : Int} {tgt : Nat} (hd : decode (mC M) pc = .ok (.if_icmp .ge off, 3)) (ht : (pc : Int) + off = (tgt : Int)) (hp : pc + 3 = pc') (kt : y ≤ x → Ev G M n0 nF Q tgt ls st n I L R) (kf : ¬ y ≤ x → Ev G M n0 nF Q pc' ls st n I L R) : Ev G M n0 nF Q pc ls (.int y :: .int x :: st) n I L R := by
  subst hp; intro p e s m args below meth c hC H locs la hW hS h h0 hF
  exact lv_icmp_ge hC.1 hC.2.1 hd ht (fun q => kt q p e s m args below meth c hC H locs la hW hS h h0 hF) (fun q => kf q p e s m args below meth c hC H locs la hW hS h h0 hF)
theorem Ev.if_ge {x : Int32} {off : Int} {tgt : Nat} (hd : decode (mC M) pc = .ok (.ifCond .ge off, 3)) (ht : (pc : Int) + off = (tgt : Int)) (hp : pc + 3 = pc') (kt : 0 ≤ x → Ev G M n0 nF Q tgt ls st n I L R) (kf : ¬ 0 ≤ x → Ev G M n0 nF Q pc' ls st n I L R) : Ev G M n0 nF Q pc ls (.int x :: st) n I L R := by
  subst hp; intro p e s m args below meth c hC H locs la hW hS h h0 hF
  exact lv_if_ge hC.1 hC.2.1 hd ht (fun q => kt q p e s m args below meth c hC H locs la hW hS h h0 hF) (fun q => kf q p e s m args below meth c hC H locs la hW hS h h0 hF)
theorem Ev.icmp_gt {x y : Int32} {off : Int} {tgt : Nat} (hd : decode (mC M) pc = .ok (.if_icmp .gt off, 3)) (ht : (pc : Int) + off = (tgt : Int)) (hp : pc + 3 = pc') (kt : y < x → Ev G M n0 nF Q tgt ls st n I L R) (kf : ¬ y < x → Ev G M n0 nF Q pc' ls st n I L R) : Ev G M n0 nF Q pc ls (.int y :: .int x :: st) n I L R := by
  subst hp; intro p e s m args below meth c hC H locs la hW hS h h0 hF
  exact lv_icmp_gt hC.1 hC.2.1 hd ht (fun q => kt q p e s m args below meth c hC H locs la hW hS h h0 hF) (fun q => kf q p e s m args below meth c hC H locs la hW hS h h0 hF)
theorem Ev.if_gt {x : Int32} {off : Int} {tgt : Nat} (hd : decode (mC M) pc = .ok (.ifCond .gt off, 3)) (ht : (pc : Int) + off = (tgt : Int)) (hp : pc + 3 = pc') (kt : 0 < x → Ev G M n0 nF Q tgt ls st n I L R) (kf : ¬ 0 < x → Ev G M n0 nF Q pc' ls st n I L R) : Ev G M n0 nF Q pc ls (.int x :: st) n I L R := by
  subst hp; intro p e s m args below meth c hC H locs la hW hS h h0 hF
  exact lv_if_gt hC.1 hC.2.1 hd ht (fun q => kt q p e s m args below meth c hC H locs la hW hS h h0 hF) (fun q => kf q p e s m args below meth c hC H locs la hW hS h h0 hF)
theorem Ev.icmp_le {x y : Int32} {off : Int} {tgt : Nat} (hd : decode (mC M) pc = .ok (.if_icmp .le off, 3)) (ht : (pc : Int) + off = (tgt : Int)) (hp : pc + 3 = pc') (kt : x ≤ y → Ev G M n0 nF Q tgt ls st n I L R) (kf : ¬ x ≤ y → Ev G M n0 nF Q pc' ls st n I L R) : Ev G M n0 nF Q pc ls (.int y :: .int x :: st) n I L R := by
  subst hp; intro p e s m args below meth c hC H locs la hW hS h h0 hF
  exact lv_icmp_le hC.1 hC.2.1 hd ht (fun q => kt q p e s m args below meth c hC H locs la hW hS h h0 hF) (fun q => kf q p e s m args below meth c hC H locs la hW hS h h0 hF)
theorem Ev.if_le {x : Int32} {off : Int} {tgt : Nat} (hd : decode (mC M) pc = .ok (.ifCond .le off, 3)) (ht : (pc : Int) + off = (tgt : Int)) (hp : pc + 3 = pc') (kt : x ≤ 0 → Ev G M n0 nF Q tgt ls st n I L R) (kf : ¬ x ≤ 0 → Ev G M n0 nF Q pc' ls st n I L R) : Ev G M n0 nF Q pc ls (.int x :: st) n I L R := by
  subst hp; intro p e s m args below meth c hC H locs la hW hS h h0 hF
  exact lv_if_le hC.1 hC.2.1 hd ht (fun q => kt q p e s m args below meth c hC H locs la hW hS h h0 hF) (fun q => kf q p e s m args below meth c hC H locs la hW hS h h0 hF)
theorem Ev.goto {off : Int} {tgt : Nat} (hd : decode (mC M) pc = .ok (.goto off, 3)) (ht : (pc : Int) + off = (tgt : Int)) (kk : Ev G M n0 nF Q tgt ls st n I L R) : Ev G M n0 nF Q pc ls st n I L R := by
  intro p e s m args below meth c hC H locs la hW hS h h0 hF
  exact lv_goto hC.1 hC.2.1 hd ht (kk p e s m args below meth c hC H locs la hW hS h h0 hF)
/-! fields -/
/-- field number j of class number c, of type ty, is what entry idx of the pool of own means -/
def FA (own : String) (idx c j : Nat) (ty : FieldType) (fin : Bool) : Prop := ∃ (C : String) (T : u_T) (N : Nat) (tyT : Nat → FieldType), vwCl[c]? = some (C, T, N) ∧ j < N ∧ Cond.fieldLink own idx (T j).1 (T j).2.1 (T j).2.2.1 ∈ tbg ∧ (∀ w ∈ u_ws C T N, w ∈ tbg) ∧
  (∀ k, k < N → parseFieldDescriptor (T k).2.2.1 = some (tyT k)) ∧ (∀ a, a < N → ∀ b, b < N → a ≠ b → (T a).2.1 ≠ (T b).2.1) ∧ parseFieldDescriptor (T j).2.2.1 = some ty ∧ (T j).2.2.2 = fin ∧ (T j).1 = C ∧ (fkL.getD c []).length = N
/-- cell k is there, an object of class c -/
def OB (n k c : Nat) : Prop := k < n ∧ sk k = c + 10 ∧ sl k = (fkL.getD c []).length
/-- cell k is there, an array of kind t and length N -/
def AR (n k t N : Nat) : Prop := k < n ∧ sk k = t ∧ sl k = N
theorem ent_ob {n k c : Nat} (h : OB n k c) : ent G I L R k = .inr (c, (List.range (fkL.getD c []).length).map (fv G I L R k c)) := by
  unfold ent; rw [h.2.1, h.2.2]
theorem ent_a0 {n k N : Nat} (h : AR n k 0 N) : ent G I L R k = .inl (gC G 0, N, .inl (I k)) := by unfold ent; rw [h.2.1, h.2.2]
theorem ent_a1 {n k N : Nat} (h : AR n k 1 N) : ent G I L R k = .inl (gC G 1, N, .inr (.inl (L k))) := by unfold ent; rw [h.2.1, h.2.2]
theorem ent_a2 {n k N : Nat} (h : AR n k 2 N) : ent G I L R k = .inl (gC G 2, N, .inl (I k)) := by unfold ent; rw [h.2.1, h.2.2]
theorem ent_a3 {n k N : Nat} (h : AR n k 3 N) : ent G I L R k = .inl (gC G 3, N, .inl (I k)) := by unfold ent; rw [h.2.1, h.2.2]
theorem ent_a4 {n k N : Nat} (h : AR n k 4 N) : ent G I L R k = .inl (gC G 4, N, .inr (.inr (.inr (.inr (fun j => (R k j).map (gA G)))))) := by unfold ent; rw [h.2.1, h.2.2]
theorem vpV_map {f : Nat → Value} {N i : Nat} (h : i < N) : vp_V ((List.range N).map f) i = f i := by simp [vp_V, List.getD, List.getElem?_map, List.getElem?_range h]
theorem Ev.getv {idx k c j : Nat} {ty : FieldType} {fin : Bool} {v : Value} (hd : decode (mC M) pc = .ok (.getfield idx, 3)) (hp : pc + 3 = pc') (fa : FA (mY M).cls idx c j ty fin) (ob : OB n k c) (hv : fv G I L R k c j = gv G v) (kk : Ev G M n0 nF Q pc' ls (v :: st) n I L R) : Ev G M n0 nF Q pc ls (.ref k :: st) n I L R := by
  subst hp; intro p e s m args below meth c' hC H locs la hW hS h h0 hF
  obtain ⟨C, T, N, tyT, f1, f2, f3, f4, f5, f6, f7, f8, f9, f10⟩ := fa
  have hk : k < 1000 := Nat.lt_of_lt_of_le (Nat.lt_of_lt_of_le ob.1 hW.2.2) (by decide)
  show W _ _ _ _ _ _ _ _ _ _ _ _ _ _ _ (F0 m pc la (.ref (gA G k) :: st.map (gv G)))
  rw [gA_lt hk]
  have he : (wsx G n I L R)[k]? = some (gb G + k, .inr (c, (List.range (fkL.getD c []).length).map (fv G I L R k c))) := by rw [wsx_get ob.1, ent_ob ob]
  refine va_get (ref := (T j).1) hC.1 hC.2.1 hC.2.2.2.2.2.2.1 f4 hC.2.2.2.2.2.1 hC.2.2.2.2.2.2.2.1.1 hW.1 k he f1 j f2 (hC.2.2.2.2.2.2.1 _ f3) (fun _ h9 => h9) (v := gv G v) ?_ hd (kk p e s m args below meth c' hC H locs la hW hS h h0 hF)
  rw [List.getElem?_map, List.getElem?_range (by rw [f10]; exact f2), Option.map_some, hv]
theorem Ev.getI {idx k c j : Nat} {ty : FieldType} {fin : Bool} (hd : decode (mC M) pc = .ok (.getfield idx, 3)) (hp : pc + 3 = pc') (fa : FA (mY M).cls idx c j ty fin) (ob : OB n k c) (hf : fk c j = 0) (kk : Ev G M n0 nF Q pc' ls (.int (I k j) :: st) n I L R) : Ev G M n0 nF Q pc ls (.ref k :: st) n I L R :=
  Ev.getv hd hp fa ob (v := .int (I k j)) (by unfold fv; rw [hf]; rfl) kk
theorem Ev.getL {idx k c j : Nat} {ty : FieldType} {fin : Bool} (hd : decode (mC M) pc = .ok (.getfield idx, 3)) (hp : pc + 3 = pc') (fa : FA (mY M).cls idx c j ty fin) (ob : OB n k c) (hf : fk c j = 1) (kk : Ev G M n0 nF Q pc' ls (.long (L k j) :: st) n I L R) : Ev G M n0 nF Q pc ls (.ref k :: st) n I L R :=
  Ev.getv hd hp fa ob (v := .long (L k j)) (by unfold fv; rw [hf]; rfl) kk
theorem Ev.getR {idx k c j r : Nat} {ty : FieldType} {fin : Bool} (hd : decode (mC M) pc = .ok (.getfield idx, 3)) (hp : pc + 3 = pc') (fa : FA (mY M).cls idx c j ty fin) (ob : OB n k c) (hf : fk c j = 2) (hr : R k j = some r) (kk : Ev G M n0 nF Q pc' ls (.ref r :: st) n I L R) : Ev G M n0 nF Q pc ls (.ref k :: st) n I L R :=
  Ev.getv hd hp fa ob (v := .ref r) (by unfold fv; rw [hf, hr]; rfl) kk
/-- a field is written: not final, or final in the constructor -/
theorem Ev.putv {idx k c j : Nat} {ty : FieldType} {fin : Bool} {v : Value} {I' : Ix} {L' : Lx} {R' : Rx} (hd : decode (mC M) pc = .ok (.putfield idx, 3)) (hp : pc + 3 = pc') (fa : FA (mY M).cls idx c j ty fin) (ob : OB n k c) (hfin : fin = false ∨ ((mY M).name = "<init>" ∧ (vwCl[c]?).map (fun q => q.1) = some (mY M).cls)) (hn : narrow ty (gv G v) = gv G v) (hfit : fits ty (gv G v) = true)
    (hv : ∀ i, i < (fkL.getD c []).length → fv G I' L' R' k c i = if i = j then gv G v else fv G I L R k c i) (ho : ∀ i, i ≠ k → I' i = I i ∧ L' i = L i ∧ R' i = R i) (kk : Ev G M n0 nF Q pc' ls st n I' L' R') : Ev G M n0 nF Q pc ls (v :: .ref k :: st) n I L R := by
  subst hp; intro p e s m args below meth c' hC H locs la hW hS h h0 hF
  obtain ⟨C, T, N, tyT, f1, f2, f3, f4, f5, f6, f7, f8, f9, f10⟩ := fa
  have hk : k < 1000 := Nat.lt_of_lt_of_le (Nat.lt_of_lt_of_le ob.1 hW.2.2) (by decide)
  show W _ _ _ _ _ _ _ _ _ _ _ _ _ _ _ (F0 m pc la (gv G v :: .ref (gA G k) :: st.map (gv G)))
  rw [gA_lt hk]
  have hts := hC.2.2.2.2.2.2.1
  have hK := hC.2.2.2.2.2.2.2.1.1
  have hown := hC.2.2.2.2.2.1
  have hap := va_apart (own := (mY M).cls) hts f4 tyT f5 f6 hK f1
  have hat := hW.at ob.1
  rw [ent_ob ob] at hat
  obtain ⟨r, h1, cell, q1, q2, q3, q4⟩ := hat
  have hr : r = (C, T, N) := Option.some.inj (h1.symm.trans f1)
  subst hr
  obtain ⟨hSl, hfc, kC, hkC, hkind⟩ := hK.1 c _ f1
  obtain ⟨cf, kf, fi, f, hi, hsl⟩ := hSl j f2
  have hlay := hts _ (f4 _ (u_in_lay f2))
  have hst := (u_facts hfc hkC (u_lays hts f4 f2) hi).1
  have hlink := hts _ f3
  have hend : ∀ H' : Heap, H'[gb G + k]? = some (cell.setSlot f.slot (gv G v)) → H'.size = H.size → (∀ q, q ≠ gb G + k → H'[q]? = H[q]?) → W p (gl G) e (rmM M n0 nF) s m args below meth c' H' (locs ++ [⟨gb G + k, f.slot⟩]) (n - n0) (tot n - tot n0) (MQ below (Qc G Q) args s (nF - n0) (tot nF - tot n0) (gF G)) (F0 m (pc + 3) la (st.map (gv G))) := by
    intro H' e1 e2 e3
    refine kk p e s m args below meth c' hC H' _ la (hW.up ob.1 e2 e3 ?_ fun i hi => ent_ne (ho i hi).1 (ho i hi).2.1 (ho i hi).2.2) (hS.put e2 e3 (Nat.le_add_right _ _)) h h0 hF
    rw [ent_ob ob]
    rw [hsl] at e1
    refine ⟨_, f1, t_OB.to (V := updV (vp_V _) j (gv G v)) ⟨_, e1, q2, q3, t_set q4 hap f2 (gv G v)⟩ (fun i hi => ?_)⟩
    have hi' : i < (fkL.getD c []).length := by rw [f10]; exact hi
    have h9 := hv i hi'
    show updV (vp_V ((List.range _).map _)) j (gv G v) i = vp_V ((List.range _).map _) i
    simp only [updV]
    rw [vpV_map hi', vpV_map hi', h9]
  unfold u_lay at hlay
  cases fin with
  | false =>
    rw [if_neg (by rw [f8]; decide)] at hlay
    have h6 := u_store hfc hkC hkind hlay hi f7 hn hfit
    refine W.putK hC.1 hC.2.1 (f := f) ⟨hown, hlink, ⟨_, _, _, hi⟩, hst⟩ (by rw [q2]; exact h6) q1 q3 (by rw [hsl]; exact k2_hasslot (q4 j f2)) rfl rfl hd fun H' e1 e2 e3 => hend H' e1 e2 e3
  | true =>
    rcases hfin with hfin | ⟨hnm, hcn⟩
    · cases hfin
    rw [if_pos f8] at hlay
    have hown' : (mY M).cls = C := by rw [f1] at hcn; exact (Option.some.inj hcn).symm
    have hcf : m.cls = cf := by
      obtain ⟨_, _, c2, _, _, _, -, -, hf', -, -, -, hown2, -⟩ := Cond.laysFinal_spec hlay
      have e1 : c2 = cf := by have := hi.symm.trans hf'; simp at this; exact this.1.symm
      rw [f9, ← hown'] at hown2
      rw [← e1]; exact Option.some.inj (hown.symm.trans hown2)
    have h6 := u_fits hfc hkC hkind (Or.inr hlay) hi f7 hn hfit
    refine W.putFinK hC.1 hC.2.1 hown hlink hi hst hcf (hC.2.2.2.2.2.2.2.2 hnm) (by rw [q2]; exact h6) q1 q3 (by rw [hsl]; exact k2_hasslot (q4 j f2)) rfl rfl hd fun H' e1 e2 e3 => hend H' e1 e2 e3
theorem Ev.putI {idx k c j : Nat} {ty : FieldType} {x : Int32} (hd : decode (mC M) pc = .ok (.putfield idx, 3)) (hp : pc + 3 = pc') (fa : FA (mY M).cls idx c j ty false) (ob : OB n k c) (hf : fk c j = 0) (hn : narrow ty (.int x) = .int x) (hfit : fits ty (.int x) = true) (kk : ∀ I' : Ix, I' = pu I k j x → Ev G M n0 nF Q pc' ls st n I' L R) : Ev G M n0 nF Q pc ls (.int x :: .ref k :: st) n I L R := by
  have kk := kk _ rfl
  refine Ev.putv hd hp fa ob (Or.inl rfl) (v := .int x) (I' := pu I k j x) (L' := L) (R' := R) hn hfit (fun i _ => ?_) (fun i hi => ⟨pu_ne _ _ _ hi, rfl, rfl⟩) kk
  by_cases h : i = j
  · subst h; simp only [if_true]; unfold fv; rw [hf]; simp only [pu_at, va_up, if_true]; rfl
  · rw [if_neg h]; unfold fv; rw [pu_at]; simp only [va_up, if_neg h]
theorem Ev.putL {idx k c j : Nat} {x : Int64} (hd : decode (mC M) pc = .ok (.putfield idx, 3)) (hp : pc + 3 = pc') (fa : FA (mY M).cls idx c j .long false) (ob : OB n k c) (hf : fk c j = 1) (kk : ∀ L' : Lx, L' = pu L k j x → Ev G M n0 nF Q pc' ls st n I L' R) : Ev G M n0 nF Q pc ls (.long x :: .ref k :: st) n I L R := by
  have kk := kk _ rfl
  refine Ev.putv hd hp fa ob (Or.inl rfl) (v := .long x) (I' := I) (L' := pu L k j x) (R' := R) rfl rfl (fun i _ => ?_) (fun i hi => ⟨rfl, pu_ne _ _ _ hi, rfl⟩) kk
  by_cases h : i = j
  · subst h; simp only [if_true]; unfold fv; rw [hf]; simp only [pu_at, va_up, if_true]; rfl
  · rw [if_neg h]; unfold fv; rw [pu_at]; simp only [va_up, if_neg h]
theorem Ev.putR {idx k c j r : Nat} {ty : FieldType} {fin : Bool} (hd : decode (mC M) pc = .ok (.putfield idx, 3)) (hp : pc + 3 = pc') (fa : FA (mY M).cls idx c j ty fin) (ob : OB n k c) (hf : fk c j = 2) (hfin : fin = false ∨ ((mY M).name = "<init>" ∧ (vwCl[c]?).map (fun q => q.1) = some (mY M).cls)) (hn : ∀ a : Nat, narrow ty (.ref a) = .ref a) (hfit : ∀ a : Nat, fits ty (.ref a) = true) (kk : Ev G M n0 nF Q pc' ls st n I L (pu R k j (some r))) : Ev G M n0 nF Q pc ls (.ref r :: .ref k :: st) n I L R := by
  refine Ev.putv hd hp fa ob hfin (v := .ref r) (I' := I) (L' := L) (R' := pu R k j (some r)) (hn _) (hfit _) (fun i _ => ?_) (fun i hi => ⟨rfl, rfl, pu_ne _ _ _ hi⟩) kk
  by_cases h : i = j
  · subst h; simp only [if_true]; unfold fv; rw [hf]; simp only [pu_at, va_up, if_true]; rfl
  · rw [if_neg h]; unfold fv; rw [pu_at]; simp only [va_up, if_neg h]
/-- an int field that is final, written in the constructor -/
theorem Ev.putIF {idx k c j : Nat} {ty : FieldType} {x : Int32} (hd : decode (mC M) pc = .ok (.putfield idx, 3)) (hp : pc + 3 = pc') (fa : FA (mY M).cls idx c j ty true) (ob : OB n k c) (hfin : (mY M).name = "<init>" ∧ (vwCl[c]?).map (fun q => q.1) = some (mY M).cls) (hf : fk c j = 0) (hn : narrow ty (.int x) = .int x) (hfit : fits ty (.int x) = true) (kk : ∀ I' : Ix, I' = pu I k j x → Ev G M n0 nF Q pc' ls st n I' L R) : Ev G M n0 nF Q pc ls (.int x :: .ref k :: st) n I L R := by
  have kk := kk _ rfl
  refine Ev.putv hd hp fa ob (Or.inr hfin) (v := .int x) (I' := pu I k j x) (L' := L) (R' := R) hn hfit (fun i _ => ?_) (fun i hi => ⟨pu_ne _ _ _ hi, rfl, rfl⟩) kk
  by_cases h : i = j
  · subst h; simp only [if_true]; unfold fv; rw [hf]; simp only [pu_at, va_up, if_true]; rfl
  · rw [if_neg h]; unfold fv; rw [pu_at]; simp only [va_up, if_neg h]
/-! arrays -/
theorem gA_of {k : Nat} {H : Heap} (hW : Wd G n I L R H) (hk : k < n) : gA G k = gb G + k := gA_lt (Nat.lt_of_lt_of_le (Nat.lt_of_lt_of_le hk hW.2.2) (by decide))
theorem Ev.iaload {k N j : Nat} {i : Int32} (hd : decode (mC M) pc = .ok (.iaload, 1)) (hp : pc + 1 = pc') (ar : AR n k 0 N) (hin : vp_in i N) (hj : i.toNatClampNeg = j) (kk : Ev G M n0 nF Q pc' ls (.int (I k j) :: st) n I L R) : Ev G M n0 nF Q pc ls (.int i :: .ref k :: st) n I L R := by
  subst hp; subst hj; intro p e s m args below meth c hC H locs la hW hS h h0 hF
  show W _ _ _ _ _ _ _ _ _ _ _ _ _ _ _ (F0 m pc la (.int i :: .ref (gA G k) :: st.map (gv G)))
  rw [gA_of hW ar.1]
  exact va_iald hC.1 hC.2.1 hC.2.2.2.2.2.2.2.1.1 hW.1 k 0 ((wsx_get ar.1).trans (by rw [ent_a0 ar])) rfl hin hd (kk p e s m args below meth c hC H locs la hW hS h h0 hF)
theorem Ev.zaload {k N j : Nat} {i : Int32} (hd : decode (mC M) pc = .ok (.baload, 1)) (hp : pc + 1 = pc') (ar : AR n k 2 N) (hin : vp_in i N) (hj : i.toNatClampNeg = j) (kk : Ev G M n0 nF Q pc' ls (.int (I k j) :: st) n I L R) : Ev G M n0 nF Q pc ls (.int i :: .ref k :: st) n I L R := by
  subst hp; subst hj; intro p e s m args below meth c hC H locs la hW hS h h0 hF
  show W _ _ _ _ _ _ _ _ _ _ _ _ _ _ _ (F0 m pc la (.int i :: .ref (gA G k) :: st.map (gv G)))
  rw [gA_of hW ar.1]
  exact va_zald hC.1 hC.2.1 hC.2.2.2.2.2.2.2.1.1 hW.1 k 2 ((wsx_get ar.1).trans (by rw [ent_a2 ar])) rfl hin hd (kk p e s m args below meth c hC H locs la hW hS h h0 hF)
theorem Ev.baload {k N j : Nat} {i : Int32} (hd : decode (mC M) pc = .ok (.baload, 1)) (hp : pc + 1 = pc') (ar : AR n k 3 N) (hin : vp_in i N) (hj : i.toNatClampNeg = j) (kk : Ev G M n0 nF Q pc' ls (.int (I k j) :: st) n I L R) : Ev G M n0 nF Q pc ls (.int i :: .ref k :: st) n I L R := by
  subst hp; subst hj; intro p e s m args below meth c hC H locs la hW hS h h0 hF
  show W _ _ _ _ _ _ _ _ _ _ _ _ _ _ _ (F0 m pc la (.int i :: .ref (gA G k) :: st.map (gv G)))
  rw [gA_of hW ar.1]
  exact va_bald hC.1 hC.2.1 hC.2.2.2.2.2.2.2.1.1 hW.1 k 3 ((wsx_get ar.1).trans (by rw [ent_a3 ar])) rfl hin hd (kk p e s m args below meth c hC H locs la hW hS h h0 hF)
theorem Ev.laload {k N j : Nat} {i : Int32} (hd : decode (mC M) pc = .ok (.laload, 1)) (hp : pc + 1 = pc') (ar : AR n k 1 N) (hin : vp_in i N) (hj : i.toNatClampNeg = j) (kk : Ev G M n0 nF Q pc' ls (.long (L k j) :: st) n I L R) : Ev G M n0 nF Q pc ls (.int i :: .ref k :: st) n I L R := by
  subst hp; subst hj; intro p e s m args below meth c hC H locs la hW hS h h0 hF
  show W _ _ _ _ _ _ _ _ _ _ _ _ _ _ _ (F0 m pc la (.int i :: .ref (gA G k) :: st.map (gv G)))
  rw [gA_of hW ar.1]
  exact va_lald hC.1 hC.2.1 hC.2.2.2.2.2.2.2.1.1 hW.1 k 1 ((wsx_get ar.1).trans (by rw [ent_a1 ar])) rfl hin hd (kk p e s m args below meth c hC H locs la hW hS h h0 hF)
theorem Ev.aaload {k N r j : Nat} {i : Int32} (hd : decode (mC M) pc = .ok (.aaload, 1)) (hp : pc + 1 = pc') (ar : AR n k 4 N) (hin : vp_in i N) (hj : i.toNatClampNeg = j) (hr : R k j = some r) (kk : Ev G M n0 nF Q pc' ls (.ref r :: st) n I L R) : Ev G M n0 nF Q pc ls (.int i :: .ref k :: st) n I L R := by
  subst hp; subst hj; intro p e s m args below meth c hC H locs la hW hS h h0 hF
  show W _ _ _ _ _ _ _ _ _ _ _ _ _ _ _ (F0 m pc la (.int i :: .ref (gA G k) :: st.map (gv G)))
  rw [gA_of hW ar.1]
  refine va_aldq hC.1 hC.2.1 hC.2.2.2.2.2.2.2.1.1 hW.1 k 4 ((wsx_get ar.1).trans (by rw [ent_a4 ar])) rfl hin hd ?_
  have h1 := kk p e s m args below meth c hC H locs la hW hS h h0 hF
  simp only [hr, Option.map_some]
  exact h1
/-- a place of an int array is written -/
theorem Ev.ast {k t N : Nat} {i x y : Int32} {ins : Instr} (ty : FieldType) (ht : (tyx G)[t]? = some (gC G t, ty)) (he : ∀ I' : Ix, ent G I' L R k = .inl (gC G t, N, .inl (I' k))) (ar : AR n k t N) (hin : vp_in i N)
    (row : ∀ (p : Program) (e : Env) (s : State) (m : MethodId) (args : Array Value) (below : List Frame) (meth : Method) (c : Code) (H : Heap) (locs : List Loc) (la : Array Slot) (cells slots : Nat) (Rm : Room) (Z : State → Prop), p.tables.exec = Jvm.exec → c.code = mC M → H[gb G + k]? = some (vp_cell (gC G t) (N, .inl (I k))) → s.isArrayOf (vp_cell (gC G t) (N, .inl (I k))) ty →
      (∀ H' : Heap, H'[gb G + k]? = some ((vp_cell (gC G t) (N, .inl (I k))).setSlot i.toNatClampNeg (.int y)) → H'.size = H.size → (∀ q, q ≠ gb G + k → H'[q]? = H[q]?) → W p (gl G) e Rm s m args below meth c H' (locs ++ [⟨gb G + k, i.toNatClampNeg⟩]) cells slots Z (F0 m (pc + 1) la (st.map (gv G)))) →
      W p (gl G) e Rm s m args below meth c H locs cells slots Z (F0 m pc la (.int x :: .int i :: .ref (gb G + k) :: st.map (gv G))))
    (kk : Ev G M n0 nF Q (pc + 1) ls st n (pu I k i.toNatClampNeg y) L R) : Ev G M n0 nF Q pc ls (.int x :: .int i :: .ref k :: st) n I L R := by
  intro p e s m args below meth c hC H locs la hW hS h h0 hF
  show W _ _ _ _ _ _ _ _ _ _ _ _ _ _ _ (F0 m pc la (.int x :: .int i :: .ref (gA G k) :: st.map (gv G)))
  rw [gA_of hW ar.1]
  have hat := hW.at ar.1
  rw [he] at hat
  refine row p e s m args below meth c H locs la _ _ _ _ hC.1 hC.2.1 hat ((hC.2.2.2.2.2.2.2.1.1.2 t _ ht).1 N (fun j => .int (I k j))) fun H' e1 z oq => ?_
  refine kk p e s m args below meth c hC H' _ la (hW.up ar.1 z oq ?_ fun j hj => ent_ne (pu_ne _ _ _ hj) rfl rfl) (hS.put z oq (Nat.le_add_right _ _)) h h0 hF
  rw [he]
  show H'[gb G + k]? = some (vp_cell _ _)
  rw [e1, vp_cell_i, vp_cell_i, arrV_store, pu_at]
  congr 2
  funext q
  by_cases hq : q = i.toNatClampNeg
  · subst hq; simp [updV, va_up]
  · simp [updV, va_up, hq]
theorem Ev.iastore {k N j : Nat} {i x : Int32} (hd : decode (mC M) pc = .ok (.iastore, 1)) (hp : pc + 1 = pc') (ar : AR n k 0 N) (hin : vp_in i N) (hj : i.toNatClampNeg = j) (kk : ∀ I' : Ix, I' = pu I k j x → Ev G M n0 nF Q pc' ls st n I' L R) : Ev G M n0 nF Q pc ls (.int x :: .int i :: .ref k :: st) n I L R := by
  subst hp; subst hj
  have kk := kk _ rfl
  refine Ev.ast (ins := .iastore) .int rfl (fun I' => ent_a0 ar) ar hin (y := x) ?_ kk
  intro p e s m args below meth c H locs la cells slots Rm Z hx hb hat harr kk
  exact W.iast hx hb hat harr (fun q => by cases q) (by show ¬ (i < 0 ∨ (arrV _ _ _).slots.size ≤ _); rw [arrV_size]; exact hin) rfl rfl hd kk
theorem Ev.zastore {k N j : Nat} {i x y : Int32} (hd : decode (mC M) pc = .ok (.bastore, 1)) (hp : pc + 1 = pc') (ar : AR n k 2 N) (hin : vp_in i N) (hj : i.toNatClampNeg = j) (hy : x &&& 1 = y) (kk : ∀ I' : Ix, I' = pu I k j y → Ev G M n0 nF Q pc' ls st n I' L R) : Ev G M n0 nF Q pc ls (.int x :: .int i :: .ref k :: st) n I L R := by
  subst hp; subst hj; subst hy
  have kk := kk _ rfl
  refine Ev.ast (ins := .bastore) .boolean rfl (fun I' => ent_a2 ar) ar hin (y := x &&& 1) ?_ kk
  intro p e s m args below meth c H locs la cells slots Rm Z hx hb hat harr kk
  exact W.zast hx hb hat harr (fun q => by cases q) (by show ¬ (i < 0 ∨ (arrV _ _ _).slots.size ≤ _); rw [arrV_size]; exact hin) rfl rfl hd kk
theorem Ev.bastore {k N j : Nat} {i x : Int32} (hd : decode (mC M) pc = .ok (.bastore, 1)) (hp : pc + 1 = pc') (ar : AR n k 3 N) (hin : vp_in i N) (hj : i.toNatClampNeg = j) (kk : ∀ I' : Ix, I' = pu I k j x.toInt8.toInt32 → Ev G M n0 nF Q pc' ls st n I' L R) : Ev G M n0 nF Q pc ls (.int x :: .int i :: .ref k :: st) n I L R := by
  subst hp; subst hj
  have kk := kk _ rfl
  refine Ev.ast (ins := .bastore) .byte rfl (fun I' => ent_a3 ar) ar hin (y := x.toInt8.toInt32) ?_ kk
  intro p e s m args below meth c H locs la cells slots Rm Z hx hb hat harr kk
  exact W.bast hx hb hat harr (fun q => by cases q) (by show ¬ (i < 0 ∨ (arrV _ _ _).slots.size ≤ _); rw [arrV_size]; exact hin) rfl rfl hd kk
theorem Ev.lastore {k N j : Nat} {i : Int32} {x : Int64} (hd : decode (mC M) pc = .ok (.lastore, 1)) (hp : pc + 1 = pc') (ar : AR n k 1 N) (hin : vp_in i N) (hj : i.toNatClampNeg = j) (kk : ∀ L' : Lx, L' = pu L k j x → Ev G M n0 nF Q pc' ls st n I L' R) : Ev G M n0 nF Q pc ls (.long x :: .int i :: .ref k :: st) n I L R := by
  subst hp; subst hj; have kk := kk _ rfl; intro p e s m args below meth c hC H locs la hW hS h h0 hF
  show W _ _ _ _ _ _ _ _ _ _ _ _ _ _ _ (F0 m pc la (.long x :: .int i :: .ref (gA G k) :: st.map (gv G)))
  rw [gA_of hW ar.1]
  have hat := hW.at ar.1
  rw [ent_a1 ar] at hat
  refine W.last hC.1 hC.2.1 hat ((hC.2.2.2.2.2.2.2.1.1.2 1 _ rfl).1 N (fun j => .long (L k j))) (fun q => by cases q) (by show ¬ (i < 0 ∨ (arrV _ _ _).slots.size ≤ _); rw [arrV_size]; exact hin) rfl rfl hd fun H' e1 z oq => ?_
  refine kk p e s m args below meth c hC H' _ la (hW.up ar.1 z oq ?_ fun j hj => ent_ne rfl (pu_ne _ _ _ hj) rfl) (hS.put z oq (Nat.le_add_right _ _)) h h0 hF
  rw [ent_a1 ar]
  show H'[gb G + k]? = some (vp_cell _ _)
  rw [e1, vp_cell_l, vp_cell_l, arrV_store, pu_at]
  congr 2
  funext q
  by_cases hq : q = i.toNatClampNeg
  · subst hq; simp [updV, va_up]
  · simp [updV, va_up, hq]
/-! returns -/
theorem Ev.end' {p : Program} {s t : State} {m : MethodId} {args : Array Value} {meth : Method} {c : Code} {H : Heap} {locs : List Loc} {v : Option Value} (hC : Cx G M p s m args meth c) (hW : Wd G n I L R H) (hS : va_S (gF G) s.heap H locs) (hq : Q v n I L R) (ht : t.heap = H) (hw : s.WarmedH t.vm) : Qc G Q args s (.returned (v.map (gv G))) t := by
  refine ⟨v, n, I, L, R, rfl, hq, by rw [ht]; exact hW, ?_, hS.F ht⟩
  have hg := hC.2.2.2.2.2.2.2.1
  exact hg.moved hw (by rw [ht]; exact hS.1) (fun q hq => by rw [ht]; exact hS.2.1 q (Nat.lt_of_lt_of_le hq hg.2.2.1) (Nat.not_le.mpr hq))
theorem Ev.iret {x : Int32} (hd : decode (mC M) pc = .ok (.ireturn, 1)) (hr : mR M = some .int) (hn : n = nF) (hq : Q (some (.int x)) n I L R) : Ev G M n0 nF Q pc ls [.int x] n I L R := by
  intro p e s m args below meth c hC H locs la hW hS h h0 hF
  subst hn
  exact W.iret hC.1 hC.2.1 (hC.2.2.1.trans hr) (fun t ht hw => Ev.end' hC hW hS hq ht hw) hS.2.2 hd hC.2.2.2.1
theorem Ev.zret {x : Int32} {ty : FieldType} (hd : decode (mC M) pc = .ok (.ireturn, 1)) (hr : mR M = some ty) (hnr : narrow ty (.int x) = .int x) (hn : n = nF) (hq : Q (some (.int x)) n I L R) : Ev G M n0 nF Q pc ls [.int x] n I L R := by
  intro p e s m args below meth c hC H locs la hW hS h h0 hF
  subst hn
  exact W.zret hC.1 hC.2.1 (hC.2.2.1.trans hr) hnr (fun t ht hw => Ev.end' hC hW hS hq ht hw) hS.2.2 hd hC.2.2.2.1
theorem Ev.lret {x : Int64} (hd : decode (mC M) pc = .ok (.lreturn, 1)) (hr : mR M = some .long) (hn : n = nF) (hq : Q (some (.long x)) n I L R) : Ev G M n0 nF Q pc ls [.long x] n I L R := by
  intro p e s m args below meth c hC H locs la hW hS h h0 hF
  subst hn
  exact W.lret hC.1 hC.2.1 (hC.2.2.1.trans hr) (fun t ht hw => Ev.end' hC hW hS hq ht hw) hS.2.2 hd hC.2.2.2.1
theorem Ev.vret (hd : decode (mC M) pc = .ok (.return_, 1)) (hr : mR M = none) (hn : n = nF) (hq : Q none n I L R) : Ev G M n0 nF Q pc ls [] n I L R := by
  intro p e s m args below meth c hC H locs la hW hS h h0 hF
  subst hn
  exact W.vret hC.1 hC.2.1 (hC.2.2.1.trans hr) (fun t ht hw => Ev.end' hC hW hS hq ht hw) hS.2.2 hd hC.2.2.2.1
/-! switches -/
theorem Ev.tableIn {dflt lo hi off : Int} {offs : Array Int} {len tgt : Nat} {x : Int32} (hd : decode (mC M) pc = .ok (.tableswitch dflt lo hi offs, len)) (h1 : ¬ x.toInt < lo) (h2 : ¬ hi < x.toInt) (ho : offs[(x.toInt - lo).toNat]? = some off) (ht : (pc : Int) + off = (tgt : Int)) (kk : Ev G M n0 nF Q tgt ls st n I L R) : Ev G M n0 nF Q pc ls (.int x :: st) n I L R := by
  intro p e s m args below meth c hC H locs la hW hS h h0 hF
  exact lv_tableIn hC.1 hC.2.1 hd h1 h2 ho ht (kk p e s m args below meth c hC H locs la hW hS h h0 hF)
theorem Ev.tableOut {dflt lo hi : Int} {offs : Array Int} {len tgt : Nat} {x : Int32} (hd : decode (mC M) pc = .ok (.tableswitch dflt lo hi offs, len)) (hx : x.toInt < lo ∨ hi < x.toInt) (ht : (pc : Int) + dflt = (tgt : Int)) (kk : Ev G M n0 nF Q tgt ls st n I L R) : Ev G M n0 nF Q pc ls (.int x :: st) n I L R := by
  intro p e s m args below meth c hC H locs la hW hS h h0 hF
  exact lv_tableOut hC.1 hC.2.1 hd hx ht (kk p e s m args below meth c hC H locs la hW hS h h0 hF)
theorem Ev.lookup {dflt off : Int} {ps : Array (Int × Int)} {len tgt : Nat} {x : Int32} (hd : decode (mC M) pc = .ok (.lookupswitch dflt ps, len)) (hs : (ps.toList.zip (ps.toList.drop 1)).all (fun (a, next) => a.1 < next.1) = true) (ho : Op.lookupswitch.offset ps.toList dflt x.toInt = off) (ht : (pc : Int) + off = (tgt : Int)) (kk : Ev G M n0 nF Q tgt ls st n I L R) : Ev G M n0 nF Q pc ls (.int x :: st) n I L R := by
  intro p e s m args below meth c hC H locs la hW hS h h0 hF
  exact lv_lookup hC.1 hC.2.1 hd hs ho ht (kk p e s m args below meth c hC H locs la hW hS h h0 hF)
/-! calls -/
theorem Pcx_blind {as : List Value} : FrameBlind (Pcx G as n I L R) := by
  intro a U g mk h
  obtain ⟨h1, h2, h3⟩ := h
  exact ⟨h1, h2, h3.moved (u := U) (U := U.calling g mk a) (State.WarmedH.refl U) (Nat.le_refl _) (fun _ _ => rfl)⟩
theorem Ev.run {m' : Nat → Nat} {nF' len : Nat} {Q' : Qx} {as : Array Value} {stk rest : List Value} (hn' : n ≤ nF') (hlen : len = 3) (hF' : nF' ≤ nF)
    (hr : ∀ (p : Program) (e : Env) (s : State) (m : MethodId) (args : Array Value) (below : List Frame) (meth : Method) (c : Code) (H : Heap) (locs : List Loc) (la : Array Slot), Cx G M p s m args meth c → Wd G n I L R H → va_S (gF G) s.heap H locs → lv_has la (mL M) (ls.map (gp G)) → n0 ≤ n → n ≤ nF →
      va_Run p (gl G) e (rmM M n0 nF) s m args below meth c H locs (n - n0) (tot n - tot n0) (nF' - n) (tot nF' - tot n) (F0 m pc la (stk.map (gv G))) (rest.map (gv G)) (Qc G Q' as) (gF G))
    (kk : ∀ (v : Option Value) (n' : Nat) (I' : Ix) (L' : Lx) (R' : Rx), Q' v n' I' L' R' → n' = nF' ∧ Ev G M n0 nF Q (pc + 3) ls (v.toList ++ rest) n' I' L' R') : Ev G M n0 nF Q pc ls stk n I L R := by
  intro p e s m args below meth c hC H locs la hW hS h h0 hF T hT X
  obtain ⟨v, st₀, t, T', Lo, hst, X', hL, e1, e2, ⟨v', n', I', L', R', hv, hq, hW', hg', hz, hk⟩, st⟩ := hr p e s m args below meth c H locs la hC hW hS h h0 hF T hT X
  have hv' : v = v'.map (gv G) := by injection hv
  subst hv'
  rw [hst] at hz hk
  obtain ⟨rfl, k1⟩ := kk v' n' I' L' R' hq
  have hS' : va_S (gF G) s.heap T'.heap (locs ++ Lo) := ⟨Nat.le_trans hS.1 (by rw [e1]; exact hz), fun q h1 h2 => by rw [e1, hk q (Nat.lt_of_lt_of_le h1 hS.1) h2]; exact hS.2.1 q h1 h2, fun q hq => by
      rcases List.mem_append.mp hq with h | h
      · exact hS.2.2 q h
      · exact hL q h⟩
  have t0 := tot_mono h0
  have t1 := tot_mono hn'
  have hc : n - n0 + (n' - n) = n' - n0 := by omega
  have hs : tot n - tot n0 + (tot n' - tot n) = tot n' - tot n0 := by omega
  rw [hc, hs] at X'
  obtain ⟨t2, a1, b1⟩ := k1 p e s m args below meth c hC T'.heap (locs ++ Lo) la (by rw [e1]; exact hW') hS' h (Nat.le_trans h0 hn') hF' T' rfl X'
  refine ⟨t2, st t2 ?_, b1⟩
  have hvl : (v'.map (gv G)).toList ++ rest.map (gv G) = (v'.toList ++ rest).map (gv G) := by cases v' <;> simp
  simpa [hvl] using a1
theorem gv_catsum (st : List Value) : ((st.map (gv G)).map fun v => v.category) = st.map fun v => v.category := by
  rw [List.map_map]; exact List.map_congr_left fun v _ => gv_cat G v
/-- what a call asks of the two methods' rooms -/
def RM (M M' : Mx) : Prop := mD M' + 1 ≤ mD M ∧ mL M' ≤ 40
theorem RM.ok {M' : Mx} {nF' : Nat} (h : RM M M') : (rmM M' n nF').frames + 1 ≤ (rmM M n0 nF).frames ∧ 8 + (mL M' + 11) + (rmM M' n nF').locals ≤ (rmM M n0 nF).locals := by
  refine ⟨h.1, ?_⟩
  show 8 + (mL M' + 11) + 60 * mD M' ≤ 60 * mD M
  have := h.1; have := h.2; omega
/-- the words of a method that is called by its class -/
def CV (own : String) (idx : Nat) (M' : Mx) (np : Nat) : Prop := Cond.methodLink own idx (mY M') ∈ tbg ∧ Cond.instanceMethod (mY M') ∈ tbg ∧ Cond.selects (mY M').cls (mY M') (mY M') ∈ tbg ∧ Cond.initialized (mY M').cls ∈ tbg ∧ Cond.code (mY M') (mC M') (mL M') (mR M') ∈ tbg ∧ ((mY M').cls ≠ "java/lang/invoke/MethodHandle" ∧ (mY M').cls ≠ "java/lang/invoke/VarHandle" ∧ (parseMethodDescriptor (mY M').desc).map (fun d => d.parameters.length) = some np)
def CS (own : String) (idx : Nat) (M' : Mx) (np : Nat) : Prop := Cond.methodLink own idx (mY M') ∈ tbg ∧ Cond.static (mY M') ∈ tbg ∧ Cond.initialized (mY M').cls ∈ tbg ∧ Cond.code (mY M') (mC M') (mL M') (mR M') ∈ tbg ∧ ((mY M').cls ≠ "java/lang/invoke/MethodHandle" ∧ (mY M').cls ≠ "java/lang/invoke/VarHandle" ∧ (parseMethodDescriptor (mY M').desc).map (fun d => d.parameters.length) = some np)
theorem Ev.pre {p : Program} {s : State} {m : MethodId} {args : Array Value} {meth : Method} {c : Code} {H : Heap} {locs : List Loc} {as : List Value} (hC : Cx G M p s m args meth c) (hW : Wd G n I L R H) (hS : va_S (gF G) s.heap H locs) : ∀ U : State, U.heap = H → s.WarmedH U.vm → Pcx G as n I L R (as.map (gv G)).toArray U := by
  intro U hU hw
  have hg := hC.2.2.2.2.2.2.2.1
  exact ⟨rfl, by rw [hU]; exact hW, hg.moved hw (by rw [hU]; exact hS.1) (fun q hq => by rw [hU]; exact hS.2.1 q (Nat.lt_of_lt_of_le hq hg.2.2.1) (Nat.not_le.mpr hq))⟩
theorem Ev.roomc {nF' : Nat} (h0 : n0 ≤ n) (h1 : n ≤ nF') (h2 : nF' ≤ nF) : n - n0 + (nF' - n) ≤ (rmM M n0 nF).cells ∧ tot n - tot n0 + (tot nF' - tot n) ≤ (rmM M n0 nF).slots := by
  have t0 := tot_mono h0; have t1 := tot_mono h1; have t2 := tot_mono h2
  show n - n0 + (nF' - n) ≤ nF - n0 ∧ tot n - tot n0 + (tot nF' - tot n) ≤ tot nF - tot n0
  omega
theorem Ev.callV {M' : Mx} {k c idx nF' np : Nat} {Q' : Qx} {As rest stk : List Value} (hd : decode (mC M) pc = .ok (.invokevirtual idx, 3)) (hp : pc + 3 = pc') (cv : CV (mY M).cls idx M' np) (rm : RM M M') (ob : OB n k c) (hcl : (vwCl[c]?).map (fun q => q.1) = some (mY M').cls) (hn : As.length = np) (hst : stk = As.reverse ++ .ref k :: rest) (hW8 : (rest.map fun v => v.category).sum ≤ 8) (hn' : n ≤ nF') (hF' : nF' ≤ nF)
    (hM : Mt G M' (.ref k :: As) n I L R nF' Q') (kk : ∀ (v : Option Value) (n' : Nat) (I' : Ix) (L' : Lx) (R' : Rx), Q' v n' I' L' R' → n' = nF' ∧ Ev G M n0 nF Q pc' ls (v.toList ++ rest) n' I' L' R') : Ev G M n0 nF Q pc ls stk n I L R := by
  subst hp
  refine Ev.run (m' := id) (len := 3) hn' rfl hF' (as := ((.ref k :: As).map (gv G)).toArray) (rest := rest) ?_ kk
  intro p e s m args below meth c' H locs la hC hW hS h h0 hF
  have hts := hC.2.2.2.2.2.2.1
  have hk : gA G k = gb G + k := gA_of hW ob.1
  obtain ⟨w1, w2, w3, w4, w5, w6⟩ := cv
  have hat : (wsx G n I L R)[k]? = some (gb G + k, .inr (c, (List.range (fkL.getD c []).length).map (fv G I L R k c))) := by rw [wsx_get ob.1, ent_ob ob]
  cases hc : vwCl[c]? with
  | none => rw [hc] at hcl; cases hcl
  | some q =>
    rw [hc] at hcl
    have hq1 : q.1 = (mY M').cls := Option.some.inj hcl
    have hrec := va_recv hC.2.2.2.2.2.2.2.1.1 hW.1 hc hat
    rw [hq1] at hrec
    refine va_runV (C := (mY M').cls) (As := As.map (gv G)) (b := gA G k) (n := np) (bytes := mC M') (maxL := mL M') (ret := mR M') (rm := rmM M' n nF') ⟨hC.1, hC.2.1, hC.2.2.2.2.1, hC.2.2.2.2.2.1, hts⟩ hM ⟨callB_of np hts (wsM_good w5) rfl rfl rfl (hts _ w4) (hts _ w1) w6 rm.ok, hts _ w2, hts _ w3⟩ ⟨Pcx_blind, by rw [hk]; exact hrec, fun U hU hw => Ev.pre (as := .ref k :: As) hC hW hS U hU hw⟩ rfl (by simpa using hn) h.1 ?_ ?_ hd (Ev.roomc h0 hn' hF')
    · subst hst; simp [gv, List.map_reverse]
    · refine lv_room ?_
      rw [gv_catsum]; exact hW8
theorem Ev.callS {M' : Mx} {idx nF' np : Nat} {Q' : Qx} {As rest stk : List Value} (hd : decode (mC M) pc = .ok (.invokestatic idx, 3)) (hp : pc + 3 = pc') (cv : CS (mY M).cls idx M' np) (rm : RM M M') (hn : As.length = np) (hst : stk = As.reverse ++ rest) (hW8 : (rest.map fun v => v.category).sum ≤ 8) (hn' : n ≤ nF') (hF' : nF' ≤ nF)
    (hM : Mt G M' As n I L R nF' Q') (kk : ∀ (v : Option Value) (n' : Nat) (I' : Ix) (L' : Lx) (R' : Rx), Q' v n' I' L' R' → n' = nF' ∧ Ev G M n0 nF Q pc' ls (v.toList ++ rest) n' I' L' R') : Ev G M n0 nF Q pc ls stk n I L R := by
  subst hp
  refine Ev.run (m' := id) (len := 3) hn' rfl hF' (as := (As.map (gv G)).toArray) (rest := rest) ?_ kk
  intro p e s m args below meth c' H locs la hC hW hS h h0 hF
  have hts := hC.2.2.2.2.2.2.1
  obtain ⟨w1, w2, w4, w5, w6⟩ := cv
  refine va_runS (As := As.map (gv G)) (n := np) (bytes := mC M') (maxL := mL M') (ret := mR M') (rm := rmM M' n nF') ⟨hC.1, hC.2.1, hC.2.2.2.2.1, hC.2.2.2.2.2.1, hts⟩ hM ⟨callB_of np hts (wsM_good w5) rfl rfl rfl (hts _ w4) (hts _ w1) w6 rm.ok, hts _ w2⟩ ⟨Pcx_blind, fun U hU hw => Ev.pre (as := As) hC hW hS U hU hw⟩ rfl (by simpa using hn) h.1 ?_ ?_ hd (Ev.roomc h0 hn' hF')
  · subst hst; simp [List.map_reverse]
  · refine lv_room ?_
    rw [gv_catsum]; exact hW8
/-- a constructor that is called by its link -/
theorem Ev.callI {M' : Mx} {k idx nF' np : Nat} {Q' : Qx} {As rest stk : List Value} (hd : decode (mC M) pc = .ok (.invokespecial idx, 3)) (hp : pc + 3 = pc') (w1 : Cond.methodLink (mY M).cls idx (mY M') ∈ tbg) (w2 : Cond.instanceMethod (mY M') ∈ tbg) (w4 : Cond.initialized (mY M').cls ∈ tbg) (w5 : Cond.code (mY M') (mC M') (mL M') (mR M') ∈ tbg) (w7 : (mY M').name = "<init>") (w8 : mR M' = none)
    (w6 : (mY M').cls ≠ "java/lang/invoke/MethodHandle" ∧ (mY M').cls ≠ "java/lang/invoke/VarHandle" ∧ (parseMethodDescriptor (mY M').desc).map (fun d => d.parameters.length) = some np) (rm : RM M M') (hn : As.length = np) (hst : stk = As.reverse ++ .ref k :: rest) (hW8 : (rest.map fun v => v.category).sum ≤ 8) (hn' : n ≤ nF') (hF' : nF' ≤ nF)
    (hM : Mt G M' (.ref k :: As) n I L R nF' Q') (kk : ∀ (v : Option Value) (n' : Nat) (I' : Ix) (L' : Lx) (R' : Rx), Q' v n' I' L' R' → n' = nF' ∧ Ev G M n0 nF Q pc' ls (v.toList ++ rest) n' I' L' R') : Ev G M n0 nF Q pc ls stk n I L R := by
  subst hp
  refine Ev.run (m' := id) (len := 3) hn' rfl hF' (as := ((.ref k :: As).map (gv G)).toArray) (rest := rest) ?_ kk
  intro p e s m args below meth c' H locs la hC hW hS h h0 hF
  have hts := hC.2.2.2.2.2.2.1
  refine va_runI (As := As.map (gv G)) (b := gA G k) (n := np) (bytes := mC M') (maxL := mL M') (rm := rmM M' n nF') ⟨hC.1, hC.2.1, hC.2.2.2.2.1, hC.2.2.2.2.2.1, hts⟩ hM ⟨callB_of (ws' := tbg) np hts (wsM_good w5) (by rw [wsM, w8]) rfl rfl (hts _ w4) (hts _ w1) w6 rm.ok, w7, hts _ w2⟩ ⟨Pcx_blind, fun U hU hw => Ev.pre (as := .ref k :: As) hC hW hS U hU hw⟩ rfl (by simpa using hn) h.1 ?_ ?_ hd (Ev.roomc h0 hn' hF')
  · subst hst; simp [gv, List.map_reverse]
  · refine lv_room ?_
    rw [gv_catsum]; exact hW8
/-- a private constructor of a nest mate -/
theorem Ev.callN {M' : Mx} {host : String} {k idx nF' np : Nat} {Q' : Qx} {As rest stk : List Value} (hd : decode (mC M) pc = .ok (.invokespecial idx, 3)) (hp : pc + 3 = pc') (w1 : ∀ U : State, gO G U → va_Nw (.methodLinkNest (mY M).cls idx (mY M') host) U) (w2 : Cond.instanceMethod (mY M') ∈ tbg) (w4 : Cond.initialized (mY M').cls ∈ tbg) (w5 : Cond.code (mY M') (mC M') (mL M') (mR M') ∈ tbg) (w7 : (mY M').name = "<init>") (w8 : mR M' = none)
    (w6 : (mY M').cls ≠ "java/lang/invoke/MethodHandle" ∧ (mY M').cls ≠ "java/lang/invoke/VarHandle" ∧ (parseMethodDescriptor (mY M').desc).map (fun d => d.parameters.length) = some np) (rm : RM M M') (hn : As.length = np) (hst : stk = As.reverse ++ .ref k :: rest) (hW8 : (rest.map fun v => v.category).sum ≤ 8) (hn' : n ≤ nF') (hF' : nF' ≤ nF)
    (hM : Mt G M' (.ref k :: As) n I L R nF' Q') (kk : ∀ (v : Option Value) (n' : Nat) (I' : Ix) (L' : Lx) (R' : Rx), Q' v n' I' L' R' → n' = nF' ∧ Ev G M n0 nF Q pc' ls (v.toList ++ rest) n' I' L' R') : Ev G M n0 nF Q pc ls stk n I L R := by
  subst hp
  refine Ev.run (m' := id) (len := 3) hn' rfl hF' (as := ((.ref k :: As).map (gv G)).toArray) (rest := rest) ?_ kk
  intro p e s m args below meth c' H locs la hC hW hS h h0 hF
  have hts := hC.2.2.2.2.2.2.1
  refine va_runIN (host := host) (As := As.map (gv G)) (b := gA G k) (n := np) (bytes := mC M') (maxL := mL M') (rm := rmM M' n nF') ⟨hC.1, hC.2.1, hC.2.2.2.2.1, hC.2.2.2.2.2.1, hts⟩ hM ⟨va_cnB (ws' := tbg) np hts (wsM_good w5) (by rw [wsM, w8]) rfl rfl (w1 s hC.2.2.2.2.2.2.2.1.2.1) (hts _ w4) w6 rm.ok, w7, hts _ w2⟩ ⟨Pcx_blind, fun U hU hw => Ev.pre (as := .ref k :: As) hC hW hS U hU hw⟩ rfl (by simpa using hn) h.1 ?_ ?_ hd (Ev.roomc h0 hn' hF')
  · subst hst; simp [gv, List.map_reverse]
  · refine lv_room ?_
    rw [gv_catsum]; exact hW8
theorem Ev.objInit {idx k : Nat} (hd : decode (mC M) pc = .ok (.invokespecial idx, 3)) (hp : pc + 3 = pc') (w1 : Cond.methodLink (mY M).cls idx Lib.objectInit ∈ tbg) (w2 : Cond.instanceMethod Lib.objectInit ∈ tbg) (w3 : Cond.code Lib.objectInit ⟨#[0xb1]⟩ 1 none ∈ tbg) (hd1 : 1 ≤ mD M) (hW8 : (st.map fun v => v.category).sum ≤ 8) (kk : Ev G M n0 nF Q pc' ls st n I L R) : Ev G M n0 nF Q pc ls (.ref k :: st) n I L R := by
  subst hp; intro p e s m args below meth c hC H locs la hW hS h h0 hF
  have hts := hC.2.2.2.2.2.2.1
  refine W.objInit hC.1 hC.2.1 hC.2.2.2.2.2.1 (hts _ w1) (hts _ w2) (hts _ w3) rfl (h.1.trans hC.2.2.2.2.1.symm) rfl hd hd1 ?_ (kk p e s m args below meth c hC H locs la hW hS h h0 hF)
  have h9 := lv_room (m := m) (pc := pc) (ls := la) (rest := [] ) (st := st.map (gv G)) (by rw [gv_catsum]; exact hW8)
  show 2 * _ + _ + 12 ≤ 60 * mD M
  refine Nat.le_trans (Nat.add_le_add_right h9 12) ?_
  omega
/-! new cells -/
theorem Wd.grow {I' : Ix} {L' : Lx} {R' : Rx} {H H1 : Heap} (hW : Wd G n I L R H) (hn : n < 178) (z : H1.size = gb G + n + 1) (oq : ∀ q, q < gb G + n → H1[q]? = H[q]?) (he : va_at (gD G) vwCl (gb G + n, ent G I' L' R' n) H1) (ho : ∀ j, j ≠ n → I' j = I j ∧ L' j = L j ∧ R' j = R j) : Wd G (n + 1) I' L' R' H1 := by
  refine ⟨fun j q hj => ?_, fun _ => by omega, hn⟩
  obtain ⟨hjn, rfl⟩ := wsx_inv hj
  by_cases hjk : j = n
  · subst hjk; exact he
  · rw [ent_ne (ho j hjk).1 (ho j hjk).2.1 (ho j hjk).2.2]
    exact (hW.at (by omega)).kept (oq _ (by show gb G + j < gb G + n; omega))
theorem Ev.newO {idx c N : Nat} {C : String} {T : u_T} {tyT : Nat → FieldType} (hd : decode (mC M) pc = .ok (.new idx, 3)) (hp : pc + 3 = pc') (hc : vwCl[c]? = some (C, T, N)) (hlen : (fkL.getD c []).length = N) (hin : ∀ w ∈ u_ws C T N, w ∈ tbg) (hty : ∀ k, k < N → parseFieldDescriptor (T k).2.2.1 = some (tyT k))
    (hdef : ∀ j, j < N → defaultValue (tyT j) = match fk c j with | 0 => .int 0 | 1 => .long 0 | _ => .null) (w1 : Cond.classLink (mY M).cls idx C ∈ tbg) (w2 : Cond.instantiable C N ∈ tbg) (w3 : Cond.initialized C ∈ tbg) (ob : OB (n + 1) n c) (hn : n < nF) (hn8 : n < 178)
    (kk : Ev G M n0 nF Q pc' ls (.ref n :: st) (n + 1) (va_up I n (fun _ => 0)) (va_up L n (fun _ => 0)) (va_up R n (fun _ => none))) : Ev G M n0 nF Q pc ls st n I L R := by
  subst hp; intro p e s m args below meth c' hC H locs la hW hS h h0 hF
  have hts := hC.2.2.2.2.2.2.1
  have hK := hC.2.2.2.2.2.2.2.1.1
  have hKn := hK.1 c _ hc
  have hsz := hW.2.1 hn8
  have hsl : sl n = N := ob.2.2.trans hlen
  have t0 := tot_mono h0; have t1 := tot_succ n; have t2 := tot_mono (show n + 1 ≤ nF from hn)
  refine W.newcK hC.1 hC.2.1 hC.2.2.2.2.2.1 (hts _ w1) (hts _ w2) (hts _ w3) rfl hd ?_ ?_ hKn.2.1 rfl fun H1 kC hkC e1 z1 o1 => ?_
  · show n - n0 + 1 ≤ nF - n0; omega
  · show tot n - tot n0 + N ≤ tot nF - tot n0; omega
  have hcn : n - n0 + 1 = n + 1 - n0 := by omega
  have hcs : tot n - tot n0 + N = tot (n + 1) - tot n0 := by omega
  rw [hcn, hcs]
  have hW' : Wd G (n + 1) (va_up I n (fun _ => 0)) (va_up L n (fun _ => 0)) (va_up R n (fun _ => none)) H1 := by
    refine hW.grow hn8 (by omega) (fun q hq => o1 q (by omega)) ?_ (fun j hj => by simp [va_up, hj])
    rw [ent_ob ob]
    rw [hsz] at e1
    refine ⟨_, hc, (u_born tyT hts hin hKn hkC e1 hty).to fun j hj => ?_⟩
    have hj' : j < (fkL.getD c []).length := by rw [hlen]; exact hj
    rw [hdef j hj]
    show _ = vp_V ((List.range _).map _) j
    rw [vpV_map hj']
    simp only [fv, va_up, if_true]
    rfl
  have h1 := kk p e s m args below meth c' hC H1 locs la hW' ⟨Nat.le_trans hS.1 (by omega), fun q h1 h2 => (o1 q (Nat.lt_of_lt_of_le h1 hS.1)).trans (hS.2.1 q h1 h2), hS.2.2⟩ h (by omega) hn
  show W _ _ _ _ _ _ _ _ _ _ _ _ _ _ _ (F0 m (pc + 3) la (.ref H.size :: st.map (gv G)))
  rw [hsz]
  have hg : gA G n = gb G + n := gA_lt (by omega)
  rw [← hg]
  exact h1
theorem Ev.newA {atype : ArrayType} {ty : FieldType} {t N : Nat} {i : Int32} (hd : decode (mC M) pc = .ok (.newarray atype, 2)) (hp : pc + 2 = pc') (hty : newarray.typeOf atype = ty) (hprim : ∀ U : State, ∀ cA, va_RA U cA ty → U.vm.findClass ("[" ++ ty.toString) = some cA) (w1 : Cond.arrayClass ty ∈ tbg) (hi : i = nI N) (hN : N < 1000000) (ht : (tyx G)[t]? = some (gC G t, ty)) (ar : AR (n + 1) n t N)
    (he : ent G (va_up I n (fun _ => 0)) (va_up L n (fun _ => 0)) (va_up R n (fun _ => none)) n = .inl (gC G t, N, if t = 1 then .inr (.inl (fun _ => 0)) else .inl (fun _ => 0))) (hdv : defaultValue ty = if t = 1 then .long 0 else .int 0) (hcb : componentBytes ty ≤ 8) (hn : n < nF) (hn8 : n < 178)
    (kk : Ev G M n0 nF Q pc' ls (.ref n :: st) (n + 1) (va_up I n (fun _ => 0)) (va_up L n (fun _ => 0)) (va_up R n (fun _ => none))) : Ev G M n0 nF Q pc ls (.int i :: st) n I L R := by
  subst hp; intro p e s m args below meth c' hC H locs la hW hS h h0 hF
  have hts := hC.2.2.2.2.2.2.1
  have hK := hC.2.2.2.2.2.2.2.1.1
  have hsz := hW.2.1 hn8
  have hsl : sl n = N := ar.2.2
  have t0 := tot_mono h0; have t1 := tot_succ n; have t2 := tot_mono (show n + 1 ≤ nF from hn)
  subst hi
  have hcl : (nI N).toNatClampNeg = N := nI_clamp (by omega)
  refine va_newaK hC.1 hC.2.1 (by rw [hty]; exact hts _ w1) rfl hd rfl (nI_pos (by omega)) hcl ?_ ?_ ?_ hsz fun H1 cA e1 z1 o1 hAr hNm => ?_
  · rw [hty]; calc N * componentBytes ty ≤ N * 8 := Nat.mul_le_mul_left _ hcb
      _ ≤ _ := by omega
  · show n - n0 + 1 ≤ nF - n0; omega
  · show tot n - tot n0 + N ≤ tot nF - tot n0; omega
  have hcn : n - n0 + 1 = n + 1 - n0 := by omega
  have hcs : tot n - tot n0 + N = tot (n + 1) - tot n0 := by omega
  rw [hcn, hcs]
  rw [hty] at e1 hAr hNm
  have hcA : cA = gC G t := Option.some.inj (hNm.symm.trans (hprim s _ (hK.2 t _ ht).2))
  have hW' : Wd G (n + 1) (va_up I n (fun _ => 0)) (va_up L n (fun _ => 0)) (va_up R n (fun _ => none)) H1 := by
    refine hW.grow hn8 (by omega) (fun q hq => o1 q hq) ?_ (fun j hj => by simp [va_up, hj])
    rw [he]
    show H1[gb G + n]? = some (vp_cell _ _)
    rw [e1, hcA, hdv]
    by_cases h1 : t = 1
    · simp only [h1, if_true]; rfl
    · simp only [h1, if_false]; rfl
  have h1 := kk p e s m args below meth c' hC H1 locs la hW' ⟨Nat.le_trans hS.1 (by omega), fun q h1 h2 => (o1 q (by have := Nat.lt_of_lt_of_le h1 hS.1; omega)).trans (hS.2.1 q h1 h2), hS.2.2⟩ h (by omega) hn
  show W _ _ _ _ _ _ _ _ _ _ _ _ _ _ _ (F0 m (pc + 2) la (.ref (gb G + n) :: st.map (gv G)))
  have hg : gA G n = gb G + n := gA_lt (by omega)
  rw [← hg]
  exact h1
/-! System.arraycopy, of int arrays, once all cells are there -/
theorem Ev.copyI {idx k0 k1 N0 N1 : Nat} {sp dp m9 : Int32} (hd : decode (mC M) pc = .ok (.invokestatic idx, 3)) (hp : pc + 3 = pc') (w1 : Cond.methodLink (mY M).cls idx arraycopyName ∈ tbg) (w2 : Cond.native arraycopyName ∈ tbg) (w3 : Cond.static arraycopyName ∈ tbg) (w4 : Cond.initialized "java/lang/System" ∈ tbg) (a0 : AR n k0 0 N0) (a1 : AR n k1 0 N1) (h178 : n = 178)
    (h1 : ¬ sp < 0) (h2 : ¬ dp < 0) (h3 : ¬ m9 < 0) (h4 : sp.toNatClampNeg + m9.toNatClampNeg ≤ N0) (h5 : dp.toNatClampNeg + m9.toNatClampNeg ≤ N1) (hd1 : 1 ≤ mD M) (hW8 : (st.map fun v => v.category).sum ≤ 8)
    (kk : ∀ I' : Ix, I' = va_up I k1 (va_cpy (I k0) (I k1) sp.toNatClampNeg dp.toNatClampNeg m9.toNatClampNeg) → Ev G M n0 nF Q pc' ls st n I' L R) : Ev G M n0 nF Q pc ls (.int m9 :: .int dp :: .ref k1 :: .int sp :: .ref k0 :: st) n I L R := by
  subst hp; have kk := kk _ rfl; intro p e s m args below meth c' hC H locs la hW hS h h0 hF
  have hts := hC.2.2.2.2.2.2.1
  show W _ _ _ _ _ _ _ _ _ _ _ _ _ _ _ (F0 m pc la (.int m9 :: .int dp :: .ref (gA G k1) :: .int sp :: .ref (gA G k0) :: st.map (gv G)))
  rw [gA_of hW a0.1, gA_of hW a1.1]
  refine va_copyi hC.1 hC.2.1 (hC.2.2.2.2.1.trans h.1.symm) hC.2.2.2.2.2.1 (hts _ w1) (hts _ w2) (hts _ w3) (hts _ w4) hC.2.2.2.2.2.2.2.1.1 hW.1 (wsx_D G n I L R) hS k0 k1 0 0 ((wsx_get a0.1).trans (by rw [ent_a0 a0])) ((wsx_get a1.1).trans (by rw [ent_a0 a1])) rfl rfl rfl h1 h2 h3 h4 h5 (fun _ _ => rfl) hd1 ?_ hd fun H1 locs1 hP1 hD1 hS1 => ?_
  · rw [gv_catsum]
    refine Nat.le_trans (Nat.add_le_add_right hW8 _) ?_
    show 8 + (nativeFrameWords "java/lang/System" "arraycopy" 5 + 11) ≤ 60 * mD M
    have : nativeFrameWords "java/lang/System" "arraycopy" 5 ≤ 30 := by decide
    omega
  refine kk p e s m args below meth c' hC H1 locs1 la ⟨fun j q hj => ?_, fun h9 => absurd h9 (by omega), hW.2.2⟩ hS1 h h0 hF
  obtain ⟨hjn, rfl⟩ := wsx_inv hj
  by_cases hjk : j = k1
  · subst hjk
    refine hP1 j _ ?_
    rw [List.getElem?_set_self (by simpa [wsx] using hjn), ent_a0 a1]
    simp [va_up]
  · rw [ent_ne (I := I) (L := L) (R := R) (by simp [va_up, hjk]) rfl rfl]
    refine hP1 j _ ?_
    rw [List.getElem?_set_ne (Ne.symm hjk), wsx_get hjn]
end EV
/-! in the run's second part, when all cells are there -/
def qI (Q : Int32 → Ix → Lx → Prop) : Qx := fun v n I L R => n = 178 ∧ R = RF ∧ ∃ r, v = some (.int r) ∧ Q r I L
def qZ (Q : Bool → Ix → Lx → Prop) : Qx := fun v n I L R => n = 178 ∧ R = RF ∧ ∃ b, v = some (.int (b2i b)) ∧ Q b I L
def qL (Q : Int64 → Ix → Lx → Prop) : Qx := fun v n I L R => n = 178 ∧ R = RF ∧ ∃ r, v = some (.long r) ∧ Q r I L
def qV (Q : Ix → Lx → Prop) : Qx := fun v n I L R => n = 178 ∧ R = RF ∧ v = none ∧ Q I L
abbrev Ef (G : Gx) (M : Mx) (Q : Qx) (pc : Nat) (ls : List (Nat × Value)) (st : List Value) (I : Ix) (L : Lx) : Prop := Ev G M 178 178 Q pc ls st 178 I L RF
abbrev Mf (G : Gx) (M : Mx) (as : List Value) (I : Ix) (L : Lx) (Q : Qx) : Prop := Mt G M as 178 I L RF 178 Q
section EF
variable {G : Gx} {M M' : Mx} {pc pc' : Nat} {ls : List (Nat × Value)} {st : List Value} {I : Ix} {L : Lx} {Q : Qx}
theorem Mf.of {as : List Value} (hy : plainName (mY M).cls = true) (hl : (lg_sl as).length ≤ mL M) (h : Ef G M Q 0 (lv_args 0 as) [] I L) : Mf G M as I L Q := Mt.of hy hl (Nat.le_refl _) h
theorem Ef.callVI {k c idx np : Nat} {Q' : Int32 → Ix → Lx → Prop} (As rest : List Value) {stk : List Value} (hd : decode (mC M) pc = .ok (.invokevirtual idx, 3)) (hp : pc + 3 = pc') (cv : CV (mY M).cls idx M' np) (rm : RM M M') (ob : OB 178 k c) (hcl : (vwCl[c]?).map (fun q => q.1) = some (mY M').cls) (hn : As.length = np) (hst : stk = As.reverse ++ .ref k :: rest) (hW8 : (rest.map fun v => v.category).sum ≤ 8)
    (hM : Mf G M' (.ref k :: As) I L (qI Q')) (kk : ∀ (r : Int32) (I' : Ix) (L' : Lx), Q' r I' L' → Ef G M Q pc' ls (.int r :: rest) I' L') : Ef G M Q pc ls stk I L :=
  Ev.callV hd hp cv rm ob hcl hn hst hW8 (Nat.le_refl _) (Nat.le_refl _) hM fun v n' I' L' R' ⟨h1, h2, r, h3, h4⟩ => by subst h1; subst h2; subst h3; exact ⟨rfl, kk r I' L' h4⟩
theorem Ef.callVZ {k c idx np : Nat} {Q' : Bool → Ix → Lx → Prop} (As rest : List Value) {stk : List Value} (hd : decode (mC M) pc = .ok (.invokevirtual idx, 3)) (hp : pc + 3 = pc') (cv : CV (mY M).cls idx M' np) (rm : RM M M') (ob : OB 178 k c) (hcl : (vwCl[c]?).map (fun q => q.1) = some (mY M').cls) (hn : As.length = np) (hst : stk = As.reverse ++ .ref k :: rest) (hW8 : (rest.map fun v => v.category).sum ≤ 8)
    (hM : Mf G M' (.ref k :: As) I L (qZ Q')) (kk : ∀ (r : Bool) (I' : Ix) (L' : Lx), Q' r I' L' → Ef G M Q pc' ls (.int (b2i r) :: rest) I' L') : Ef G M Q pc ls stk I L :=
  Ev.callV hd hp cv rm ob hcl hn hst hW8 (Nat.le_refl _) (Nat.le_refl _) hM fun v n' I' L' R' ⟨h1, h2, r, h3, h4⟩ => by subst h1; subst h2; subst h3; exact ⟨rfl, kk r I' L' h4⟩
theorem Ef.callVL {k c idx np : Nat} {Q' : Int64 → Ix → Lx → Prop} (As rest : List Value) {stk : List Value} (hd : decode (mC M) pc = .ok (.invokevirtual idx, 3)) (hp : pc + 3 = pc') (cv : CV (mY M).cls idx M' np) (rm : RM M M') (ob : OB 178 k c) (hcl : (vwCl[c]?).map (fun q => q.1) = some (mY M').cls) (hn : As.length = np) (hst : stk = As.reverse ++ .ref k :: rest) (hW8 : (rest.map fun v => v.category).sum ≤ 8)
    (hM : Mf G M' (.ref k :: As) I L (qL Q')) (kk : ∀ (r : Int64) (I' : Ix) (L' : Lx), Q' r I' L' → Ef G M Q pc' ls (.long r :: rest) I' L') : Ef G M Q pc ls stk I L :=
  Ev.callV hd hp cv rm ob hcl hn hst hW8 (Nat.le_refl _) (Nat.le_refl _) hM fun v n' I' L' R' ⟨h1, h2, r, h3, h4⟩ => by subst h1; subst h2; subst h3; exact ⟨rfl, kk r I' L' h4⟩
theorem Ef.callVV {k c idx np : Nat} {Q' : Ix → Lx → Prop} (As rest : List Value) {stk : List Value} (hd : decode (mC M) pc = .ok (.invokevirtual idx, 3)) (hp : pc + 3 = pc') (cv : CV (mY M).cls idx M' np) (rm : RM M M') (ob : OB 178 k c) (hcl : (vwCl[c]?).map (fun q => q.1) = some (mY M').cls) (hn : As.length = np) (hst : stk = As.reverse ++ .ref k :: rest) (hW8 : (rest.map fun v => v.category).sum ≤ 8)
    (hM : Mf G M' (.ref k :: As) I L (qV Q')) (kk : ∀ (I' : Ix) (L' : Lx), Q' I' L' → Ef G M Q pc' ls rest I' L') : Ef G M Q pc ls stk I L :=
  Ev.callV hd hp cv rm ob hcl hn hst hW8 (Nat.le_refl _) (Nat.le_refl _) hM fun v n' I' L' R' ⟨h1, h2, h3, h4⟩ => by subst h1; subst h2; subst h3; exact ⟨rfl, kk I' L' h4⟩
theorem Ef.callSI {idx np : Nat} {Q' : Int32 → Ix → Lx → Prop} (As rest : List Value) {stk : List Value} (hd : decode (mC M) pc = .ok (.invokestatic idx, 3)) (hp : pc + 3 = pc') (cv : CS (mY M).cls idx M' np) (rm : RM M M') (hn : As.length = np) (hst : stk = As.reverse ++ rest) (hW8 : (rest.map fun v => v.category).sum ≤ 8)
    (hM : Mf G M' As I L (qI Q')) (kk : ∀ (r : Int32) (I' : Ix) (L' : Lx), Q' r I' L' → Ef G M Q pc' ls (.int r :: rest) I' L') : Ef G M Q pc ls stk I L :=
  Ev.callS hd hp cv rm hn hst hW8 (Nat.le_refl _) (Nat.le_refl _) hM fun v n' I' L' R' ⟨h1, h2, r, h3, h4⟩ => by subst h1; subst h2; subst h3; exact ⟨rfl, kk r I' L' h4⟩
theorem Ef.callSZ {idx np : Nat} {Q' : Bool → Ix → Lx → Prop} (As rest : List Value) {stk : List Value} (hd : decode (mC M) pc = .ok (.invokestatic idx, 3)) (hp : pc + 3 = pc') (cv : CS (mY M).cls idx M' np) (rm : RM M M') (hn : As.length = np) (hst : stk = As.reverse ++ rest) (hW8 : (rest.map fun v => v.category).sum ≤ 8)
    (hM : Mf G M' As I L (qZ Q')) (kk : ∀ (r : Bool) (I' : Ix) (L' : Lx), Q' r I' L' → Ef G M Q pc' ls (.int (b2i r) :: rest) I' L') : Ef G M Q pc ls stk I L :=
  Ev.callS hd hp cv rm hn hst hW8 (Nat.le_refl _) (Nat.le_refl _) hM fun v n' I' L' R' ⟨h1, h2, r, h3, h4⟩ => by subst h1; subst h2; subst h3; exact ⟨rfl, kk r I' L' h4⟩
theorem Ef.callSL {idx np : Nat} {Q' : Int64 → Ix → Lx → Prop} (As rest : List Value) {stk : List Value} (hd : decode (mC M) pc = .ok (.invokestatic idx, 3)) (hp : pc + 3 = pc') (cv : CS (mY M).cls idx M' np) (rm : RM M M') (hn : As.length = np) (hst : stk = As.reverse ++ rest) (hW8 : (rest.map fun v => v.category).sum ≤ 8)
    (hM : Mf G M' As I L (qL Q')) (kk : ∀ (r : Int64) (I' : Ix) (L' : Lx), Q' r I' L' → Ef G M Q pc' ls (.long r :: rest) I' L') : Ef G M Q pc ls stk I L :=
  Ev.callS hd hp cv rm hn hst hW8 (Nat.le_refl _) (Nat.le_refl _) hM fun v n' I' L' R' ⟨h1, h2, r, h3, h4⟩ => by subst h1; subst h2; subst h3; exact ⟨rfl, kk r I' L' h4⟩
theorem Ef.iret {Q : Int32 → Ix → Lx → Prop} {x : Int32} (hd : decode (mC M) pc = .ok (.ireturn, 1)) (hr : mR M = some .int) (hq : Q x I L) : Ef G M (qI Q) pc ls [.int x] I L := Ev.iret hd hr rfl ⟨rfl, rfl, x, rfl, hq⟩
theorem Ef.zret {Q : Bool → Ix → Lx → Prop} {b : Bool} (hd : decode (mC M) pc = .ok (.ireturn, 1)) (hr : mR M = some .boolean) (hq : Q b I L) : Ef G M (qZ Q) pc ls [.int (b2i b)] I L := Ev.zret hd hr (b2i_n b) rfl ⟨rfl, rfl, b, rfl, hq⟩
theorem Ef.zretx {Q : Bool → Ix → Lx → Prop} {x : Int32} (hd : decode (mC M) pc = .ok (.ireturn, 1)) (hr : mR M = some .boolean) (hq : ∃ b, x = b2i b ∧ Q b I L) : Ef G M (qZ Q) pc ls [.int x] I L := by
  obtain ⟨b, rfl, hq⟩ := hq; exact Ef.zret hd hr hq
theorem Ef.lret {Q : Int64 → Ix → Lx → Prop} {x : Int64} (hd : decode (mC M) pc = .ok (.lreturn, 1)) (hr : mR M = some .long) (hq : Q x I L) : Ef G M (qL Q) pc ls [.long x] I L := Ev.lret hd hr rfl ⟨rfl, rfl, x, rfl, hq⟩
theorem Ef.vret {Q : Ix → Lx → Prop} (hd : decode (mC M) pc = .ok (.return_, 1)) (hr : mR M = none) (hq : Q I L) : Ef G M (qV Q) pc ls [] I L := Ev.vret hd hr rfl ⟨rfl, rfl, rfl, hq⟩
theorem Ef.ifz_eq {b : Bool} {off : Int} {tgt : Nat} (hd : decode (mC M) pc = .ok (.ifCond .eq off, 3)) (ht : (pc : Int) + off = (tgt : Int)) (hp : pc + 3 = pc') (kt : b = false → Ef G M Q tgt ls st I L) (kf : b = true → Ef G M Q pc' ls st I L) : Ef G M Q pc ls (.int (b2i b) :: st) I L :=
  Ev.if_eq hd ht hp (fun h => kt (b2i_0 h)) (fun h => kf (b2i_1 h))
theorem Ef.ifz_ne {b : Bool} {off : Int} {tgt : Nat} (hd : decode (mC M) pc = .ok (.ifCond .ne off, 3)) (ht : (pc : Int) + off = (tgt : Int)) (hp : pc + 3 = pc') (kt : b = true → Ef G M Q tgt ls st I L) (kf : b = false → Ef G M Q pc' ls st I L) : Ef G M Q pc ls (.int (b2i b) :: st) I L :=
  Ev.if_ne hd ht hp (fun h => kt (b2i_1 h)) (fun h => kf (b2i_0 h))
theorem Ef.lc_eq {x y : Int64} {off : Int} {tgt pc1 : Nat} (hd : decode (mC M) pc = .ok (.lcmp, 1)) (hp1 : pc + 1 = pc1) (hd1 : decode (mC M) pc1 = .ok (.ifCond .eq off, 3)) (ht : (pc1 : Int) + off = (tgt : Int)) (hp : pc1 + 3 = pc') (kt : x = y → Ef G M Q tgt ls st I L) (kf : ¬ x = y → Ef G M Q pc' ls st I L) : Ef G M Q pc ls (.long y :: .long x :: st) I L :=
  Ev.lcmp hd hp1 (Ev.if_eq hd1 ht hp (fun h => kt ((lg_cmp_eq x y).mp h)) (fun h => kf (fun h' => h ((lg_cmp_eq x y).mpr h'))))
theorem Ef.lc_ne {x y : Int64} {off : Int} {tgt pc1 : Nat} (hd : decode (mC M) pc = .ok (.lcmp, 1)) (hp1 : pc + 1 = pc1) (hd1 : decode (mC M) pc1 = .ok (.ifCond .ne off, 3)) (ht : (pc1 : Int) + off = (tgt : Int)) (hp : pc1 + 3 = pc') (kt : ¬ x = y → Ef G M Q tgt ls st I L) (kf : x = y → Ef G M Q pc' ls st I L) : Ef G M Q pc ls (.long y :: .long x :: st) I L :=
  Ev.lcmp hd hp1 (Ev.if_ne hd1 ht hp (fun h => kt (fun h' => h ((lg_cmp_eq x y).mpr h'))) (fun h => kf ((lg_cmp_eq x y).mp h)))
theorem Ef.lc_le {x y : Int64} {off : Int} {tgt pc1 : Nat} (hd : decode (mC M) pc = .ok (.lcmp, 1)) (hp1 : pc + 1 = pc1) (hd1 : decode (mC M) pc1 = .ok (.ifCond .le off, 3)) (ht : (pc1 : Int) + off = (tgt : Int)) (hp : pc1 + 3 = pc') (kt : x ≤ y → Ef G M Q tgt ls st I L) (kf : ¬ x ≤ y → Ef G M Q pc' ls st I L) : Ef G M Q pc ls (.long y :: .long x :: st) I L :=
  Ev.lcmp hd hp1 (Ev.if_le hd1 ht hp (fun h => kt ((lg_cmp_le x y).mp h)) (fun h => kf (fun h' => h ((lg_cmp_le x y).mpr h'))))
theorem Ef.lc_gt {x y : Int64} {off : Int} {tgt pc1 : Nat} (hd : decode (mC M) pc = .ok (.lcmp, 1)) (hp1 : pc + 1 = pc1) (hd1 : decode (mC M) pc1 = .ok (.ifCond .gt off, 3)) (ht : (pc1 : Int) + off = (tgt : Int)) (hp : pc1 + 3 = pc') (kt : y < x → Ef G M Q tgt ls st I L) (kf : ¬ y < x → Ef G M Q pc' ls st I L) : Ef G M Q pc ls (.long y :: .long x :: st) I L :=
  Ev.lcmp hd hp1 (Ev.if_gt hd1 ht hp (fun h => kt ((lg_cmp_gt x y).mp h)) (fun h => kf (fun h' => h ((lg_cmp_gt x y).mpr h'))))
end EF
theorem sw_out {x : Int32} {lo hi : Int} (h : ∀ v : Int, lo ≤ v → v ≤ hi → ¬ x = Int32.ofInt v) : x.toInt < lo ∨ hi < x.toInt := by
  by_cases h1 : x.toInt < lo
  · exact Or.inl h1
  · by_cases h2 : hi < x.toInt
    · exact Or.inr h2
    · exact absurd (Int32.ofInt_toInt x).symm (h x.toInt (by omega) (by omega))
theorem wsin {C : String} {T : u_T} {N : Nat} (ps : List Nat) (h : ∀ k, k < N → lw_tbl[ps.getD k 0]? = some (u_lay C T k) ∧ goodWord (u_lay C T k) = true) : ∀ w ∈ u_ws C T N, w ∈ tbg := by
  intro w hw
  obtain ⟨k, hk, rfl⟩ := List.mem_map.mp hw
  have h1 := h k (List.mem_range.mp hk)
  exact tb _ h1.1 h1.2
def isB (x : Int32) : Prop := x = 0 ∨ x = 1
theorem isB_n {x : Int32} (h : isB x) : narrow .boolean (.int x) = .int x := by rcases h with rfl | rfl <;> rfl
theorem isB_f {x : Int32} (h : isB x) : fits .boolean (.int x) = true := by rcases h with rfl | rfl <;> rfl
theorem b2i_f (b : Bool) : fits .boolean (.int (b2i b)) = true := by cases b <;> rfl
theorem b2i_a (b : Bool) : b2i b &&& 1 = b2i b := by cases b <;> decide
theorem nowOB {o : Nat} (h : NowAt o) : OB 178 o 2 := by rcases h with rfl | rfl | rfl | rfl | rfl <;> exact ⟨by decide, by decide +kernel, by decide +kernel⟩
theorem nowA1 {o : Nat} (h : NowAt o) : AR 178 (o + 1) 0 10 := by rcases h with rfl | rfl | rfl | rfl | rfl <;> exact ⟨by decide, by decide +kernel, by decide +kernel⟩
theorem nowA2 {o : Nat} (h : NowAt o) : AR 178 (o + 2) 0 10 := by rcases h with rfl | rfl | rfl | rfl | rfl <;> exact ⟨by decide, by decide +kernel, by decide +kernel⟩
theorem nowA3 {o : Nat} (h : NowAt o) : AR 178 (o + 3) 0 10 := by rcases h with rfl | rfl | rfl | rfl | rfl <;> exact ⟨by decide, by decide +kernel, by decide +kernel⟩
theorem nowA4 {o : Nat} (h : NowAt o) : AR 178 (o + 4) 0 10 := by rcases h with rfl | rfl | rfl | rfl | rfl <;> exact ⟨by decide, by decide +kernel, by decide +kernel⟩
theorem nowA5 {o : Nat} (h : NowAt o) : AR 178 (o + 5) 2 10 := by rcases h with rfl | rfl | rfl | rfl | rfl <;> exact ⟨by decide, by decide +kernel, by decide +kernel⟩
theorem nowA6 {o : Nat} (h : NowAt o) : AR 178 (o + 6) 0 6 := by rcases h with rfl | rfl | rfl | rfl | rfl <;> exact ⟨by decide, by decide +kernel, by decide +kernel⟩
theorem nowA7 {o : Nat} (h : NowAt o) : AR 178 (o + 7) 0 6 := by rcases h with rfl | rfl | rfl | rfl | rfl <;> exact ⟨by decide, by decide +kernel, by decide +kernel⟩
theorem nowA8 {o : Nat} (h : NowAt o) : AR 178 (o + 8) 0 600 := by rcases h with rfl | rfl | rfl | rfl | rfl <;> exact ⟨by decide, by decide +kernel, by decide +kernel⟩
theorem nowAt_53 : NowAt 53 := by unfold NowAt; omega
theorem nowAt_70 : NowAt 70 := by unfold NowAt; omega
theorem nowAt_93 : NowAt 93 := by unfold NowAt; omega
theorem nowAt_102 : NowAt 102 := by unfold NowAt; omega
theorem nowAt_111 : NowAt 111 := by unfold NowAt; omega
theorem boxAt {i : Int32} (h : vp_in i 3) : RF 91 i.toNatClampNeg = some (93 + 9 * i.toNatClampNeg) ∧ NowAt (93 + 9 * i.toNatClampNeg) := by
  obtain ⟨j, hj, rfl⟩ := vp_in_of h (by decide)
  rw [nI_clamp (by omega)]
  have : j = 0 ∨ j = 1 ∨ j = 2 := by omega
  rcases this with rfl | rfl | rfl
  · exact ⟨by decide +kernel, nowAt_93⟩
  · exact ⟨by decide +kernel, nowAt_102⟩
  · exact ⟨by decide +kernel, nowAt_111⟩
theorem toInt_eq {x : Int32} {k : Int} {v : Int32} (h : k = x.toInt) (hv : Int32.ofInt k = v) : x = v := by rw [← hv, h, Int32.ofInt_toInt]
theorem in_t1 {w : Cond} (h : w ∈ tables_1_1) : w ∈ lw_tbl := List.mem_append_right _ (List.mem_append_left _ h)
theorem tb1 {w : Cond} (i : Nat) (h : tables_1_1[i]? = some w) (hg : goodWord w = true) : w ∈ tbg := List.mem_filter.mpr ⟨in_t1 (List.mem_of_getElem? h), hg⟩
theorem in_p1 {q : MethodName × Nat} (h : q ∈ lw_privs_1) : q ∈ lw_privs := List.mem_append_left _ h
theorem tbs1 {y : MethodName} (i : Nat) (h : (lw_privs_1[i]?).map (fun q => q.1) = some y) : Cond.selects y.cls y y ∈ tbg := by
  obtain ⟨q, hq, rfl⟩ := Option.map_eq_some_iff.mp h
  exact List.mem_filter.mpr ⟨List.mem_append_left _ (List.mem_map.mpr ⟨q, in_p1 (List.mem_of_getElem? hq), rfl⟩), rfl⟩
theorem in_t2 {w : Cond} (h : w ∈ tables_1_2) : w ∈ lw_tbl := List.mem_append_right _ (List.mem_append_right _ (List.mem_append_left _ h))
theorem tb2 {w : Cond} (i : Nat) (h : tables_1_2[i]? = some w) (hg : goodWord w = true) : w ∈ tbg := List.mem_filter.mpr ⟨in_t2 (List.mem_of_getElem? h), hg⟩
theorem in_p2 {q : MethodName × Nat} (h : q ∈ lw_privs_2) : q ∈ lw_privs := List.mem_append_right _ (List.mem_append_left _ h)
theorem tbs2 {y : MethodName} (i : Nat) (h : (lw_privs_2[i]?).map (fun q => q.1) = some y) : Cond.selects y.cls y y ∈ tbg := by
  obtain ⟨q, hq, rfl⟩ := Option.map_eq_some_iff.mp h
  exact List.mem_filter.mpr ⟨List.mem_append_left _ (List.mem_map.mpr ⟨q, in_p2 (List.mem_of_getElem? hq), rfl⟩), rfl⟩
theorem in_t3 {w : Cond} (h : w ∈ tables_1_3) : w ∈ lw_tbl := List.mem_append_right _ (List.mem_append_right _ (List.mem_append_right _ (List.mem_append_left _ h)))
theorem tb3 {w : Cond} (i : Nat) (h : tables_1_3[i]? = some w) (hg : goodWord w = true) : w ∈ tbg := List.mem_filter.mpr ⟨in_t3 (List.mem_of_getElem? h), hg⟩
theorem in_p3 {q : MethodName × Nat} (h : q ∈ lw_privs_3) : q ∈ lw_privs := List.mem_append_right _ (List.mem_append_right _ (List.mem_append_left _ h))
theorem tbs3 {y : MethodName} (i : Nat) (h : (lw_privs_3[i]?).map (fun q => q.1) = some y) : Cond.selects y.cls y y ∈ tbg := by
  obtain ⟨q, hq, rfl⟩ := Option.map_eq_some_iff.mp h
  exact List.mem_filter.mpr ⟨List.mem_append_left _ (List.mem_map.mpr ⟨q, in_p3 (List.mem_of_getElem? hq), rfl⟩), rfl⟩
theorem in_t4 {w : Cond} (h : w ∈ tables_1_4) : w ∈ lw_tbl := List.mem_append_right _ (List.mem_append_right _ (List.mem_append_right _ (List.mem_append_right _ (List.mem_append_left _ h))))
theorem tb4 {w : Cond} (i : Nat) (h : tables_1_4[i]? = some w) (hg : goodWord w = true) : w ∈ tbg := List.mem_filter.mpr ⟨in_t4 (List.mem_of_getElem? h), hg⟩
theorem in_p4 {q : MethodName × Nat} (h : q ∈ lw_privs_4) : q ∈ lw_privs := List.mem_append_right _ (List.mem_append_right _ (List.mem_append_right _ (List.mem_append_left _ h)))
theorem tbs4 {y : MethodName} (i : Nat) (h : (lw_privs_4[i]?).map (fun q => q.1) = some y) : Cond.selects y.cls y y ∈ tbg := by
  obtain ⟨q, hq, rfl⟩ := Option.map_eq_some_iff.mp h
  exact List.mem_filter.mpr ⟨List.mem_append_left _ (List.mem_map.mpr ⟨q, in_p4 (List.mem_of_getElem? hq), rfl⟩), rfl⟩
theorem in_t5 {w : Cond} (h : w ∈ tables_1_5) : w ∈ lw_tbl := List.mem_append_right _ (List.mem_append_right _ (List.mem_append_right _ (List.mem_append_right _ (List.mem_append_right _ (List.mem_append_left _ h)))))
theorem tb5 {w : Cond} (i : Nat) (h : tables_1_5[i]? = some w) (hg : goodWord w = true) : w ∈ tbg := List.mem_filter.mpr ⟨in_t5 (List.mem_of_getElem? h), hg⟩
theorem in_p5 {q : MethodName × Nat} (h : q ∈ lw_privs_5) : q ∈ lw_privs := List.mem_append_right _ (List.mem_append_right _ (List.mem_append_right _ (List.mem_append_right _ (List.mem_append_left _ h))))
theorem tbs5 {y : MethodName} (i : Nat) (h : (lw_privs_5[i]?).map (fun q => q.1) = some y) : Cond.selects y.cls y y ∈ tbg := by
  obtain ⟨q, hq, rfl⟩ := Option.map_eq_some_iff.mp h
  exact List.mem_filter.mpr ⟨List.mem_append_left _ (List.mem_map.mpr ⟨q, in_p5 (List.mem_of_getElem? hq), rfl⟩), rfl⟩
theorem in_t6 {w : Cond} (h : w ∈ tables_1_6) : w ∈ lw_tbl := List.mem_append_right _ (List.mem_append_right _ (List.mem_append_right _ (List.mem_append_right _ (List.mem_append_right _ (List.mem_append_right _ (List.mem_append_left _ h))))))
theorem tb6 {w : Cond} (i : Nat) (h : tables_1_6[i]? = some w) (hg : goodWord w = true) : w ∈ tbg := List.mem_filter.mpr ⟨in_t6 (List.mem_of_getElem? h), hg⟩
theorem in_p6 {q : MethodName × Nat} (h : q ∈ lw_privs_6) : q ∈ lw_privs := List.mem_append_right _ (List.mem_append_right _ (List.mem_append_right _ (List.mem_append_right _ (List.mem_append_right _ (List.mem_append_left _ h)))))
theorem tbs6 {y : MethodName} (i : Nat) (h : (lw_privs_6[i]?).map (fun q => q.1) = some y) : Cond.selects y.cls y y ∈ tbg := by
  obtain ⟨q, hq, rfl⟩ := Option.map_eq_some_iff.mp h
  exact List.mem_filter.mpr ⟨List.mem_append_left _ (List.mem_map.mpr ⟨q, in_p6 (List.mem_of_getElem? hq), rfl⟩), rfl⟩
theorem in_t7 {w : Cond} (h : w ∈ tables_1_7) : w ∈ lw_tbl := List.mem_append_right _ (List.mem_append_right _ (List.mem_append_right _ (List.mem_append_right _ (List.mem_append_right _ (List.mem_append_right _ (List.mem_append_right _ (List.mem_append_left _ h)))))))
theorem tb7 {w : Cond} (i : Nat) (h : tables_1_7[i]? = some w) (hg : goodWord w = true) : w ∈ tbg := List.mem_filter.mpr ⟨in_t7 (List.mem_of_getElem? h), hg⟩
theorem in_p7 {q : MethodName × Nat} (h : q ∈ lw_privs_7) : q ∈ lw_privs := List.mem_append_right _ (List.mem_append_right _ (List.mem_append_right _ (List.mem_append_right _ (List.mem_append_right _ (List.mem_append_right _ (List.mem_append_left _ h))))))
theorem tbs7 {y : MethodName} (i : Nat) (h : (lw_privs_7[i]?).map (fun q => q.1) = some y) : Cond.selects y.cls y y ∈ tbg := by
  obtain ⟨q, hq, rfl⟩ := Option.map_eq_some_iff.mp h
  exact List.mem_filter.mpr ⟨List.mem_append_left _ (List.mem_map.mpr ⟨q, in_p7 (List.mem_of_getElem? hq), rfl⟩), rfl⟩
theorem in_t8 {w : Cond} (h : w ∈ tables_1_8) : w ∈ lw_tbl := List.mem_append_right _ (List.mem_append_right _ (List.mem_append_right _ (List.mem_append_right _ (List.mem_append_right _ (List.mem_append_right _ (List.mem_append_right _ (List.mem_append_right _ (List.mem_append_left _ h))))))))
theorem tb8 {w : Cond} (i : Nat) (h : tables_1_8[i]? = some w) (hg : goodWord w = true) : w ∈ tbg := List.mem_filter.mpr ⟨in_t8 (List.mem_of_getElem? h), hg⟩
theorem in_p8 {q : MethodName × Nat} (h : q ∈ lw_privs_8) : q ∈ lw_privs := List.mem_append_right _ (List.mem_append_right _ (List.mem_append_right _ (List.mem_append_right _ (List.mem_append_right _ (List.mem_append_right _ (List.mem_append_right _ (List.mem_append_left _ h)))))))
theorem tbs8 {y : MethodName} (i : Nat) (h : (lw_privs_8[i]?).map (fun q => q.1) = some y) : Cond.selects y.cls y y ∈ tbg := by
  obtain ⟨q, hq, rfl⟩ := Option.map_eq_some_iff.mp h
  exact List.mem_filter.mpr ⟨List.mem_append_left _ (List.mem_map.mpr ⟨q, in_p8 (List.mem_of_getElem? hq), rfl⟩), rfl⟩
theorem in_t9 {w : Cond} (h : w ∈ tables_1_9) : w ∈ lw_tbl := List.mem_append_right _ (List.mem_append_right _ (List.mem_append_right _ (List.mem_append_right _ (List.mem_append_right _ (List.mem_append_right _ (List.mem_append_right _ (List.mem_append_right _ (List.mem_append_right _ (h)))))))))
theorem tb9 {w : Cond} (i : Nat) (h : tables_1_9[i]? = some w) (hg : goodWord w = true) : w ∈ tbg := List.mem_filter.mpr ⟨in_t9 (List.mem_of_getElem? h), hg⟩
theorem in_p9 {q : MethodName × Nat} (h : q ∈ lw_privs_9) : q ∈ lw_privs := List.mem_append_right _ (List.mem_append_right _ (List.mem_append_right _ (List.mem_append_right _ (List.mem_append_right _ (List.mem_append_right _ (List.mem_append_right _ (List.mem_append_right _ (h))))))))
theorem tbs9 {y : MethodName} (i : Nat) (h : (lw_privs_9[i]?).map (fun q => q.1) = some y) : Cond.selects y.cls y y ∈ tbg := by
  obtain ⟨q, hq, rfl⟩ := Option.map_eq_some_iff.mp h
  exact List.mem_filter.mpr ⟨List.mem_append_left _ (List.mem_map.mpr ⟨q, in_p9 (List.mem_of_getElem? hq), rfl⟩), rfl⟩
def imax (x y : Int32) : Int32 := if x < y then y else x
def imin (x y : Int32) : Int32 := if y < x then y else x
theorem Ev.mmax {G : Gx} {M : Mx} {n0 nF : Nat} {Q : Qx} {pc pc' : Nat} {ls : List (Nat × Value)} {st : List Value} {n : Nat} {I : Ix} {L : Lx} {R : Rx} {idx : Nat} {x y : Int32} (hd : decode (mC M) pc = .ok (.invokestatic idx, 3)) (hp : pc + 3 = pc') (w1 : Cond.methodLink (mY M).cls idx Lib.Math.max.name ∈ tbg) (w2 : Cond.static Lib.Math.max.name ∈ tbg ∧ Cond.initialized "java/lang/Math" ∈ tbg ∧ Cond.code Lib.Math.max.name Lib.Math.max.code 2 (some .int) ∈ tbg) (hd1 : 1 ≤ mD M) (hW8 : (st.map fun v => v.category).sum ≤ 8) (kk : Ev G M n0 nF Q pc' ls (.int (imax x y) :: st) n I L R) : Ev G M n0 nF Q pc ls (.int y :: .int x :: st) n I L R := by
  subst hp; intro p e s m args below meth c hC H locs la hW hS h h0 hF
  have hts := hC.2.2.2.2.2.2.1
  have t0 := tot_mono h0; have t1 := tot_mono hF
  refine va_mmax hC.1 hC.2.1 (hC.2.2.2.2.1.trans h.1.symm) hC.2.2.2.2.2.1 (hts _ w1) (hts _ w2.1) (hts _ w2.2.1) (hts _ w2.2.2) hd1 ?_ ?_ ?_ hd (kk p e s m args below meth c hC H locs la hW hS h h0 hF)
  · rw [gv_catsum]; show _ + 13 ≤ 60 * mD M; omega
  · show n - n0 ≤ nF - n0; omega
  · show tot n - tot n0 ≤ tot nF - tot n0; omega
theorem Ev.mmin {G : Gx} {M : Mx} {n0 nF : Nat} {Q : Qx} {pc pc' : Nat} {ls : List (Nat × Value)} {st : List Value} {n : Nat} {I : Ix} {L : Lx} {R : Rx} {idx : Nat} {x y : Int32} (hd : decode (mC M) pc = .ok (.invokestatic idx, 3)) (hp : pc + 3 = pc') (w1 : Cond.methodLink (mY M).cls idx Lib.Math.min.name ∈ tbg) (w2 : Cond.static Lib.Math.min.name ∈ tbg ∧ Cond.initialized "java/lang/Math" ∈ tbg ∧ Cond.code Lib.Math.min.name Lib.Math.min.code 2 (some .int) ∈ tbg) (hd1 : 1 ≤ mD M) (hW8 : (st.map fun v => v.category).sum ≤ 8) (kk : Ev G M n0 nF Q pc' ls (.int (imin x y) :: st) n I L R) : Ev G M n0 nF Q pc ls (.int y :: .int x :: st) n I L R := by
  subst hp; intro p e s m args below meth c hC H locs la hW hS h h0 hF
  have hts := hC.2.2.2.2.2.2.1
  have t0 := tot_mono h0; have t1 := tot_mono hF
  refine va_mmin hC.1 hC.2.1 (hC.2.2.2.2.1.trans h.1.symm) hC.2.2.2.2.2.1 (hts _ w1) (hts _ w2.1) (hts _ w2.2.1) (hts _ w2.2.2) hd1 ?_ ?_ ?_ hd (kk p e s m args below meth c hC H locs la hW hS h h0 hF)
  · rw [gv_catsum]; show _ + 13 ≤ 60 * mD M; omega
  · show n - n0 ≤ nF - n0; omega
  · show tot n - tot n0 ≤ tot nF - tot n0; omega
theorem nowR1 {o : Nat} (h : NowAt o) : RF o 3 = some (o + 1) := by rcases h with rfl | rfl | rfl | rfl | rfl <;> decide +kernel
theorem nowR2 {o : Nat} (h : NowAt o) : RF o 4 = some (o + 2) := by rcases h with rfl | rfl | rfl | rfl | rfl <;> decide +kernel
theorem nowR3 {o : Nat} (h : NowAt o) : RF o 5 = some (o + 3) := by rcases h with rfl | rfl | rfl | rfl | rfl <;> decide +kernel
theorem nowR4 {o : Nat} (h : NowAt o) : RF o 6 = some (o + 4) := by rcases h with rfl | rfl | rfl | rfl | rfl <;> decide +kernel
theorem nowR5 {o : Nat} (h : NowAt o) : RF o 7 = some (o + 5) := by rcases h with rfl | rfl | rfl | rfl | rfl <;> decide +kernel
theorem nowR6 {o : Nat} (h : NowAt o) : RF o 8 = some (o + 6) := by rcases h with rfl | rfl | rfl | rfl | rfl <;> decide +kernel
theorem nowR7 {o : Nat} (h : NowAt o) : RF o 9 = some (o + 7) := by rcases h with rfl | rfl | rfl | rfl | rfl <;> decide +kernel
theorem nowR8 {o : Nat} (h : NowAt o) : RF o 10 = some (o + 8) := by rcases h with rfl | rfl | rfl | rfl | rfl <;> decide +kernel
theorem ac_native : Cond.native arraycopyName ∈ tbg := tb4 45 (by decide +kernel) (by decide +kernel)
theorem ac_static : Cond.static arraycopyName ∈ tbg := tb4 44 (by decide +kernel) (by decide +kernel)
theorem ac_init : Cond.initialized "java/lang/System" ∈ tbg := tb1 18 (by decide +kernel) (by decide +kernel)
theorem mmax_w : Cond.static Lib.Math.max.name ∈ tbg ∧ Cond.initialized "java/lang/Math" ∈ tbg ∧ Cond.code Lib.Math.max.name Lib.Math.max.code 2 (some .int) ∈ tbg := ⟨tb4 77 (by decide +kernel) (by decide +kernel), tb1 19 (by decide +kernel) (by decide +kernel), tb4 78 (by decide +kernel) (by decide +kernel)⟩
theorem mmin_w : Cond.static Lib.Math.min.name ∈ tbg ∧ Cond.initialized "java/lang/Math" ∈ tbg ∧ Cond.code Lib.Math.min.name Lib.Math.min.code 2 (some .int) ∈ tbg := ⟨tb4 84 (by decide +kernel) (by decide +kernel), tb1 19 (by decide +kernel) (by decide +kernel), tb4 85 (by decide +kernel) (by decide +kernel)⟩
