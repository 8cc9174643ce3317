theorem Ev.ldc_w {G : Gx} {M : Mx} {n0 nF : Nat} {Q : Qx} {pc pc' : Nat} {ls : List (Nat × Value)} {st : List Value} {n : Nat} {I : Ix} {L : Lx} {R : Rx} {i : Nat} {v : Int32} (hd : decode (mC M) pc = .ok (.ldc_w i, 3)) (hp : pc + 3 = pc') (hw : Cond.constant (mY M).cls i v ∈ tbg) (kk : Ev G M n0 nF Q pc' ls (.int v :: st) n I L R) : Ev G M n0 nF Q pc ls st n I L R := by
  subst hp; intro p e s m args below meth c hC H locs la hW hS h h0 hF
  exact lv_ldcw hC.1 hC.2.1 hC.2.2.2.2.2.1 (hC.2.2.2.2.2.2.1 _ hw) hd (kk p e s m args below meth c hC H locs la hW hS h h0 hF)
theorem lk_out {dflt k : Int} : ∀ {ps : List (Int × Int)}, (∀ q ∈ ps, ¬ q.1 = k) → Op.lookupswitch.offset ps dflt k = dflt
  | [], _ => rfl
  | (a, o) :: r, h => by
    rw [Op.lookupswitch.offset_cons, if_neg (h (a, o) List.mem_cons_self)]
    exact lk_out fun q hq => h q (List.mem_cons_of_mem _ hq)
