/-! the run's first part: constructors -/
section CT
variable {G : Gx} {M : Mx} {n0 nF : Nat} {Q : Qx} {pc : Nat} {ls : List (Nat × Value)} {st : List Value} {n : Nat} {I : Ix} {L : Lx} {R : Rx} {pc' : Nat}
theorem va_up_id {α : Type} {f : Nat → α} {n : Nat} {v : α} (h : f n = v) : va_up f n v = f := by
  funext a
  by_cases ha : a = n
  · subst ha; simp [va_up, h]
  · simp [va_up, ha]
theorem Ev.newO' {idx c N : Nat} {C : String} {T : u_T} {tyT : Nat → FieldType} (hd : decode (mC M) pc = .ok (.new idx, 3)) (hp : pc + 3 = pc') (hc : vwCl[c]? = some (C, T, N)) (hlen : (fkL.getD c []).length = N) (hin : ∀ w ∈ u_ws C T N, w ∈ tbg) (hty : ∀ k, k < N → parseFieldDescriptor (T k).2.2.1 = some (tyT k))
    (hdef : ∀ j, j < N → defaultValue (tyT j) = match fk c j with | 0 => .int 0 | 1 => .long 0 | _ => .null) (w1 : Cond.classLink (mY M).cls idx C ∈ tbg) (w2 : Cond.instantiable C N ∈ tbg) (w3 : Cond.initialized C ∈ tbg) (ob : OB (n + 1) n c) (hn : n < nF) (hn8 : n < 178) (hI : I n = fun _ => 0) (hL : L n = fun _ => 0)
    (kk : Ev G M n0 nF Q pc' ls (.ref n :: st) (n + 1) I L (va_up R n (fun _ => none))) : Ev G M n0 nF Q pc ls st n I L R := by
  refine Ev.newO hd hp hc hlen hin hty hdef w1 w2 w3 ob hn hn8 ?_
  rw [va_up_id hI, va_up_id hL]; exact kk
theorem Ev.newA' {atype : ArrayType} {ty : FieldType} (t : Nat) {N : Nat} {i : Int32} (hd : decode (mC M) pc = .ok (.newarray atype, 2)) (hp : pc + 2 = pc') (hty : newarray.typeOf atype = ty) (hprim : ∀ U : State, ∀ cA, va_RA U cA ty → U.vm.findClass ("[" ++ ty.toString) = some cA) (w1 : Cond.arrayClass ty ∈ tbg) (hi : i = nI N) (hN : N < 1000000) (ht : (tyx G)[t]? = some (gC G t, ty)) (ar : AR (n + 1) n t N) (ht4 : t < 4)
    (hdv : defaultValue ty = if t = 1 then .long 0 else .int 0) (hcb : componentBytes ty ≤ 8) (hn : n < nF) (hn8 : n < 178) (hI : I n = fun _ => 0) (hL : L n = fun _ => 0)
    (kk : Ev G M n0 nF Q pc' ls (.ref n :: st) (n + 1) I L (va_up R n (fun _ => none))) : Ev G M n0 nF Q pc ls (.int i :: st) n I L R := by
  refine Ev.newA (t := t) hd hp hty hprim w1 hi hN ht ar ?_ hdv hcb hn hn8 ?_
  · have h4 : t = 0 ∨ t = 1 ∨ t = 2 ∨ t = 3 := by omega
    rcases h4 with rfl | rfl | rfl | rfl
    · rw [ent_a0 ar]; simp [va_up]
    · rw [ent_a1 ar]; simp [va_up]
    · rw [ent_a2 ar]; simp [va_up]
    · rw [ent_a3 ar]; simp [va_up]
  · rw [va_up_id hI, va_up_id hL]; exact kk
theorem Ev.newQ {idx N : Nat} {i : Int32} (hd : decode (mC M) pc = .ok (.anewarray idx, 3)) (hp : pc + 3 = pc') (w1 : Cond.classLink (mY M).cls idx "NoonSquare$Now" ∈ tbg) (w2 : ∀ U : State, gO G U → va_AO "NoonSquare$Now" U) (hi : i = nI N) (hN : N < 1000000) (ar : AR (n + 1) n 4 N) (hn : n < nF) (hn8 : n < 178) (hI : I n = fun _ => 0) (hL : L n = fun _ => 0)
    (kk : Ev G M n0 nF Q pc' ls (.ref n :: st) (n + 1) I L (va_up R n (fun _ => none))) : Ev G M n0 nF Q pc ls (.int i :: st) n I L R := by
  subst hp; intro p e s m args below meth c' hC H locs la hW hS h h0 hF
  have hts := hC.2.2.2.2.2.2.1
  have hK := hC.2.2.2.2.2.2.2.1.1
  have hsz := hW.2.1 hn8
  have hsl : sl n = N := ar.2.2
  have t0 := tot_mono h0; have t1 := tot_succ n; have t2 := tot_mono (show n + 1 ≤ nF from hn)
  subst hi
  have hcl : (nI N).toNatClampNeg = N := nI_clamp (by omega)
  refine W.anew hC.1 hC.2.1 hC.2.2.2.2.2.1 (hts _ w1) (va_AO.use (w2 s hC.2.2.2.2.2.2.2.1.2.1)) rfl hd rfl (nI_pos (by omega)) (by rw [hcl]; omega) ?_ ?_ fun cA kA comp f1 f2 f3 f4 => ?_
  · show n - n0 + 1 ≤ nF - n0; omega
  · rw [hcl]; show tot n - tot n0 + N ≤ tot nF - tot n0; omega
  rw [hcl]
  have hcn : n - n0 + 1 = n + 1 - n0 := by omega
  have hcs : tot n - tot n0 + N = tot (n + 1) - tot n0 := by omega
  rw [hcn, hcs]
  generalize hH1 : H.push ({ cls := cA, slots := Array.replicate N .null, vm := .none } : Cell) = H1
  have z1 : H1.size = H.size + 1 := by rw [← hH1, Array.size_push]
  have e1 : H1[H.size]? = some (arrV cA N (fun _ => .null)) := by rw [← hH1, Array.getElem?_push_size, ← arrV_new]
  have o1 : ∀ q : Nat, q < H.size → H1[q]? = H[q]? := fun q hq => by rw [← hH1, Array.getElem?_push, if_neg (Nat.ne_of_lt hq)]
  obtain ⟨kA', comp', g1, g2, g3, g4⟩ := (hK.2 4 _ rfl).2
  have hcA : cA = gC G 4 := Option.some.inj (f1.symm.trans g4)
  have hW' : Wd G (n + 1) I L (va_up R n (fun _ => none)) H1 := by
    refine hW.grow hn8 (by omega) (fun q hq => o1 q (by omega)) ?_ (fun j hj => by simp [va_up, hj])
    rw [ent_a4 ar]
    show H1[gb G + n]? = some (vp_cell _ _)
    rw [← hsz, e1, hcA, vp_cell_q]
    simp [va_up, va_rf]
  have h1 := kk p e s m args below meth c' hC H1 locs la hW' ⟨Nat.le_trans hS.1 (by omega), fun q h1 h2 => (o1 q (Nat.lt_of_lt_of_le h1 hS.1)).trans (hS.2.1 q h1 h2), hS.2.2⟩ h (by omega) hn
  show W _ _ _ _ _ _ _ _ _ _ _ _ _ _ _ (F0 m (pc + 3) la (.ref H.size :: st.map (gv G)))
  rw [hsz]
  have hg : gA G n = gb G + n := gA_lt (by omega)
  rw [← hg]
  exact h1
theorem Ev.aastore {k N r : Nat} {i : Int32} (hd : decode (mC M) pc = .ok (.aastore, 1)) (hp : pc + 1 = pc') (ar : AR n k 4 N) (ob : OB n r 2) (hin : vp_in i N) (kk : Ev G M n0 nF Q pc' ls st n I L (pu R k i.toNatClampNeg (some r))) : Ev G M n0 nF Q pc ls (.ref r :: .int i :: .ref k :: st) n I L R := by
  subst hp; intro p e s m args below meth c' hC H locs la hW hS h h0 hF
  show W _ _ _ _ _ _ _ _ _ _ _ _ _ _ _ (F0 m pc la (.ref (gA G r) :: .int i :: .ref (gA G k) :: st.map (gv G)))
  have hr : gA G r = gb G + r := gA_of hW ob.1
  rw [gA_of hW ar.1]
  have hK := hC.2.2.2.2.2.2.2.1.1
  have hat := hW.at ar.1
  rw [ent_a4 ar] at hat
  have hob := hW.at ob.1
  rw [ent_ob ob] at hob
  obtain ⟨r', hr', cellV, g1, g2, g3, -⟩ := hob
  have hlt : i.toNatClampNeg < N := Nat.not_le.mp fun q => hin (Or.inr q)
  have h00 : ¬ i < 0 := fun q => hin (Or.inl q)
  have hcls := (hK.1 2 (RX2, TX2, 11) rfl).2
  obtain ⟨kA, comp, k1, k2, k3, -⟩ := (hK.2 4 _ rfl).2
  have hcomp : comp = (gD G).1 2 := Option.some.inj (k3.symm.trans hcls.1)
  subst hcomp
  obtain ⟨kC, hkC, -⟩ := hcls.2
  rw [hr]
  refine W.aast hC.1 hC.2.1 hat (fun q h => by cases h) (fun h => by cases h) k1 k2 rfl hkC ⟨h00, by show _ < (arrV _ _ _).slots.size; rw [arrV_size]; exact hlt⟩ g1 (fun q h => by rw [g3] at h; cases h) (by rw [g2]; exact hkC) (by rw [g2]; exact va_assign hcls) rfl rfl hd fun H1 e1 z oq => ?_
  refine kk p e s m args below meth c' hC H1 _ la (hW.up ar.1 z oq ?_ fun j hj => ent_ne rfl rfl (pu_ne _ _ _ hj)) (hS.put z oq (Nat.le_add_right _ _)) h h0 hF
  rw [ent_a4 ar]
  show H1[gb G + k]? = some (vp_cell _ _)
  rw [e1, vp_cell_q, vp_cell_q, arrV_store, pu_at]
  congr 2
  funext q
  by_cases hq : q = i.toNatClampNeg
  · subst hq; simp [updV, va_up, va_rf, hr]
  · simp [updV, va_up, hq]
/-! old cells: the constant's text -/
theorem Ev.getO {idx k : Nat} {o f d : String} {v : Value} (hd : decode (mC M) pc = .ok (.getfield idx, 3)) (hp : pc + 3 = pc') (hw : Cond.fieldLink (mY M).cls idx o f d ∈ tbg) (hO : ∀ U : State, gO G U → va_OF o f d (gv G v) (gA G k) (gF G) U U.heap) (kk : Ev G M n0 nF Q pc' ls (v :: st) n I L R) : Ev G M n0 nF Q pc ls (.ref k :: st) n I L R := by
  subst hp; intro p e s m args below meth c hC H locs la hW hS h h0 hF
  exact vk_getf hC.1 hC.2.1 (hO s hC.2.2.2.2.2.2.2.1.2.1) hS hC.2.2.2.2.2.1 (hC.2.2.2.2.2.2.1 _ hw) (fun _ h9 => h9) hd (kk p e s m args below meth c hC H locs la hW hS h h0 hF)
theorem Ev.gets {idx : Nat} {o f d : String} {v : Value} (hd : decode (mC M) pc = .ok (.getstatic idx, 3)) (hp : pc + 3 = pc') (hw : Cond.fieldLink (mY M).cls idx o f d ∈ tbg) (hO : ∀ U : State, gO G U → va_Z o f d (gv G v) (gF G) U U.heap) (kk : Ev G M n0 nF Q pc' ls (v :: st) n I L R) : Ev G M n0 nF Q pc ls st n I L R := by
  subst hp; intro p e s m args below meth c hC H locs la hW hS h h0 hF
  exact va_gets hC.1 hC.2.1 (hO s hC.2.2.2.2.2.2.2.1.2.1) hS hC.2.2.2.2.2.1 (hC.2.2.2.2.2.2.1 _ hw) (fun _ h9 => h9) hd (kk p e s m args below meth c hC H locs la hW hS h h0 hF)
theorem Ev.lenO {k N : Nat} {ty : FieldType} {f : Nat → Value} (hd : decode (mC M) pc = .ok (.arraylength, 1)) (hp : pc + 1 = pc') (hO : ∀ U : State, gO G U → va_T ty (gA G k) N f (gF G) U U.heap) (kk : Ev G M n0 nF Q pc' ls (.int (nI N) :: st) n I L R) : Ev G M n0 nF Q pc ls (.ref k :: st) n I L R := by
  subst hp; intro p e s m args below meth c hC H locs la hW hS h h0 hF
  exact va_tlen hC.1 hC.2.1 (hO s hC.2.2.2.2.2.2.2.1.2.1) hS rfl hd (kk p e s m args below meth c hC H locs la hW hS h h0 hF)
theorem Ev.baloadO {k N : Nat} {i : Int32} {f : Nat → Int32} (hd : decode (mC M) pc = .ok (.baload, 1)) (hp : pc + 1 = pc') (hO : ∀ U : State, gO G U → va_T .byte (gA G k) N (fun j => .int (f j)) (gF G) U U.heap) (hin : vp_in i N) (kk : Ev G M n0 nF Q pc' ls (.int (f i.toNatClampNeg) :: st) n I L R) : Ev G M n0 nF Q pc ls (.int i :: .ref k :: st) n I L R := by
  subst hp; intro p e s m args below meth c hC H locs la hW hS h h0 hF
  exact va_tb hC.1 hC.2.1 (hO s hC.2.2.2.2.2.2.2.1.2.1) hS hin rfl hd (kk p e s m args below meth c hC H locs la hW hS h h0 hF)
theorem Ev.ialoadO {k N : Nat} {i : Int32} {f : Nat → Int32} (hd : decode (mC M) pc = .ok (.iaload, 1)) (hp : pc + 1 = pc') (hO : ∀ U : State, gO G U → va_T .int (gA G k) N (fun j => .int (f j)) (gF G) U U.heap) (hin : vp_in i N) (kk : Ev G M n0 nF Q pc' ls (.int (f i.toNatClampNeg) :: st) n I L R) : Ev G M n0 nF Q pc ls (.int i :: .ref k :: st) n I L R := by
  subst hp; intro p e s m args below meth c hC H locs la hW hS h h0 hF
  exact va_ti hC.1 hC.2.1 (hO s hC.2.2.2.2.2.2.2.1.2.1) hS hin rfl hd (kk p e s m args below meth c hC H locs la hW hS h h0 hF)
theorem Ev.ldcS {idx k : Nat} {tx : String} (hd : decode (mC M) pc = .ok (.ldc idx, 2)) (hp : pc + 2 = pc') (hO : ∀ U : State, gO G U → vk_R (mY M).cls idx tx (gA G k) U) (kk : Ev G M n0 nF Q pc' ls (.ref k :: st) n I L R) : Ev G M n0 nF Q pc ls st n I L R := by
  subst hp; intro p e s m args below meth c hC H locs la hW hS h h0 hF
  exact va_ldcS hC.1 hC.2.1 hC.2.2.2.2.2.1 (hO s hC.2.2.2.2.2.2.2.1.2.1) hd (kk p e s m args below meth c hC H locs la hW hS h h0 hF)
theorem Ev.i2c {x : Int32} (hd : decode (mC M) pc = .ok (.i2c, 1)) (hp : pc + 1 = pc') (kk : Ev G M n0 nF Q pc' ls (.int (x.toUInt32 % 65536).toInt32 :: st) n I L R) : Ev G M n0 nF Q pc ls (.int x :: st) n I L R := by
  subst hp; intro p e s m args below meth c hC H locs la hW hS h h0 hF
  exact lv_i2c hC.1 hC.2.1 hd rfl (kk p e s m args below meth c hC H locs la hW hS h h0 hF)
theorem Ev.astore_n {j : Fin 4} {i : Nat} {x : Nat} {ls' : List (Nat × Value)} (hd : decode (mC M) pc = .ok (.astore_n j, 1)) (hi : (j : Nat) = i) (hp : pc + 1 = pc') (hn : i < mL M) (hl : (i, .ref x) :: ls.filter (lf1 i) = ls') (kk : Ev G M n0 nF Q pc' ls' st n I L R) : Ev G M n0 nF Q pc ls (.ref x :: st) n I L R := by
  subst hp; intro p e s m args below meth c hC H locs la hW hS h h0 hF
  exact lv_astore_n hC.1 hC.2.1 hd hi h hn (lf1_map hl) fun la' h' => kk p e s m args below meth c hC H locs la' hW hS h' h0 hF
/-- a virtual call on an old object -/
theorem Ev.callO {M' : Mx} {k idx np : Nat} {Q' : Qx} {As rest stk : List Value} (hd : decode (mC M) pc = .ok (.invokevirtual idx, 3)) (hp : pc + 3 = pc') (cv : CV (mY M).cls idx M' np) (rm : RM M M') (hO : ∀ U : State, gO G U → va_O (mY M').cls (gA G k) (gF G) U U.heap) (hn : As.length = np) (hst : stk = As.reverse ++ .ref k :: rest) (hW8 : (rest.map fun v => v.category).sum ≤ 8) (hnF : n ≤ nF)
    (hM : Mt G M' (.ref k :: As) n I L R n Q') (kk : ∀ (v : Option Value) (n' : Nat) (I' : Ix) (L' : Lx) (R' : Rx), Q' v n' I' L' R' → n' = n ∧ Ev G M n0 nF Q pc' ls (v.toList ++ rest) n' I' L' R') : Ev G M n0 nF Q pc ls stk n I L R := by
  subst hp
  refine Ev.run (m' := id) (len := 3) (Nat.le_refl _) rfl hnF (as := ((.ref k :: As).map (gv G)).toArray) (rest := rest) ?_ kk
  intro p e s m args below meth c' H locs la hC hW hS h h0 hF
  have hts := hC.2.2.2.2.2.2.1
  obtain ⟨w1, w2, w3, w4, w5, w6⟩ := cv
  obtain ⟨cell, q1, q2, q3, q4⟩ := (hO s hC.2.2.2.2.2.2.2.1.2.1).kept hS.2.1
  refine va_runV (C := (mY M').cls) (As := As.map (gv G)) (b := gA G k) (n := np) (bytes := mC M') (maxL := mL M') (ret := mR M') (rm := rmM M' n n) ⟨hC.1, hC.2.1, hC.2.2.2.2.1, hC.2.2.2.2.2.1, hts⟩ hM ⟨callB_of np hts (wsM_good w5) rfl rfl rfl (hts _ w4) (hts _ w1) w6 rm.ok, hts _ w2, hts _ w3⟩ ⟨Pcx_blind, ⟨cell, q1, q2, q3⟩, fun U hU hw => Ev.pre (as := .ref k :: As) hC hW hS U hU hw⟩ rfl (by simpa using hn) h.1 ?_ ?_ hd (Ev.roomc h0 (Nat.le_refl _) hnF)
  · subst hst; simp [gv, List.map_reverse]
  · refine lv_room ?_
    rw [gv_catsum]; exact hW8
/-- which references matter -/
def REQ (R R' : Rx) : Prop := ∀ k, k < 178 → (10 ≤ sk k ∨ sk k = 4) → ∀ j, j < sl k → R k j = R' k j
theorem Wd.toR {R' : Rx} {H : Heap} (hr : REQ R R') (hW : Wd G 178 I L R H) : Wd G 178 I L R' H := by
  refine ⟨fun k q hk => ?_, hW.2⟩
  obtain ⟨hk8, rfl⟩ := wsx_inv hk
  have hat := hW.at hk8
  by_cases h4 : 10 ≤ sk k
  · have he : ent G I L R' k = ent G I L R k := by
      obtain ⟨c, hc⟩ : ∃ c, sk k = c + 10 := ⟨sk k - 10, by omega⟩
      unfold ent
      simp only [hc]
      congr 2
      refine List.map_congr_left fun j hj => ?_
      have := hr k hk8 (Or.inl h4) j (List.mem_range.mp hj)
      unfold fv
      rw [this]
    show va_at _ _ (gb G + k, ent G I L R' k) H
    rw [he]; exact hat
  · by_cases h5 : sk k = 4
    · have ar : AR 178 k 4 (sl k) := ⟨hk8, h5, rfl⟩
      show va_at _ _ (gb G + k, ent G I L R' k) H
      rw [ent_a4 ar] at hat ⊢
      have e1 : vp_cell (gC G 4) (sl k, .inr (.inr (.inr (.inr (fun j => (R' k j).map (gA G)))))) = vp_cell (gC G 4) (sl k, .inr (.inr (.inr (.inr (fun j => (R k j).map (gA G)))))) := by
        rw [vp_cell_q, vp_cell_q]
        unfold arrV
        congr 2
        funext j
        show va_rf (Option.map (gA G) (R' k j.val)) = va_rf (Option.map (gA G) (R k j.val))
        rw [hr k hk8 (Or.inr h5) j.val j.isLt]
      show H[gb G + k]? = some (vp_cell _ _)
      rw [e1]; exact hat
    · have he : ent G I L R' k = ent G I L R k := by
        have h6 : sk k = 0 ∨ sk k = 1 ∨ sk k = 2 ∨ sk k = 3 ∨ sk k = 5 ∨ sk k = 6 ∨ sk k = 7 ∨ sk k = 8 ∨ sk k = 9 := by omega
        unfold ent
        rcases h6 with h | h | h | h | h | h | h | h | h <;> simp only [h]
      show va_at _ _ (gb G + k, ent G I L R' k) H
      rw [he]; exact hat
theorem Ev.toR {R' : Rx} (hr : REQ R R') (kk : Ev G M n0 nF Q pc ls st 178 I L R') : Ev G M n0 nF Q pc ls st 178 I L R := by
  intro p e s m args below meth c hC H locs la hW hS h h0 hF
  exact kk p e s m args below meth c hC H locs la (hW.toR hr) hS h h0 hF
end CT
