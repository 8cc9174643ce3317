/-! THE CLAIM OUT OF ONE WALK OF THE LAW'S BODY. Your part is whole_start (and what it stands on); all else here is the same for every law, but numbers. -/
def R_law : String := "NoonSquareLaw"
def lw_P (b : Addr) (xs : List Int32) (args : Array Value) (s : State) : Prop := args = #[.ref b] ∧ s.IntsAt b xs ∧ xs.length ≤ 3072 ∧ (Jvm.Cond.and given_1 narrow_1).before args s = true
def lw_Q (_ : Array Value) (s : State) (o : Outcome) (t : State) : Prop := o = .returned (some (.int 1)) ∧ Framed s o t [] 600000 7302250
def lw_Z (below : List Frame) (a : Array Value) (s : State) : State → Prop := fun t => ∃ o, t.status = .running ∧ Ended t below o ∧ lw_Q a s o t
/-- the law's own end, with 1 on the stack, nothing written that was there before, its room as the claim has it -/
theorem lw_ret {p : Program} {l : Launch} {e : Env} {s : State} {m : MethodId} {below : List Frame} {meth : Method} {c : Code} {b : Nat} (hx : p.tables.exec = Jvm.exec) (hb : c.code = code) (hr : meth.sig.returnType = ret) (hlocks : meth.locks = false) {pc : Nat} {H : Heap} {ls : Array Slot} (hdg : decode code pc = .ok (.ireturn, 1)) : W p l e room_1 s m #[Value.ref b] below meth c H [] 600000 7302250 (lw_Z below #[Value.ref b] s) (F0 m pc ls [.int 1]) := by
  intro T hT X
  obtain ⟨fs, hret, hrun, hended, hW, hframe⟩ := X.leave (v := some (.int 1)) (hlocks := hlocks) (fun h => by rw [hr] at h; cases h)
  have hmeth' : T.vm.method? m = some meth := X.method'
  refine ⟨T.setFrames fs, ?_, .returned (some (.int 1)), hrun, hended, rfl, ⟨_, rfl⟩, hW, hframe⟩
  jvm_step X.here [X.here.top, hx, hb, hdg, hmeth', hr, ret, narrow_b1]
  (try refine ⟨rfl, ?_⟩); (try refine ⟨rfl, ?_⟩)
  first | (intro acts; rw [hret _ acts rfl rfl rfl]) | rw [hret _ _ rfl rfl rfl]
  exact Steps.refl _
/-- what holds at the law's entry: the machine, the code, the tables' words (any of lw_tbl by 'hts w (by decide +kernel)'), the script of L ints xs at the cell b, what the Statement gives of the start (any of its parts by flat_of_before) -/
def lw_At (p : Program) (s : State) (m : MethodId) (meth : Method) (c : Code) (b L : Nat) (xs : Nat → Int32) : Prop :=
  p.tables.exec = Jvm.exec ∧ c.code = code ∧ meth.sig.returnType = ret ∧ c.maxLocals = 4 ∧ s.vm.findClass R_law = some m.cls ∧ (∀ w ∈ lw_tbl, w.before #[Value.ref b] s = true) ∧ va_X b L xs s s.heap ∧ b < s.heap.size ∧ meth.locks = false ∧ (Jvm.Cond.and given_1 narrow_1).before #[Value.ref b] s = true

theorem cl_RL_7 : Cond.classLink RL 7 RX11 ∈ tbg := tb1 21 (by decide +kernel) (by decide +kernel)
theorem cl_RL_10 : Cond.classLink RL 10 RX12 ∈ tbg := tb5 191 (by decide +kernel) (by decide +kernel)
theorem hdf_11 : ∀ j, j < 12 → defaultValue (tyX11 j) = match fk 11 j with | 0 => .int 0 | 1 => .long 0 | _ => .null := by decide +kernel
theorem hdf_12 : ∀ j, j < 104 → defaultValue (tyX12 j) = match fk 12 j with | 0 => .int 0 | 1 => .long 0 | _ => .null := by decide +kernel
theorem inst_11 : Cond.instantiable RX11 12 ∈ tbg ∧ Cond.initialized RX11 ∈ tbg := ⟨tb1 22 (by decide +kernel) (by decide +kernel), tb1 1 (by decide +kernel) (by decide +kernel)⟩
theorem inst_12 : Cond.instantiable RX12 104 ∈ tbg ∧ Cond.initialized RX12 ∈ tbg := ⟨tb5 192 (by decide +kernel) (by decide +kernel), tb1 17 (by decide +kernel) (by decide +kernel)⟩
theorem ci_RX11 : Cond.instanceMethod (mY MX11_init) ∈ tbg ∧ Cond.initialized (mY MX11_init).cls ∈ tbg ∧ Cond.code (mY MX11_init) (mC MX11_init) (mL MX11_init) (mR MX11_init) ∈ tbg := ⟨tb1 24 (by decide +kernel) (by decide +kernel), tb1 1 (by decide +kernel) (by decide +kernel), tb1 25 (by decide +kernel) (by decide +kernel)⟩
theorem cm_RL_9 : Cond.methodLink RL 9 (mY MX11_init) ∈ tbg := tb1 23 (by decide +kernel) (by decide +kernel)
theorem ci_RX12 : Cond.instanceMethod (mY MX12_init) ∈ tbg ∧ Cond.initialized (mY MX12_init).cls ∈ tbg ∧ Cond.code (mY MX12_init) (mC MX12_init) (mL MX12_init) (mR MX12_init) ∈ tbg := ⟨tb5 194 (by decide +kernel) (by decide +kernel), tb1 17 (by decide +kernel) (by decide +kernel), tb5 195 (by decide +kernel) (by decide +kernel)⟩
theorem cm_RL_12 : Cond.methodLink RL 12 (mY MX12_init) ∈ tbg := tb5 193 (by decide +kernel) (by decide +kernel)
def I00 : Ix := fun _ _ => 0
def L00 : Lx := fun _ _ => 0
def R00 : Rx := fun _ _ => none
def Rlaw : Rx := cX12_120_r (va_up (cX11_0_r (va_up R00 0 (fun _ => none))) 120 (fun _ => none))
theorem Rlaw_RF : REQ Rlaw RF := by unfold REQ; decide +kernel
def Ibeg : Ix := cX12_120_i (cX11_0_i I00)
def Lbeg : Lx := cX12_120_l (cX11_0_l L00)
/-- what is left: a statement about numbers and rows alone -/
def PureLaw : Prop := ∀ (Ls : Nat) (xs : Nat → Int32), Ls ≤ 3072 → wpX12_layFar Ibeg Lbeg (fun I L => wpL_law_h18 Ls xs (fun b _ _ => b = true) 0 I L)
set_option maxRecDepth 20000 in
theorem law_ev {G : Gx} {Ls : Nat} {xs : Nat → Int32} (hO : Old G Ls xs) (hp : wpX12_layFar Ibeg Lbeg (fun I L => wpL_law_h18 Ls xs (fun b _ _ => b = true) 0 I L)) : Ev G ML 0 178 (qZ (fun b _ _ => b = true)) 0 [(0, .ref 1004)] [] 0 I00 L00 R00 := by
  refine Ev.newO' (tyT := tyX11) (pc' := 3) dL_law_0 rfl (c := 11) rfl rfl wsin_11 tyX11_ok hdf_11 cl_RL_7 inst_11.1 inst_11.2 ⟨by decide, obk_0.1, obk_0.2⟩ (by decide) (by decide) rfl rfl ?_
  refine Ev.dup (pc' := 4) dL_law_3 rfl rfl ?_
  refine Ev.callI (M' := MX11_init) (k := 0) (As := []) (rest := [.ref 0]) (nF' := 120) (pc' := 7) dL_law_4 rfl cm_RL_9 ci_RX11.1 ci_RX11.2.1 ci_RX11.2.2 rfl rfl ⟨by decide, by decide, by decide +kernel⟩ ⟨Nat.le_of_ble_eq_true rfl, Nat.le_of_ble_eq_true rfl⟩ rfl rfl (Nat.le_of_ble_eq_true rfl) (by decide) (by decide) (okccX11_0 hO (fun _ _ => rfl) (fun _ _ => rfl)) ?_
  intro v n' I' L' R' hq
  obtain ⟨e1, e2, e3, e4, e5⟩ := hq
  rw [e1, e2, e3, e4, e5]
  refine ⟨rfl, ?_⟩
  refine Ev.astore_n (ls' := [(1, .ref 0), (0, .ref 1004)]) (pc' := 8) dL_law_7 rfl rfl (Nat.le_of_ble_eq_true rfl) rfl ?_
  refine Ev.newO' (tyT := tyX12) (pc' := 11) dL_law_8 rfl (c := 12) rfl rfl wsin_12 tyX12_ok hdf_12 cl_RL_10 inst_12.1 inst_12.2 ⟨by decide, obk_120.1, obk_120.2⟩ (by decide) (by decide) (by rw [cX11_0_i_keep (by decide)]; rfl) (by rw [cX11_0_l_keep (by decide)]; rfl) ?_
  refine Ev.dup (pc' := 12) dL_law_11 rfl rfl ?_
  refine Ev.callI (M' := MX12_init) (k := 120) (As := []) (rest := [.ref 120]) (nF' := 178) (pc' := 15) (Q' := fun v n I L R => v = none ∧ n = 178 ∧ R = RF ∧ wpL_law_h18 Ls xs (fun b _ _ => b = true) 0 I L) dL_law_12 rfl cm_RL_12 ci_RX12.1 ci_RX12.2.1 ci_RX12.2.2 rfl rfl ⟨by decide, by decide, by decide +kernel⟩ ⟨Nat.le_of_ble_eq_true rfl, Nat.le_of_ble_eq_true rfl⟩ rfl rfl (Nat.le_of_ble_eq_true rfl) (by decide) (by decide) (okccX12_120 hO (fun q hq => by rw [cX11_0_i_keep (by omega)]; rfl) (fun q hq => by rw [cX11_0_l_keep (by omega)]; rfl) ?_) ?_
  · refine Ev.toR (R' := RF) Rlaw_RF ?_
    refine Ev.callV (M' := MX12_layFar) (k := 120) (c := 12) (As := []) (rest := []) (nF' := 178) (pc' := 483) dX12_init_480 rfl cv_RX12_193_X12_layFar ⟨Nat.le_of_ble_eq_true rfl, Nat.le_of_ble_eq_true rfl⟩ ⟨by decide, obk_120.1, obk_120.2⟩ rfl rfl rfl (Nat.le_of_ble_eq_true rfl) (by decide) (by decide) (okX12_layFar hp) ?_
    intro v n' I' L' R' hq
    obtain ⟨e1, e2, e3, e4⟩ := hq
    subst e1; subst e2; subst e3
    exact ⟨rfl, Ev.vret dX12_init_483 rfl rfl ⟨rfl, rfl, rfl, e4⟩⟩
  intro v n' I' L' R' hq
  obtain ⟨e1, e2, e3, e4⟩ := hq
  subst e1; subst e2; subst e3
  refine ⟨rfl, ?_⟩
  refine Ev.astore_n (ls' := [(2, .ref 120), (1, .ref 0), (0, .ref 1004)]) (pc' := 16) dL_law_15 rfl rfl (Nat.le_of_ble_eq_true rfl) rfl ?_
  refine Ev.iconst (v := 0) (pc' := 17) dL_law_16 rfl (by decide) ?_
  refine Ev.istore_n (ls' := [(3, .int 0), (2, .ref 120), (1, .ref 0), (0, .ref 1004)]) (pc' := 18) dL_law_17 rfl rfl (Nat.le_of_ble_eq_true rfl) rfl ?_
  exact Ev.sub [3, 2, 1, 0] rfl (okL_law_h18 hO e4)
theorem hasRoom_mono {s : State} {pl : Platform} {r r' : Room} (h : s.hasRoom pl r = true) (h1 : r'.frames ≤ r.frames) (h2 : r'.locals ≤ r.locals) (h3 : r'.cells ≤ r.cells) (h4 : r'.slots ≤ r.slots) : s.hasRoom pl r' = true := by
  unfold State.hasRoom at h ⊢
  simp only [Bool.and_eq_true, decide_eq_true_eq] at h ⊢
  obtain ⟨⟨⟨⟨a, b1, b2, b3, b4, b5⟩, c⟩, d⟩, e⟩ := h
  refine ⟨⟨⟨⟨by omega, by omega, by omega, by omega, by omega, b5⟩, by omega⟩, by omega⟩, e⟩
theorem know_cls {s : State} {args : Array Value} (hts : ∀ w ∈ tbg, w.before args s = true) : ∃ D : va_G, ∀ (c : Nat) (q : vw_C), vwCl[c]? = some q → u_Kn s q.1 q.2.1 q.2.2 (D.1 c) (D.2 c) := by
  have h : ∀ c : Nat, ∃ p : ClassId × (Nat → Nat), ∀ q : vw_C, vwCl[c]? = some q → u_Kn s q.1 q.2.1 q.2.2 p.1 p.2 := by
    intro c
    by_cases hc : c < 13
    · have h9 : c = 0 ∨ c = 1 ∨ c = 2 ∨ c = 3 ∨ c = 4 ∨ c = 5 ∨ c = 6 ∨ c = 7 ∨ c = 8 ∨ c = 9 ∨ c = 10 ∨ c = 11 ∨ c = 12 := by omega
      rcases h9 with rfl | rfl | rfl | rfl | rfl | rfl | rfl | rfl | rfl | rfl | rfl | rfl | rfl
      · obtain ⟨a, b, hab⟩ := u_known (C := RX0) (T := TX0) (N := 7) hts wsin_0 (hts _ inst_0.1)
        exact ⟨(a, b), fun q hq => by cases hq; exact hab⟩
      · obtain ⟨a, b, hab⟩ := u_known (C := RX1) (T := TX1) (N := 7) hts wsin_1 (hts _ inst_1.1)
        exact ⟨(a, b), fun q hq => by cases hq; exact hab⟩
      · obtain ⟨a, b, hab⟩ := u_known (C := RX2) (T := TX2) (N := 11) hts wsin_2 (hts _ inst_2.1)
        exact ⟨(a, b), fun q hq => by cases hq; exact hab⟩
      · obtain ⟨a, b, hab⟩ := u_known (C := RX3) (T := TX3) (N := 9) hts wsin_3 (hts _ inst_3.1)
        exact ⟨(a, b), fun q hq => by cases hq; exact hab⟩
      · obtain ⟨a, b, hab⟩ := u_known (C := RX4) (T := TX4) (N := 6) hts wsin_4 (hts _ inst_4.1)
        exact ⟨(a, b), fun q hq => by cases hq; exact hab⟩
      · obtain ⟨a, b, hab⟩ := u_known (C := RX5) (T := TX5) (N := 9) hts wsin_5 (hts _ inst_5.1)
        exact ⟨(a, b), fun q hq => by cases hq; exact hab⟩
      · obtain ⟨a, b, hab⟩ := u_known (C := RX6) (T := TX6) (N := 6) hts wsin_6 (hts _ inst_6.1)
        exact ⟨(a, b), fun q hq => by cases hq; exact hab⟩
      · obtain ⟨a, b, hab⟩ := u_known (C := RX7) (T := TX7) (N := 2) hts wsin_7 (hts _ inst_7.1)
        exact ⟨(a, b), fun q hq => by cases hq; exact hab⟩
      · obtain ⟨a, b, hab⟩ := u_known (C := RX8) (T := TX8) (N := 7) hts wsin_8 (hts _ inst_8.1)
        exact ⟨(a, b), fun q hq => by cases hq; exact hab⟩
      · obtain ⟨a, b, hab⟩ := u_known (C := RX9) (T := TX9) (N := 7) hts wsin_9 (hts _ inst_9.1)
        exact ⟨(a, b), fun q hq => by cases hq; exact hab⟩
      · obtain ⟨a, b, hab⟩ := u_known (C := RX10) (T := TX10) (N := 17) hts wsin_10 (hts _ inst_10.1)
        exact ⟨(a, b), fun q hq => by cases hq; exact hab⟩
      · obtain ⟨a, b, hab⟩ := u_known (C := RX11) (T := TX11) (N := 12) hts wsin_11 (hts _ inst_11.1)
        exact ⟨(a, b), fun q hq => by cases hq; exact hab⟩
      · obtain ⟨a, b, hab⟩ := u_known (C := RX12) (T := TX12) (N := 104) hts wsin_12 (hts _ inst_12.1)
        exact ⟨(a, b), fun q hq => by cases hq; exact hab⟩
    · exact ⟨(0, fun _ => 0), fun q hq => by
        have := (List.getElem?_eq_some_iff.mp hq).1
        exact absurd this hc⟩
  obtain ⟨f, hf⟩ := Classical.axiomOfChoice h
  exact ⟨(fun c => (f c).1, fun c => (f c).2), fun c q hq => hf c q hq⟩
theorem know_arr {s : State} {args : Array Value} {ty : FieldType} (h : (Cond.arrayClass ty).before args s = true) : ∃ cA : ClassId, ArrOfT s cA ty ∧ s.vm.findClass ("[" ++ ty.toString) = some cA := by
  obtain ⟨c, k, comp, h1, h2, h3⟩ := Cond.arrayClass_spec h
  exact ⟨c, fun n z => ⟨(fun k h => by cases h), k, h2, comp, h3⟩, h1⟩
theorem know_now {s : State} (h : va_AO "NoonSquare$Now" s) : ∃ cA : ClassId, ArrOfT s cA (.object "NoonSquare$Now") ∧ va_RA s cA (.object "NoonSquare$Now") := by
  obtain ⟨comp, c, k, h1, h2, h3, h4, h5⟩ := Cond.arrayOver_spec h
  exact ⟨c, fun n z => ⟨(fun k h => by cases h), k, h3, comp, h4⟩, k, comp, h3, h4, h1, h5⟩

