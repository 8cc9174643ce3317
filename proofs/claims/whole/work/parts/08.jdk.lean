def WB : List Int32 := [119, 111, 114, 116, 104, 32, 32, 32, 108, 101, 102, 116, 32, 32, 32, 32, 104, 101, 97, 118, 121, 32, 32, 32, 102, 97, 114, 32, 32, 32, 32, 32, 109, 105, 110, 101, 32, 32, 32, 32, 104, 101, 108, 100, 32, 32, 32, 32, 99, 114, 111, 119, 100, 32, 32, 32, 100, 97, 121, 32, 32, 32, 32, 32, 99, 114, 97, 102, 116, 32, 32, 32, 102, 111, 114, 99, 101, 32, 32, 32, 110, 111, 111, 110, 32, 32, 32, 32, 111, 114, 32, 32, 32, 32, 32, 32, 97, 110, 100, 32, 32, 32, 32, 32, 110, 111, 116, 32, 32, 32, 32, 32, 112, 108, 97, 99, 101, 32, 32, 32, 114, 111, 97, 100, 32, 32, 32, 32, 109, 105, 110, 117, 116, 101, 115, 32, 116, 104, 105, 110, 103, 32, 32, 32, 97, 116, 32, 32, 32, 32, 32, 32, 119, 101, 97, 114, 32, 32, 32, 32, 102, 111, 111, 100, 32, 32, 32, 32, 112, 101, 114, 115, 111, 110, 32, 32, 104, 97, 114, 100, 32, 32, 32, 32, 115, 116, 97, 110, 100, 115, 32, 32, 108, 97, 119, 32, 32, 32, 32, 32, 110, 101, 97, 114, 32, 32, 32, 32, 108, 111, 116, 32, 32, 32, 32, 32, 108, 97, 116, 101, 32, 32, 32, 32]
def WT : String := "worth   left    heavy   far     mine    held    crowd   day     craft   force   noon    or      and     not     place   road    minutes thing   at      wear    food    person  hard    stands  law     near    lot     late    "
def fmtv (o : Nat → Nat) : Value := if o 3 = 0 then .null else .ref 1002
def oA (b : Nat) (o : Nat → Nat) (k : Nat) : Nat := if k < 1000 then b + k else o (k - 1000)
def ov (b : Nat) (o : Nat → Nat) : Value → Value
  | .ref k => .ref (oA b o k)
  | v => v
/-- what is known of the cells that were there before: the constant's text, two statics, the script, words that aren't kept by themselves -/
def OldB (b : Nat) (o : Nat → Nat) (Ls : Nat) (xs : Nat → Int32) (U : State) : Prop :=
  vk_S 1 [224] [WB] (fun _ => o 0) (fun _ => o 1) (fun q => b ≤ q) U U.heap ∧ vk_R "NoonSquare$Tokens" 19 WT (o 0) U ∧ va_Z "java/lang/String" "COMPACT_STRINGS" "Z" (.int 1) (fun q => b ≤ q) U U.heap ∧
  va_Z "jdk/internal/util/Preconditions" "SIOOBE_FORMATTER" "Ljava/util/function/BiFunction;" (ov b o (fmtv o)) (fun q => b ≤ q) U U.heap ∧ va_T .int (o 4) Ls (fun j => .int (xs j)) (fun q => b ≤ q) U U.heap ∧ va_AO "NoonSquare$Now" U ∧
  va_Nw (.methodLinkNest RX11 9 yX7_init "NoonSquare") U ∧ va_Nw (.methodLinkNest RX11 18 yX10_init "NoonSquare") U ∧ va_Nw (.methodLinkNest RX10 11 yX1_init "NoonSquare") U ∧ va_Nw (.methodLinkNest RX10 20 yX4_init "NoonSquare") U ∧ va_Nw (.methodLinkNest RX11 37 yX2_init "NoonSquare") U ∧ va_Nw (.methodLinkNest RX9 11 yX2_init "NoonSquare") U ∧ va_Nw (.methodLinkNest RX11 71 yX6_init "NoonSquare") U
theorem OldB.keep {b : Nat} {o : Nat → Nat} {Ls : Nat} {xs : Nat → Int32} {u U : State} (hw : u.WarmedH U.vm) (hq : ∀ q, q < b → U.heap[q]? = u.heap[q]?) (h : OldB b o Ls xs u) : OldB b o Ls xs U := by
  have hk : ∀ a : Nat, a < u.heap.size → ¬ b ≤ a → U.heap[a]? = u.heap[a]? := fun a _ h2 => hq a (Nat.not_le.mp h2)
  have ha := hw.alike
  obtain ⟨h1, h2, h3, h4, h5, h6, n1, n2, n3, n4, n5, n6, n7⟩ := h
  exact ⟨(h1.moved ha).kept hk, h2.warm hw, (h3.moved ha).kept hk, (h4.moved ha).kept hk, (h5.moved ha).kept hk, h6.moved ha, n1.warmM hw, n2.warmM hw, n3.warmM hw, n4.warmM hw, n5.warmM hw, n6.warmM hw, n7.warmM hw⟩
theorem gO_GO {G : Gx} {Ls : Nat} {xs : Nat → Int32} (h : gO G = OldB (gb G) (go G) Ls xs) : GO G := by
  intro u U hw hq hu
  rw [h] at hu ⊢
  exact hu.keep hw hq
abbrev Old (G : Gx) (Ls : Nat) (xs : Nat → Int32) : Prop := ∀ U : State, gO G U → OldB (gb G) (go G) Ls xs U
def qIn (n0 : Nat) (R0 : Rx) (Q : Int32 → Ix → Lx → Prop) : Qx := fun v n I L R => n = n0 ∧ R = R0 ∧ ∃ r, v = some (.int r) ∧ Q r I L
def qZn (n0 : Nat) (R0 : Rx) (Q : Bool → Ix → Lx → Prop) : Qx := fun v n I L R => n = n0 ∧ R = R0 ∧ ∃ b, v = some (.int (b2i b)) ∧ Q b I L
def qLn (n0 : Nat) (R0 : Rx) (Q : Int64 → Ix → Lx → Prop) : Qx := fun v n I L R => n = n0 ∧ R = R0 ∧ ∃ r, v = some (.long r) ∧ Q r I L
def qVn (n0 : Nat) (R0 : Rx) (Q : Ix → Lx → Prop) : Qx := fun v n I L R => n = n0 ∧ R = R0 ∧ v = none ∧ Q I L
def MJ3 : Mx := (yJ3_checkIndex_8e157, cJ3_checkIndex_8e157, 3, (some .int), 2)
def MJ0c : Mx := (yJ0_checkIndex_df160, cJ0_checkIndex_df160, 2, none, 4)
def MJ1 : Mx := (yJ1_charAt_3b067, cJ1_charAt_3b067, 2, (some .char), 6)
def MJ0l : Mx := (yJ0_isLatin1_aae02, cJ0_isLatin1_aae02, 1, (some .boolean), 2)
def MJ0 : Mx := (yJ0_charAt_5068e, cJ0_charAt_5068e, 2, (some .char), 8)
section JDK
variable {G : Gx} {n : Nat} {I : Ix} {L : Lx} {R : Rx}
set_option maxRecDepth 10000 in
theorem okJ3 {a b : Int32} {v : Value} (hv : v.category = 1) (h1 : ¬ a < 0) (h2 : a < b) {Q : Int32 → Ix → Lx → Prop} (h : Q a I L) : Mt G MJ3 [.int a, .int b, v] n I L R n (qIn n R Q) := by
  refine Mt.of (by decide +kernel) ?_ (Nat.le_refl _) ?_
  · simp only [lg_sl, List.flatMap_cons, List.flatMap_nil, hv]; exact Nat.le_of_ble_eq_true rfl
  have hl : lv_args 0 [.int a, .int b, v] = [(0, .int a), (1, .int b), (2, v)] := rfl
  rw [hl]
  refine Ev.iload_n (k := 0) (pc' := 1) dJ3_checkIndex_8e157_0 rfl rfl rfl ?_
  refine Ev.if_lt (pc' := 4) (tgt := 9) dJ3_checkIndex_8e157_1 rfl rfl (fun hc => absurd hc h1) (fun hc => ?_)
  refine Ev.iload_n (k := 0) (pc' := 5) dJ3_checkIndex_8e157_4 rfl rfl rfl ?_
  refine Ev.iload_n (k := 1) (pc' := 6) dJ3_checkIndex_8e157_5 rfl rfl rfl ?_
  refine Ev.icmp_lt (pc' := 9) (tgt := 16) dJ3_checkIndex_8e157_6 rfl rfl (fun hc => ?_) (fun hc => absurd h2 hc)
  refine Ev.iload_n (k := 0) (pc' := 17) dJ3_checkIndex_8e157_16 rfl rfl rfl ?_
  exact Ev.iret dJ3_checkIndex_8e157_17 rfl rfl ⟨rfl, rfl, a, rfl, h⟩
theorem cs_J0_1059 : CS RJ0 1059 MJ3 3 := ⟨tb2 14 (by decide +kernel) (by decide +kernel), tb2 15 (by decide +kernel) (by decide +kernel), tb1 10 (by decide +kernel) (by decide +kernel), tb2 16 (by decide +kernel) (by decide +kernel), ⟨by decide, by decide, by decide +kernel⟩⟩
theorem cs_J1_9 : CS RJ1 9 MJ0c 2 := ⟨tb2 9 (by decide +kernel) (by decide +kernel), tb2 10 (by decide +kernel) (by decide +kernel), tb1 8 (by decide +kernel) (by decide +kernel), tb2 11 (by decide +kernel) (by decide +kernel), ⟨by decide, by decide, by decide +kernel⟩⟩
theorem cs_J0_495 : CS RJ0 495 MJ1 2 := ⟨tb2 6 (by decide +kernel) (by decide +kernel), tb2 7 (by decide +kernel) (by decide +kernel), tb1 9 (by decide +kernel) (by decide +kernel), tb2 8 (by decide +kernel) (by decide +kernel), ⟨by decide, by decide, by decide +kernel⟩⟩
theorem cv_J0_492 : CV RJ0 492 MJ0l 0 := ⟨tb2 0 (by decide +kernel) (by decide +kernel), tb2 1 (by decide +kernel) (by decide +kernel), tb2 2 (by decide +kernel) (by decide +kernel), tb1 8 (by decide +kernel) (by decide +kernel), tb2 3 (by decide +kernel) (by decide +kernel), ⟨by decide, by decide, by decide +kernel⟩⟩
theorem cv_X8_21 : CV RX8 21 MJ0 1 := ⟨tb1 236 (by decide +kernel) (by decide +kernel), tb1 237 (by decide +kernel) (by decide +kernel), tb1 238 (by decide +kernel) (by decide +kernel), tb1 8 (by decide +kernel) (by decide +kernel), tb1 239 (by decide +kernel) (by decide +kernel), ⟨by decide, by decide, by decide +kernel⟩⟩
theorem fl_J0_38 : Cond.fieldLink RJ0 38 "java/lang/String" "COMPACT_STRINGS" "Z" ∈ tbg := tb2 4 (by decide +kernel) (by decide +kernel)
theorem fl_J0_1053 : Cond.fieldLink RJ0 1053 "jdk/internal/util/Preconditions" "SIOOBE_FORMATTER" "Ljava/util/function/BiFunction;" ∈ tbg := tb2 12 (by decide +kernel) (by decide +kernel)
theorem fl_J0_15 : Cond.fieldLink RJ0 15 "java/lang/String" "coder" "B" ∈ tbg := tb9 45 (by decide +kernel) (by decide +kernel)
theorem fl_J0_9 : Cond.fieldLink RJ0 9 "java/lang/String" "value" "[B" ∈ tbg := tb9 46 (by decide +kernel) (by decide +kernel)
theorem fmt_cat (o : Nat → Nat) : (fmtv o).category = 1 := by unfold fmtv; split <;> rfl
theorem gv_ov (G : Gx) (v : Value) : gv G v = ov (gb G) (go G) v := by cases v <;> rfl
set_option maxRecDepth 10000 in
theorem okJ0c {Ls : Nat} {xs : Nat → Int32} (hO : Old G Ls xs) {a b : Int32} (h1 : ¬ a < 0) (h2 : a < b) {Q : Ix → Lx → Prop} (h : Q I L) : Mt G MJ0c [.int a, .int b] n I L R n (qVn n R Q) := by
  refine Mt.of (by decide +kernel) (Nat.le_of_ble_eq_true rfl) (Nat.le_refl _) ?_
  refine Ev.iload_n (k := 0) (pc' := 1) dJ0_checkIndex_df160_0 rfl rfl rfl ?_
  refine Ev.iload_n (k := 1) (pc' := 2) dJ0_checkIndex_df160_1 rfl rfl rfl ?_
  refine Ev.gets (pc' := 5) (v := fmtv (go G)) dJ0_checkIndex_df160_2 rfl fl_J0_1053 (fun U hU => by rw [gv_ov]; exact (hO U hU).2.2.2.1) ?_
  refine Ev.callS (As := [.int a, .int b, fmtv (go G)]) (rest := []) (pc' := 8) dJ0_checkIndex_df160_5 rfl cs_J0_1059 ⟨Nat.le_of_ble_eq_true rfl, Nat.le_of_ble_eq_true rfl⟩ rfl rfl (Nat.le_of_ble_eq_true rfl) (Nat.le_refl _) (Nat.le_refl _) (okJ3 (fmt_cat _) h1 h2 (Q := fun _ I L => Q I L) h) ?_
  intro v n' I' L' R' hq
  obtain ⟨rfl, rfl, r, rfl, hq⟩ := hq
  refine ⟨rfl, ?_⟩
  refine Ev.pop (pc' := 9) dJ0_checkIndex_df160_8 rfl rfl ?_
  exact Ev.vret dJ0_checkIndex_df160_9 rfl rfl ⟨rfl, rfl, rfl, hq⟩
theorem vp_cmp {i : Int32} (h : vp_in i 224) : ¬ i < 0 ∧ i < nI 224 := by
  have := vp_in_iff.mp h
  constructor
  · intro hc; have := Int32.lt_iff_toInt_lt.mp hc; simp at this; omega
  · refine Int32.lt_iff_toInt_lt.mpr ?_
    rw [nI_toInt (by decide)]; omega
set_option maxRecDepth 10000 in
theorem okJ1 {Ls : Nat} {xs : Nat → Int32} (hO : Old G Ls xs) {a : Int32} (h1 : vp_in a 224) {Q : Int32 → Ix → Lx → Prop} (h : Q (((WB.getD a.toNatClampNeg 0) &&& 255).toUInt32 % 65536).toInt32 I L) : Mt G MJ1 [.ref 1001, .int a] n I L R n (qIn n R Q) := by
  have hT : ∀ U : State, gO G U → va_T .byte (gA G 1001) 224 (fun j => .int (WB.getD j 0)) (gF G) U U.heap := fun U hU => ((hO U hU).1.1 0 (by decide)).2.2.2
  refine Mt.of (by decide +kernel) (Nat.le_of_ble_eq_true rfl) (Nat.le_refl _) ?_
  refine Ev.iload_n (k := 1) (pc' := 1) dJ1_charAt_3b067_0 rfl rfl rfl ?_
  refine Ev.aload_n (k := 0) (pc' := 2) dJ1_charAt_3b067_1 rfl rfl rfl ?_
  refine Ev.lenO (pc' := 3) dJ1_charAt_3b067_2 rfl hT ?_
  refine Ev.callS (As := [.int a, .int (nI 224)]) (rest := []) (pc' := 6) dJ1_charAt_3b067_3 rfl cs_J1_9 ⟨Nat.le_of_ble_eq_true rfl, Nat.le_of_ble_eq_true rfl⟩ rfl rfl (Nat.le_of_ble_eq_true rfl) (Nat.le_refl _) (Nat.le_refl _) (okJ0c hO (vp_cmp h1).1 (vp_cmp h1).2 (Q := fun I2 L2 => I2 = I ∧ L2 = L) ⟨rfl, rfl⟩) ?_
  intro v n' I' L' R' hq
  obtain ⟨rfl, rfl, rfl, rfl, rfl⟩ := hq
  refine ⟨rfl, ?_⟩
  refine Ev.aload_n (k := 0) (pc' := 7) dJ1_charAt_3b067_6 rfl rfl rfl ?_
  refine Ev.iload_n (k := 1) (pc' := 8) dJ1_charAt_3b067_7 rfl rfl rfl ?_
  refine Ev.baloadO (pc' := 9) (f := fun j => WB.getD j 0) dJ1_charAt_3b067_8 rfl hT h1 ?_
  refine Ev.sipush (pc' := 12) (v := 255) dJ1_charAt_3b067_9 rfl (by decide) ?_
  refine Ev.iand (pc' := 13) dJ1_charAt_3b067_12 rfl ?_
  refine Ev.i2c (pc' := 14) dJ1_charAt_3b067_13 rfl ?_
  exact Ev.zret dJ1_charAt_3b067_14 rfl (pk_nc _) rfl ⟨rfl, rfl, _, rfl, h⟩
set_option maxRecDepth 10000 in
theorem okJ0l {Ls : Nat} {xs : Nat → Int32} (hO : Old G Ls xs) {Q : Bool → Ix → Lx → Prop} (h : Q true I L) : Mt G MJ0l [.ref 1000] n I L R n (qZn n R Q) := by
  refine Mt.of (by decide +kernel) (Nat.le_of_ble_eq_true rfl) (Nat.le_refl _) ?_
  refine Ev.gets (pc' := 3) (v := .int 1) dJ0_isLatin1_aae02_0 rfl fl_J0_38 (fun U hU => (hO U hU).2.2.1) ?_
  refine Ev.if_eq (pc' := 6) (tgt := 17) dJ0_isLatin1_aae02_3 rfl rfl (fun hc => absurd hc (by decide)) (fun hc => ?_)
  refine Ev.aload_n (k := 0) (pc' := 7) dJ0_isLatin1_aae02_6 rfl rfl rfl ?_
  refine Ev.getO (pc' := 10) (v := .int 0) dJ0_isLatin1_aae02_7 rfl fl_J0_15 (fun U hU => ((hO U hU).1.1 0 (by decide)).2.1) ?_
  refine Ev.if_ne (pc' := 13) (tgt := 17) dJ0_isLatin1_aae02_10 rfl rfl (fun hc => absurd rfl hc) (fun hc => ?_)
  refine Ev.iconst (pc' := 14) (v := 1) dJ0_isLatin1_aae02_13 rfl (by decide) ?_
  refine Ev.goto (tgt := 18) dJ0_isLatin1_aae02_14 rfl ?_
  exact Ev.zret dJ0_isLatin1_aae02_18 rfl rfl rfl ⟨rfl, rfl, true, rfl, h⟩
def wch (a : Int32) : Int32 := (((WB.getD a.toNatClampNeg 0) &&& 255).toUInt32 % 65536).toInt32
set_option maxRecDepth 10000 in
theorem okJ0 {Ls : Nat} {xs : Nat → Int32} (hO : Old G Ls xs) {a : Int32} (h1 : vp_in a 224) {Q : Int32 → Ix → Lx → Prop} (h : Q (wch a) I L) : Mt G MJ0 [.ref 1000, .int a] n I L R n (qIn n R Q) := by
  refine Mt.of (by decide +kernel) (Nat.le_of_ble_eq_true rfl) (Nat.le_refl _) ?_
  refine Ev.aload_n (k := 0) (pc' := 1) dJ0_charAt_5068e_0 rfl rfl rfl ?_
  refine Ev.callO (k := 1000) (As := []) (rest := []) (pc' := 4) dJ0_charAt_5068e_1 rfl cv_J0_492 ⟨Nat.le_of_ble_eq_true rfl, Nat.le_of_ble_eq_true rfl⟩ (fun U hU => ((hO U hU).1.1 0 (by decide)).1) rfl rfl (Nat.le_of_ble_eq_true rfl) (Nat.le_refl _) (okJ0l hO (Q := fun b I2 L2 => b = true ∧ I2 = I ∧ L2 = L) ⟨rfl, rfl, rfl⟩) ?_
  intro v n' I' L' R' hq
  obtain ⟨rfl, rfl, b, rfl, rfl, rfl, rfl⟩ := hq
  refine ⟨rfl, ?_⟩
  refine Ev.if_eq (pc' := 7) (tgt := 16) dJ0_charAt_5068e_4 rfl rfl (fun hc => absurd hc (by decide)) (fun hc => ?_)
  refine Ev.aload_n (k := 0) (pc' := 8) dJ0_charAt_5068e_7 rfl rfl rfl ?_
  refine Ev.getO (pc' := 11) (v := .ref 1001) dJ0_charAt_5068e_8 rfl fl_J0_9 (fun U hU => ((hO U hU).1.1 0 (by decide)).2.2.1) ?_
  refine Ev.iload_n (k := 1) (pc' := 12) dJ0_charAt_5068e_11 rfl rfl rfl ?_
  refine Ev.callS (As := [.ref 1001, .int a]) (rest := []) (pc' := 15) dJ0_charAt_5068e_12 rfl cs_J0_495 ⟨Nat.le_of_ble_eq_true rfl, Nat.le_of_ble_eq_true rfl⟩ rfl rfl (Nat.le_of_ble_eq_true rfl) (Nat.le_refl _) (Nat.le_refl _) (okJ1 hO h1 (Q := fun r I2 L2 => r = wch a ∧ I2 = I' ∧ L2 = L') ⟨rfl, rfl, rfl⟩) ?_
  intro v n'' I'' L'' R'' hq
  obtain ⟨rfl, rfl, r, rfl, rfl, rfl, rfl⟩ := hq
  refine ⟨rfl, ?_⟩
  exact Ev.zret dJ0_charAt_5068e_15 rfl (pk_nc _) rfl ⟨rfl, rfl, _, rfl, h⟩
end JDK
