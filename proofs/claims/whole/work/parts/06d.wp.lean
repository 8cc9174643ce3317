def wpX11_rest (a1 : Int32) (I : Ix) (L : Lx) (Q : Int32 → Ix → Lx → Prop) : Prop := (a1 < 0 → Q (-1) I L) ∧ (¬ a1 < 0 → (a1 ≤ 2 → wpX5_isSpent I L (fun r3 I1 L2 => (r3 = false → wpX5_seek (-1) I1 L2 (fun r6 I4 L5 => (¬ a1 = 0 → (¬ (I4 80 6) = 0 → (¬ a1 = 1 → Q (I4 80 8) I4 L5) ∧ (a1 = 1 → Q (I4 80 7) I4 L5)) ∧ ((I4 80 6) = 0 → Q (-1) I4 L5)) ∧ (a1 = 0 → Q (I4 80 6) I4 L5))) ∧ (r3 = true → Q (-2) I1 L2))) ∧ (¬ a1 ≤ 2 → Q (-1) I L))
set_option maxRecDepth 10000 in
theorem okX11_rest {G : Gx} {a1 : Int32} {I : Ix} {L : Lx} {Q : Int32 → Ix → Lx → Prop} (h : wpX11_rest a1 I L Q) : Mf G MX11_rest [.ref 0, .int a1] I L (qI Q) := by
  unfold wpX11_rest at h
  refine Mf.of pn_RX11 (Nat.le_of_ble_eq_true rfl) ?_
  refine Ev.iload_n (k := 1) (pc' := 1) dX11_rest_0 rfl rfl rfl ?_
  refine Ev.if_lt (pc' := 4) (tgt := 9) dX11_rest_1 rfl rfl (fun hc => ?_) (fun hc => ?_)
  · have h := h.1 hc
    refine Ev.iconst (pc' := 10) dX11_rest_9 rfl ki_m1 ?_
    exact Ef.iret dX11_rest_10 rfl h
  · have h := h.2 hc
    refine Ev.iload_n (k := 1) (pc' := 5) dX11_rest_4 rfl rfl rfl ?_
    refine Ev.iconst (pc' := 6) dX11_rest_5 rfl ki_2 ?_
    refine Ev.icmp_le (pc' := 9) (tgt := 11) dX11_rest_6 rfl rfl (fun hc => ?_) (fun hc => ?_)
    · have h := h.1 hc
      refine Ev.aload_n (k := 0) (pc' := 12) dX11_rest_11 rfl rfl rfl ?_
      refine Ev.getR (pc' := 15) dX11_rest_12 rfl fa_RX11_65 ob_0 fk_11_7 rf_0_7 ?_
      refine Ef.callVZ [] [] (pc' := 18) dX11_rest_15 rfl cv_RX11_198_X5_isSpent ⟨Nat.le_of_ble_eq_true rfl, Nat.le_of_ble_eq_true rfl⟩ ob_80 rfl rfl rfl (Nat.le_of_ble_eq_true rfl) (okX5_isSpent h) (fun r3 I1 L2 h => ?_)
      refine Ef.ifz_eq (pc' := 21) (tgt := 24) dX11_rest_18 rfl rfl (fun hc => ?_) (fun hc => ?_)
      · have h := h.1 hc
        refine Ev.aload_n (k := 0) (pc' := 25) dX11_rest_24 rfl rfl rfl ?_
        refine Ev.getR (pc' := 28) dX11_rest_25 rfl fa_RX11_65 ob_0 fk_11_7 rf_0_7 ?_
        refine Ev.iconst (pc' := 29) dX11_rest_28 rfl ki_m1 ?_
        refine Ef.callVZ [.int _] [] (pc' := 32) dX11_rest_29 rfl cv_RX11_201_X5_seek ⟨Nat.le_of_ble_eq_true rfl, Nat.le_of_ble_eq_true rfl⟩ ob_80 rfl rfl rfl (Nat.le_of_ble_eq_true rfl) (okX5_seek h) (fun r6 I4 L5 h => ?_)
        refine Ev.pop (pc' := 33) dX11_rest_32 rfl rfl ?_
        refine Ev.iload_n (k := 1) (pc' := 34) dX11_rest_33 rfl rfl rfl ?_
        refine Ev.if_ne (pc' := 37) (tgt := 45) dX11_rest_34 rfl rfl (fun hc => ?_) (fun hc => ?_)
        · have h := h.1 hc
          refine Ev.aload_n (k := 0) (pc' := 46) dX11_rest_45 rfl rfl rfl ?_
          refine Ev.getR (pc' := 49) dX11_rest_46 rfl fa_RX11_65 ob_0 fk_11_7 rf_0_7 ?_
          refine Ev.getI (pc' := 52) dX11_rest_49 rfl fa_RX11_204 ob_80 fk_5_6 ?_
          refine Ev.if_ne (pc' := 55) (tgt := 57) dX11_rest_52 rfl rfl (fun hc => ?_) (fun hc => ?_)
          · have h := h.1 hc
            refine Ev.iload_n (k := 1) (pc' := 58) dX11_rest_57 rfl rfl rfl ?_
            refine Ev.iconst (pc' := 59) dX11_rest_58 rfl ki_1 ?_
            refine Ev.icmp_ne (pc' := 62) (tgt := 72) dX11_rest_59 rfl rfl (fun hc => ?_) (fun hc => ?_)
            · have h := h.1 hc
              refine Ev.aload_n (k := 0) (pc' := 73) dX11_rest_72 rfl rfl rfl ?_
              refine Ev.getR (pc' := 76) dX11_rest_73 rfl fa_RX11_65 ob_0 fk_11_7 rf_0_7 ?_
              refine Ev.getI (pc' := 79) dX11_rest_76 rfl fa_RX11_208 ob_80 fk_5_8 ?_
              exact Ef.iret dX11_rest_79 rfl h
            · have h := h.2 hc
              refine Ev.aload_n (k := 0) (pc' := 63) dX11_rest_62 rfl rfl rfl ?_
              refine Ev.getR (pc' := 66) dX11_rest_63 rfl fa_RX11_65 ob_0 fk_11_7 rf_0_7 ?_
              refine Ev.getI (pc' := 69) dX11_rest_66 rfl fa_RX11_205 ob_80 fk_5_7 ?_
              refine Ev.goto (tgt := 79) dX11_rest_69 rfl ?_
              exact Ef.iret dX11_rest_79 rfl h
          · have h := h.2 hc
            refine Ev.iconst (pc' := 56) dX11_rest_55 rfl ki_m1 ?_
            exact Ef.iret dX11_rest_56 rfl h
        · have h := h.2 hc
          refine Ev.aload_n (k := 0) (pc' := 38) dX11_rest_37 rfl rfl rfl ?_
          refine Ev.getR (pc' := 41) dX11_rest_38 rfl fa_RX11_65 ob_0 fk_11_7 rf_0_7 ?_
          refine Ev.getI (pc' := 44) dX11_rest_41 rfl fa_RX11_204 ob_80 fk_5_6 ?_
          exact Ef.iret dX11_rest_44 rfl h
      · have h := h.2 hc
        refine Ev.bipush (pc' := 23) dX11_rest_21 rfl kb_m2 ?_
        exact Ef.iret dX11_rest_23 rfl h
    · have h := h.2 hc
      refine Ev.iconst (pc' := 10) dX11_rest_9 rfl ki_m1 ?_
      exact Ef.iret dX11_rest_10 rfl h
def wpX11_stands (a1 : Int32) (a2 : Int32) (I : Ix) (L : Lx) (Q : Int32 → Ix → Lx → Prop) : Prop := (a1 < 0 → Q (-3) I L) ∧ (¬ a1 < 0 → wpX11_isPerson a2 I L (fun r3 I1 L2 => (r3 = true → wpX5_isSpent I1 L2 (fun r6 I4 L5 => (r6 = false → wpX5_seek a1 I4 L5 (fun r9 I7 L8 => (r9 = false → Q (-3) I7 L8) ∧ (r9 = true → vp_in a2 6 ∧ Q (I7 84 a2.toNatClampNeg) I7 L8))) ∧ (r6 = true → Q (-2) I4 L5))) ∧ (r3 = false → Q (-3) I1 L2)))
set_option maxRecDepth 10000 in
theorem okX11_stands {G : Gx} {a1 : Int32} {a2 : Int32} {I : Ix} {L : Lx} {Q : Int32 → Ix → Lx → Prop} (h : wpX11_stands a1 a2 I L Q) : Mf G MX11_stands [.ref 0, .int a1, .int a2] I L (qI Q) := by
  unfold wpX11_stands at h
  refine Mf.of pn_RX11 (Nat.le_of_ble_eq_true rfl) ?_
  refine Ev.iload_n (k := 1) (pc' := 1) dX11_stands_0 rfl rfl rfl ?_
  refine Ev.if_lt (pc' := 4) (tgt := 12) dX11_stands_1 rfl rfl (fun hc => ?_) (fun hc => ?_)
  · have h := h.1 hc
    refine Ev.bipush (pc' := 14) dX11_stands_12 rfl kb_m3 ?_
    exact Ef.iret dX11_stands_14 rfl h
  · have h := h.2 hc
    refine Ev.aload_n (k := 0) (pc' := 5) dX11_stands_4 rfl rfl rfl ?_
    refine Ev.iload_n (k := 2) (pc' := 6) dX11_stands_5 rfl rfl rfl ?_
    refine Ef.callVZ [.int _] [] (pc' := 9) dX11_stands_6 rfl cv_RX11_147_X11_isPerson ⟨Nat.le_of_ble_eq_true rfl, Nat.le_of_ble_eq_true rfl⟩ ob_0 rfl rfl rfl (Nat.le_of_ble_eq_true rfl) (okX11_isPerson h) (fun r3 I1 L2 h => ?_)
    refine Ef.ifz_ne (pc' := 12) (tgt := 15) dX11_stands_9 rfl rfl (fun hc => ?_) (fun hc => ?_)
    · have h := h.1 hc
      refine Ev.aload_n (k := 0) (pc' := 16) dX11_stands_15 rfl rfl rfl ?_
      refine Ev.getR (pc' := 19) dX11_stands_16 rfl fa_RX11_65 ob_0 fk_11_7 rf_0_7 ?_
      refine Ef.callVZ [] [] (pc' := 22) dX11_stands_19 rfl cv_RX11_198_X5_isSpent ⟨Nat.le_of_ble_eq_true rfl, Nat.le_of_ble_eq_true rfl⟩ ob_80 rfl rfl rfl (Nat.le_of_ble_eq_true rfl) (okX5_isSpent h) (fun r6 I4 L5 h => ?_)
      refine Ef.ifz_eq (pc' := 25) (tgt := 28) dX11_stands_22 rfl rfl (fun hc => ?_) (fun hc => ?_)
      · have h := h.1 hc
        refine Ev.aload_n (k := 0) (pc' := 29) dX11_stands_28 rfl rfl rfl ?_
        refine Ev.getR (pc' := 32) dX11_stands_29 rfl fa_RX11_65 ob_0 fk_11_7 rf_0_7 ?_
        refine Ev.iload_n (k := 1) (pc' := 33) dX11_stands_32 rfl rfl rfl ?_
        refine Ef.callVZ [.int _] [] (pc' := 36) dX11_stands_33 rfl cv_RX11_201_X5_seek ⟨Nat.le_of_ble_eq_true rfl, Nat.le_of_ble_eq_true rfl⟩ ob_80 rfl rfl rfl (Nat.le_of_ble_eq_true rfl) (okX5_seek h) (fun r9 I7 L8 h => ?_)
        refine Ef.ifz_eq (pc' := 39) (tgt := 51) dX11_stands_36 rfl rfl (fun hc => ?_) (fun hc => ?_)
        · have h := h.1 hc
          refine Ev.bipush (pc' := 53) dX11_stands_51 rfl kb_m3 ?_
          exact Ef.iret dX11_stands_53 rfl h
        · have h := h.2 hc
          refine Ev.aload_n (k := 0) (pc' := 40) dX11_stands_39 rfl rfl rfl ?_
          refine Ev.getR (pc' := 43) dX11_stands_40 rfl fa_RX11_65 ob_0 fk_11_7 rf_0_7 ?_
          refine Ev.getR (pc' := 46) dX11_stands_43 rfl fa_RX11_211 ob_80 fk_5_5 rf_80_5 ?_
          refine Ev.iload_n (k := 2) (pc' := 47) dX11_stands_46 rfl rfl rfl ?_
          refine Ev.iaload (j := _) (pc' := 48) dX11_stands_47 rfl ar_84 h.1 rfl ?_
          have h := h.2
          refine Ev.goto (tgt := 53) dX11_stands_48 rfl ?_
          exact Ef.iret dX11_stands_53 rfl h
      · have h := h.2 hc
        refine Ev.bipush (pc' := 27) dX11_stands_25 rfl kb_m2 ?_
        exact Ef.iret dX11_stands_27 rfl h
    · have h := h.2 hc
      refine Ev.bipush (pc' := 14) dX11_stands_12 rfl kb_m3 ?_
      exact Ef.iret dX11_stands_14 rfl h
def wpX9_madeBy_l14 (o1 : Nat) (Q : Int32 → Ix → Lx → Prop) (P14 : Int32 → Int32 → Int32 → Int32 → Ix → Lx → Prop) (v2 : Int32) (v3 : Int32) (v4 : Int32) (v5 : Int32) (I : Ix) (L : Lx) : Prop := (v2 ≤ v5 → Q v4 I L) ∧ (¬ v2 ≤ v5 → wpX0_live 70 v3 I L (fun r3 I1 L2 => P14 v2 v3 (v4 + r3) (v5 + 1) I1 L2))
def wpX9_madeBy_h14 (o1 : Nat) (Q : Int32 → Ix → Lx → Prop) (v2 : Int32) (v3 : Int32) (v4 : Int32) (v5 : Int32) (I : Ix) (L : Lx) : Prop := Lfp (X := Int32 × Int32 × Int32 × Int32 × Ix × Lx) (fun P z => wpX9_madeBy_l14 o1 Q (fun v2 v3 v4 v5 I L => P (v2, v3, v4, v5, I, L)) z.1 z.2.1 z.2.2.1 z.2.2.2.1 z.2.2.2.2.1 z.2.2.2.2.2) (v2, v3, v4, v5, I, L)
theorem wpX9_madeBy_h14_fold {o1 : Nat} {Q : Int32 → Ix → Lx → Prop} {v2 : Int32} {v3 : Int32} {v4 : Int32} {v5 : Int32} {I : Ix} {L : Lx} (h : wpX9_madeBy_l14 o1 Q (wpX9_madeBy_h14 o1 Q) v2 v3 v4 v5 I L) : wpX9_madeBy_h14 o1 Q v2 v3 v4 v5 I L := Lfp.fold h
def wpX9_madeBy (o1 : Nat) (a2 : Int32) (a3 : Int32) (I : Ix) (L : Lx) (Q : Int32 → Ix → Lx → Prop) : Prop := wpX2_copyFrom 70 o1 I L (fun I1 L2 => wpX9_madeBy_h14 o1 Q a2 a3 0 0 I1 L2)
set_option maxRecDepth 10000 in
theorem okX9_madeBy_l14 {G : Gx} {o1 : Nat} (ho1 : NowAt o1) {Q : Int32 → Ix → Lx → Prop} {P14 : Int32 → Int32 → Int32 → Int32 → Ix → Lx → Prop} (hP14 : ∀ (v2 : Int32) (v3 : Int32) (v4 : Int32) (v5 : Int32) (I : Ix) (L : Lx), P14 v2 v3 v4 v5 I L → Ef G MX9_madeBy (qI Q) 14 [(0, .ref 69), (2, .int v2), (3, .int v3), (4, .int v4), (5, .int v5)] [] I L) {v2 : Int32} {v3 : Int32} {v4 : Int32} {v5 : Int32} {I : Ix} {L : Lx} (h : wpX9_madeBy_l14 o1 Q P14 v2 v3 v4 v5 I L) : Ef G MX9_madeBy (qI Q) 14 [(0, .ref 69), (2, .int v2), (3, .int v3), (4, .int v4), (5, .int v5)] [] I L := by
  unfold wpX9_madeBy_l14 at h
  refine Ev.iload (k := 4) (pc' := 16) dX9_madeBy_14 rfl rfl ?_
  refine Ev.iload_n (k := 1) (pc' := 17) dX9_madeBy_16 rfl rfl rfl ?_
  refine Ev.icmp_ge (pc' := 20) (tgt := 43) dX9_madeBy_17 rfl rfl (fun hc => ?_) (fun hc => ?_)
  · have h := h.1 hc
    refine Ev.iload (k := 3) (pc' := 45) dX9_madeBy_43 rfl rfl ?_
    exact Ef.iret dX9_madeBy_45 rfl h
  · have h := h.2 hc
    refine Ev.iload (k := 3) (pc' := 22) dX9_madeBy_20 rfl rfl ?_
    refine Ev.aload_n (k := 0) (pc' := 23) dX9_madeBy_22 rfl rfl rfl ?_
    refine Ev.getR (pc' := 26) dX9_madeBy_23 rfl fa_RX9_26 ob_69 fk_9_1 rf_69_1 ?_
    refine Ev.aload_n (k := 0) (pc' := 27) dX9_madeBy_26 rfl rfl rfl ?_
    refine Ev.getR (pc' := 30) dX9_madeBy_27 rfl fa_RX9_12 ob_69 fk_9_2 rf_69_2 ?_
    refine Ev.iload_n (k := 2) (pc' := 31) dX9_madeBy_30 rfl rfl rfl ?_
    refine Ef.callVI [.ref _, .int _] [.int _] (pc' := 34) dX9_madeBy_31 rfl cv_RX9_34_X0_live ⟨Nat.le_of_ble_eq_true rfl, Nat.le_of_ble_eq_true rfl⟩ ob_62 rfl rfl rfl (Nat.le_of_ble_eq_true rfl) (okX0_live nowAt_70 h) (fun r3 I1 L2 h => ?_)
    refine Ev.iadd (pc' := 35) dX9_madeBy_34 rfl ?_
    refine Ev.istore (ls' := [(4, .int _), (0, .ref _), (2, .int _), (3, .int _), (5, .int _)]) (pc' := 37) dX9_madeBy_35 rfl (Nat.le_of_ble_eq_true rfl) rfl ?_
    refine Ev.iinc (k := 4) (v := _) (ls' := [(5, .int _), (4, .int _), (0, .ref _), (2, .int _), (3, .int _)]) (pc' := 40) dX9_madeBy_37 rfl rfl (congrArg (_ + ·) ki_1) (Nat.le_of_ble_eq_true rfl) rfl ?_
    refine Ev.goto (tgt := 14) dX9_madeBy_40 rfl ?_
    exact Ev.sub [2, 3, 4, 1, 0] rfl (hP14 _ _ _ _ _ _ h)
set_option maxRecDepth 10000 in
theorem okX9_madeBy_h14 {G : Gx} {o1 : Nat} (ho1 : NowAt o1) {Q : Int32 → Ix → Lx → Prop} {v2 : Int32} {v3 : Int32} {v4 : Int32} {v5 : Int32} {I : Ix} {L : Lx} (h : wpX9_madeBy_h14 o1 Q v2 v3 v4 v5 I L) : Ef G MX9_madeBy (qI Q) 14 [(0, .ref 69), (2, .int v2), (3, .int v3), (4, .int v4), (5, .int v5)] [] I L := by
  unfold wpX9_madeBy_h14 at h
  refine Lfp.ind (P := fun z => Ef G MX9_madeBy (qI Q) 14 [(0, .ref 69), (2, .int z.1), (3, .int z.2.1), (4, .int z.2.2.1), (5, .int z.2.2.2.1)] [] z.2.2.2.2.1 z.2.2.2.2.2) ?_ h
  intro z P' hP' h
  obtain ⟨v2, v3, v4, v5, I, L⟩ := z
  exact okX9_madeBy_l14 ho1 (fun v2 v3 v4 v5 I L h9 => hP' (v2, v3, v4, v5, I, L) h9) h
set_option maxRecDepth 10000 in
theorem okX9_madeBy {G : Gx} {o1 : Nat} (ho1 : NowAt o1) {a2 : Int32} {a3 : Int32} {I : Ix} {L : Lx} {Q : Int32 → Ix → Lx → Prop} (h : wpX9_madeBy o1 a2 a3 I L Q) : Mf G MX9_madeBy [.ref 69, .ref o1, .int a2, .int a3] I L (qI Q) := by
  unfold wpX9_madeBy at h
  refine Mf.of pn_RX9 (Nat.le_of_ble_eq_true rfl) ?_
  refine Ev.aload_n (k := 0) (pc' := 1) dX9_madeBy_0 rfl rfl rfl ?_
  refine Ev.getR (pc' := 4) dX9_madeBy_1 rfl fa_RX9_12 ob_69 fk_9_2 rf_69_2 ?_
  refine Ev.aload_n (k := 1) (pc' := 5) dX9_madeBy_4 rfl rfl rfl ?_
  refine Ef.callVV [.ref _] [] (pc' := 8) dX9_madeBy_5 rfl cv_RX9_30_X2_copyFrom ⟨Nat.le_of_ble_eq_true rfl, Nat.le_of_ble_eq_true rfl⟩ ob_70 rfl rfl rfl (Nat.le_of_ble_eq_true rfl) (okX2_copyFrom nowAt_70 ho1 h) (fun I1 L2 h => ?_)
  refine Ev.iconst (pc' := 9) dX9_madeBy_8 rfl ki_0 ?_
  refine Ev.istore (ls' := [(4, .int _), (0, .ref _), (1, .ref _), (2, .int _), (3, .int _)]) (pc' := 11) dX9_madeBy_9 rfl (Nat.le_of_ble_eq_true rfl) rfl ?_
  refine Ev.iconst (pc' := 12) dX9_madeBy_11 rfl ki_0 ?_
  refine Ev.istore (ls' := [(5, .int _), (4, .int _), (0, .ref _), (1, .ref _), (2, .int _), (3, .int _)]) (pc' := 14) dX9_madeBy_12 rfl (Nat.le_of_ble_eq_true rfl) rfl ?_
  exact Ev.sub [2, 4, 5, 1, 0] rfl (okX9_madeBy_h14 ho1 h)
def wpX9_madeKept_l13 (o1 : Nat) (Q : Int32 → Ix → Lx → Prop) (P13 : Int32 → Int32 → Int32 → Ix → Lx → Prop) (v2 : Int32) (v3 : Int32) (v4 : Int32) (I : Ix) (L : Lx) : Prop := (v2 ≤ v4 → Q v3 I L) ∧ (¬ v2 ≤ v4 → wpX0_use 70 I L (fun r3 I1 L2 => wpX0_mend 70 I1 L2 (fun I4 L5 => P13 v2 (v3 + r3) (v4 + 1) I4 L5)))
def wpX9_madeKept_h13 (o1 : Nat) (Q : Int32 → Ix → Lx → Prop) (v2 : Int32) (v3 : Int32) (v4 : Int32) (I : Ix) (L : Lx) : Prop := Lfp (X := Int32 × Int32 × Int32 × Ix × Lx) (fun P z => wpX9_madeKept_l13 o1 Q (fun v2 v3 v4 I L => P (v2, v3, v4, I, L)) z.1 z.2.1 z.2.2.1 z.2.2.2.1 z.2.2.2.2) (v2, v3, v4, I, L)
theorem wpX9_madeKept_h13_fold {o1 : Nat} {Q : Int32 → Ix → Lx → Prop} {v2 : Int32} {v3 : Int32} {v4 : Int32} {I : Ix} {L : Lx} (h : wpX9_madeKept_l13 o1 Q (wpX9_madeKept_h13 o1 Q) v2 v3 v4 I L) : wpX9_madeKept_h13 o1 Q v2 v3 v4 I L := Lfp.fold h
def wpX9_madeKept (o1 : Nat) (a2 : Int32) (I : Ix) (L : Lx) (Q : Int32 → Ix → Lx → Prop) : Prop := wpX2_copyFrom 70 o1 I L (fun I1 L2 => wpX9_madeKept_h13 o1 Q a2 0 0 I1 L2)
set_option maxRecDepth 10000 in
theorem okX9_madeKept_l13 {G : Gx} {o1 : Nat} (ho1 : NowAt o1) {Q : Int32 → Ix → Lx → Prop} {P13 : Int32 → Int32 → Int32 → Ix → Lx → Prop} (hP13 : ∀ (v2 : Int32) (v3 : Int32) (v4 : Int32) (I : Ix) (L : Lx), P13 v2 v3 v4 I L → Ef G MX9_madeKept (qI Q) 13 [(0, .ref 69), (2, .int v2), (3, .int v3), (4, .int v4)] [] I L) {v2 : Int32} {v3 : Int32} {v4 : Int32} {I : Ix} {L : Lx} (h : wpX9_madeKept_l13 o1 Q P13 v2 v3 v4 I L) : Ef G MX9_madeKept (qI Q) 13 [(0, .ref 69), (2, .int v2), (3, .int v3), (4, .int v4)] [] I L := by
  unfold wpX9_madeKept_l13 at h
  refine Ev.iload (k := 3) (pc' := 15) dX9_madeKept_13 rfl rfl ?_
  refine Ev.iload_n (k := 1) (pc' := 16) dX9_madeKept_15 rfl rfl rfl ?_
  refine Ev.icmp_ge (pc' := 19) (tgt := 50) dX9_madeKept_16 rfl rfl (fun hc => ?_) (fun hc => ?_)
  · have h := h.1 hc
    refine Ev.iload_n (k := 2) (pc' := 51) dX9_madeKept_50 rfl rfl rfl ?_
    exact Ef.iret dX9_madeKept_51 rfl h
  · have h := h.2 hc
    refine Ev.iload_n (k := 2) (pc' := 20) dX9_madeKept_19 rfl rfl rfl ?_
    refine Ev.aload_n (k := 0) (pc' := 21) dX9_madeKept_20 rfl rfl rfl ?_
    refine Ev.getR (pc' := 24) dX9_madeKept_21 rfl fa_RX9_26 ob_69 fk_9_1 rf_69_1 ?_
    refine Ev.aload_n (k := 0) (pc' := 25) dX9_madeKept_24 rfl rfl rfl ?_
    refine Ev.getR (pc' := 28) dX9_madeKept_25 rfl fa_RX9_12 ob_69 fk_9_2 rf_69_2 ?_
    refine Ef.callVI [.ref _] [.int _] (pc' := 31) dX9_madeKept_28 rfl cv_RX9_40_X0_use ⟨Nat.le_of_ble_eq_true rfl, Nat.le_of_ble_eq_true rfl⟩ ob_62 rfl rfl rfl (Nat.le_of_ble_eq_true rfl) (okX0_use nowAt_70 h) (fun r3 I1 L2 h => ?_)
    refine Ev.iadd (pc' := 32) dX9_madeKept_31 rfl ?_
    refine Ev.istore_n (ls' := [(3, .int _), (0, .ref _), (2, .int _), (4, .int _)]) (pc' := 33) dX9_madeKept_32 rfl rfl (Nat.le_of_ble_eq_true rfl) rfl ?_
    refine Ev.aload_n (k := 1) (pc' := 34) dX9_madeKept_33 rfl rfl rfl ?_
    refine Ev.getR (pc' := 37) dX9_madeKept_34 rfl fa_RX9_26 ob_69 fk_9_1 rf_69_1 ?_
    refine Ev.aload_n (k := 1) (pc' := 38) dX9_madeKept_37 rfl rfl rfl ?_
    refine Ev.getR (pc' := 41) dX9_madeKept_38 rfl fa_RX9_12 ob_69 fk_9_2 rf_69_2 ?_
    refine Ef.callVV [.ref _] [] (pc' := 44) dX9_madeKept_41 rfl cv_RX9_44_X0_mend ⟨Nat.le_of_ble_eq_true rfl, Nat.le_of_ble_eq_true rfl⟩ ob_62 rfl rfl rfl (Nat.le_of_ble_eq_true rfl) (okX0_mend nowAt_70 h) (fun I4 L5 h => ?_)
    refine Ev.iinc (k := 3) (v := _) (ls' := [(4, .int _), (3, .int _), (0, .ref _), (2, .int _)]) (pc' := 47) dX9_madeKept_44 rfl rfl (congrArg (_ + ·) ki_1) (Nat.le_of_ble_eq_true rfl) rfl ?_
    refine Ev.goto (tgt := 13) dX9_madeKept_47 rfl ?_
    exact Ev.sub [2, 3, 1, 0] rfl (hP13 _ _ _ _ _ h)
set_option maxRecDepth 10000 in
theorem okX9_madeKept_h13 {G : Gx} {o1 : Nat} (ho1 : NowAt o1) {Q : Int32 → Ix → Lx → Prop} {v2 : Int32} {v3 : Int32} {v4 : Int32} {I : Ix} {L : Lx} (h : wpX9_madeKept_h13 o1 Q v2 v3 v4 I L) : Ef G MX9_madeKept (qI Q) 13 [(0, .ref 69), (2, .int v2), (3, .int v3), (4, .int v4)] [] I L := by
  unfold wpX9_madeKept_h13 at h
  refine Lfp.ind (P := fun z => Ef G MX9_madeKept (qI Q) 13 [(0, .ref 69), (2, .int z.1), (3, .int z.2.1), (4, .int z.2.2.1)] [] z.2.2.2.1 z.2.2.2.2) ?_ h
  intro z P' hP' h
  obtain ⟨v2, v3, v4, I, L⟩ := z
  exact okX9_madeKept_l13 ho1 (fun v2 v3 v4 I L h9 => hP' (v2, v3, v4, I, L) h9) h
set_option maxRecDepth 10000 in
theorem okX9_madeKept {G : Gx} {o1 : Nat} (ho1 : NowAt o1) {a2 : Int32} {I : Ix} {L : Lx} {Q : Int32 → Ix → Lx → Prop} (h : wpX9_madeKept o1 a2 I L Q) : Mf G MX9_madeKept [.ref 69, .ref o1, .int a2] I L (qI Q) := by
  unfold wpX9_madeKept at h
  refine Mf.of pn_RX9 (Nat.le_of_ble_eq_true rfl) ?_
  refine Ev.aload_n (k := 0) (pc' := 1) dX9_madeKept_0 rfl rfl rfl ?_
  refine Ev.getR (pc' := 4) dX9_madeKept_1 rfl fa_RX9_12 ob_69 fk_9_2 rf_69_2 ?_
  refine Ev.aload_n (k := 1) (pc' := 5) dX9_madeKept_4 rfl rfl rfl ?_
  refine Ef.callVV [.ref _] [] (pc' := 8) dX9_madeKept_5 rfl cv_RX9_30_X2_copyFrom ⟨Nat.le_of_ble_eq_true rfl, Nat.le_of_ble_eq_true rfl⟩ ob_70 rfl rfl rfl (Nat.le_of_ble_eq_true rfl) (okX2_copyFrom nowAt_70 ho1 h) (fun I1 L2 h => ?_)
  refine Ev.iconst (pc' := 9) dX9_madeKept_8 rfl ki_0 ?_
  refine Ev.istore_n (ls' := [(3, .int _), (0, .ref _), (1, .ref _), (2, .int _)]) (pc' := 10) dX9_madeKept_9 rfl rfl (Nat.le_of_ble_eq_true rfl) rfl ?_
  refine Ev.iconst (pc' := 11) dX9_madeKept_10 rfl ki_0 ?_
  refine Ev.istore (ls' := [(4, .int _), (3, .int _), (0, .ref _), (1, .ref _), (2, .int _)]) (pc' := 13) dX9_madeKept_11 rfl (Nat.le_of_ble_eq_true rfl) rfl ?_
  exact Ev.sub [2, 4, 1, 0] rfl (okX9_madeKept_h13 ho1 h)
def wpX11_made_b65 (Q : Int32 → Ix → Lx → Prop) (t2 : Int32) (t3 : Int32) (I : Ix) (L : Lx) : Prop := wpX9_madeBy 53 t2 t3 I L (fun r3 I1 L2 => Q r3 I1 L2)
def wpX11_made (a1 : Int32) (a2 : Int32) (I : Ix) (L : Lx) (Q : Int32 → Ix → Lx → Prop) : Prop := (a1 < 0 → Q (-1) I L) ∧ (¬ a1 < 0 → (40 < a1 → Q (-1) I L) ∧ (¬ 40 < a1 → (a2 < 0 → Q (-1) I L) ∧ (¬ a2 < 0 → (a2 ≤ 4 → (¬ a2 = 4 → (¬ a2 = 0 → wpX11_made_b65 Q a1 (a2 - 1) I L) ∧ (a2 = 0 → wpX11_made_b65 Q a1 (I 3 4) I L)) ∧ (a2 = 4 → wpX9_madeKept 53 a1 I L (fun r3 I1 L2 => Q r3 I1 L2))) ∧ (¬ a2 ≤ 4 → Q (-1) I L))))
set_option maxRecDepth 10000 in
theorem okX11_made_b65 {G : Gx} {Q : Int32 → Ix → Lx → Prop} {t2 : Int32} {t3 : Int32} {I : Ix} {L : Lx} (h : wpX11_made_b65 Q t2 t3 I L) : Ef G MX11_made (qI Q) 65 [] [.int t3, .int t2, .ref 53, .ref 69] I L := by
  unfold wpX11_made_b65 at h
  refine Ef.callVI [.ref _, .int _, .int _] [] (pc' := 68) dX11_made_65 rfl cv_RX11_217_X9_madeBy ⟨Nat.le_of_ble_eq_true rfl, Nat.le_of_ble_eq_true rfl⟩ ob_69 rfl rfl rfl (Nat.le_of_ble_eq_true rfl) (okX9_madeBy nowAt_53 h) (fun r3 I1 L2 h => ?_)
  exact Ef.iret dX11_made_68 rfl h
set_option maxRecDepth 10000 in
theorem okX11_made {G : Gx} {a1 : Int32} {a2 : Int32} {I : Ix} {L : Lx} {Q : Int32 → Ix → Lx → Prop} (h : wpX11_made a1 a2 I L Q) : Mf G MX11_made [.ref 0, .int a1, .int a2] I L (qI Q) := by
  unfold wpX11_made at h
  refine Mf.of pn_RX11 (Nat.le_of_ble_eq_true rfl) ?_
  refine Ev.iload_n (k := 1) (pc' := 1) dX11_made_0 rfl rfl rfl ?_
  refine Ev.if_lt (pc' := 4) (tgt := 19) dX11_made_1 rfl rfl (fun hc => ?_) (fun hc => ?_)
  · have h := h.1 hc
    refine Ev.iconst (pc' := 20) dX11_made_19 rfl ki_m1 ?_
    exact Ef.iret dX11_made_20 rfl h
  · have h := h.2 hc
    refine Ev.iload_n (k := 1) (pc' := 5) dX11_made_4 rfl rfl rfl ?_
    refine Ev.bipush (pc' := 7) dX11_made_5 rfl kb_40 ?_
    refine Ev.icmp_gt (pc' := 10) (tgt := 19) dX11_made_7 rfl rfl (fun hc => ?_) (fun hc => ?_)
    · have h := h.1 hc
      refine Ev.iconst (pc' := 20) dX11_made_19 rfl ki_m1 ?_
      exact Ef.iret dX11_made_20 rfl h
    · have h := h.2 hc
      refine Ev.iload_n (k := 2) (pc' := 11) dX11_made_10 rfl rfl rfl ?_
      refine Ev.if_lt (pc' := 14) (tgt := 19) dX11_made_11 rfl rfl (fun hc => ?_) (fun hc => ?_)
      · have h := h.1 hc
        refine Ev.iconst (pc' := 20) dX11_made_19 rfl ki_m1 ?_
        exact Ef.iret dX11_made_20 rfl h
      · have h := h.2 hc
        refine Ev.iload_n (k := 2) (pc' := 15) dX11_made_14 rfl rfl rfl ?_
        refine Ev.iconst (pc' := 16) dX11_made_15 rfl ki_4 ?_
        refine Ev.icmp_le (pc' := 19) (tgt := 21) dX11_made_16 rfl rfl (fun hc => ?_) (fun hc => ?_)
        · have h := h.1 hc
          refine Ev.iload_n (k := 2) (pc' := 22) dX11_made_21 rfl rfl rfl ?_
          refine Ev.iconst (pc' := 23) dX11_made_22 rfl ki_4 ?_
          refine Ev.icmp_ne (pc' := 26) (tgt := 39) dX11_made_23 rfl rfl (fun hc => ?_) (fun hc => ?_)
          · have h := h.1 hc
            refine Ev.aload_n (k := 0) (pc' := 40) dX11_made_39 rfl rfl rfl ?_
            refine Ev.getR (pc' := 43) dX11_made_40 rfl fa_RX11_56 ob_0 fk_11_6 rf_0_6 ?_
            refine Ev.aload_n (k := 0) (pc' := 44) dX11_made_43 rfl rfl rfl ?_
            refine Ev.getR (pc' := 47) dX11_made_44 rfl fa_RX11_38 ob_0 fk_11_4 rf_0_4 ?_
            refine Ev.iload_n (k := 1) (pc' := 48) dX11_made_47 rfl rfl rfl ?_
            refine Ev.iload_n (k := 2) (pc' := 49) dX11_made_48 rfl rfl rfl ?_
            refine Ev.if_ne (pc' := 52) (tgt := 62) dX11_made_49 rfl rfl (fun hc => ?_) (fun hc => ?_)
            · have h := h.1 hc
              refine Ev.iload_n (k := 2) (pc' := 63) dX11_made_62 rfl rfl rfl ?_
              refine Ev.iconst (pc' := 64) dX11_made_63 rfl ki_1 ?_
              refine Ev.isub (pc' := 65) dX11_made_64 rfl ?_
              exact Ev.sub [] rfl (okX11_made_b65 h)
            · have h := h.2 hc
              refine Ev.aload_n (k := 0) (pc' := 53) dX11_made_52 rfl rfl rfl ?_
              refine Ev.getR (pc' := 56) dX11_made_53 rfl fa_RX11_19 ob_0 fk_11_1 rf_0_1 ?_
              refine Ev.getI (pc' := 59) dX11_made_56 rfl fa_RX11_117 ob_3 fk_10_4 ?_
              refine Ev.goto (tgt := 65) dX11_made_59 rfl ?_
              exact Ev.sub [] rfl (okX11_made_b65 h)
          · have h := h.2 hc
            refine Ev.aload_n (k := 0) (pc' := 27) dX11_made_26 rfl rfl rfl ?_
            refine Ev.getR (pc' := 30) dX11_made_27 rfl fa_RX11_56 ob_0 fk_11_6 rf_0_6 ?_
            refine Ev.aload_n (k := 0) (pc' := 31) dX11_made_30 rfl rfl rfl ?_
            refine Ev.getR (pc' := 34) dX11_made_31 rfl fa_RX11_38 ob_0 fk_11_4 rf_0_4 ?_
            refine Ev.iload_n (k := 1) (pc' := 35) dX11_made_34 rfl rfl rfl ?_
            refine Ef.callVI [.ref _, .int _] [] (pc' := 38) dX11_made_35 rfl cv_RX11_214_X9_madeKept ⟨Nat.le_of_ble_eq_true rfl, Nat.le_of_ble_eq_true rfl⟩ ob_69 rfl rfl rfl (Nat.le_of_ble_eq_true rfl) (okX9_madeKept nowAt_53 h) (fun r3 I1 L2 h => ?_)
            exact Ef.iret dX11_made_38 rfl h
        · have h := h.2 hc
          refine Ev.iconst (pc' := 20) dX11_made_19 rfl ki_m1 ?_
          exact Ef.iret dX11_made_20 rfl h
def wpX11_law_l31 (Q : Int32 → Ix → Lx → Prop) (P31 : Int32 → Int32 → Int32 → Int32 → Ix → Lx → Prop) (v1 : Int32) (v2 : Int32) (v3 : Int32) (v4 : Int32) (I : Ix) (L : Lx) : Prop := (2 < v4 → Q v2 I L) ∧ (¬ 2 < v4 → wpX9_madeBy 53 v1 v4 I L (fun r3 I1 L2 => (r3 ≤ v3 → P31 v1 v2 v3 (v4 + 1) I1 L2) ∧ (¬ r3 ≤ v3 → P31 v1 v4 r3 (v4 + 1) I1 L2)))
def wpX11_law_h31 (Q : Int32 → Ix → Lx → Prop) (v1 : Int32) (v2 : Int32) (v3 : Int32) (v4 : Int32) (I : Ix) (L : Lx) : Prop := Lfp (X := Int32 × Int32 × Int32 × Int32 × Ix × Lx) (fun P z => wpX11_law_l31 Q (fun v1 v2 v3 v4 I L => P (v1, v2, v3, v4, I, L)) z.1 z.2.1 z.2.2.1 z.2.2.2.1 z.2.2.2.2.1 z.2.2.2.2.2) (v1, v2, v3, v4, I, L)
theorem wpX11_law_h31_fold {Q : Int32 → Ix → Lx → Prop} {v1 : Int32} {v2 : Int32} {v3 : Int32} {v4 : Int32} {I : Ix} {L : Lx} (h : wpX11_law_l31 Q (wpX11_law_h31 Q) v1 v2 v3 v4 I L) : wpX11_law_h31 Q v1 v2 v3 v4 I L := Lfp.fold h
def wpX11_law (a1 : Int32) (I : Ix) (L : Lx) (Q : Int32 → Ix → Lx → Prop) : Prop := (a1 < 0 → Q (-1) I L) ∧ (¬ a1 < 0 → (a1 ≤ 40 → wpX9_madeBy 53 a1 0 I L (fun r3 I1 L2 => wpX11_law_h31 Q a1 0 r3 1 I1 L2)) ∧ (¬ a1 ≤ 40 → Q (-1) I L))
set_option maxRecDepth 10000 in
theorem okX11_law_l31 {G : Gx} {Q : Int32 → Ix → Lx → Prop} {P31 : Int32 → Int32 → Int32 → Int32 → Ix → Lx → Prop} (hP31 : ∀ (v1 : Int32) (v2 : Int32) (v3 : Int32) (v4 : Int32) (I : Ix) (L : Lx), P31 v1 v2 v3 v4 I L → Ef G MX11_law (qI Q) 31 [(0, .ref 0), (1, .int v1), (2, .int v2), (3, .int v3), (4, .int v4)] [] I L) {v1 : Int32} {v2 : Int32} {v3 : Int32} {v4 : Int32} {I : Ix} {L : Lx} (h : wpX11_law_l31 Q P31 v1 v2 v3 v4 I L) : Ef G MX11_law (qI Q) 31 [(0, .ref 0), (1, .int v1), (2, .int v2), (3, .int v3), (4, .int v4)] [] I L := by
  unfold wpX11_law_l31 at h
  refine Ev.iload (k := 4) (pc' := 33) dX11_law_31 rfl rfl ?_
  refine Ev.iconst (pc' := 34) dX11_law_33 rfl ki_2 ?_
  refine Ev.icmp_gt (pc' := 37) (tgt := 71) dX11_law_34 rfl rfl (fun hc => ?_) (fun hc => ?_)
  · have h := h.1 hc
    refine Ev.iload_n (k := 2) (pc' := 72) dX11_law_71 rfl rfl rfl ?_
    exact Ef.iret dX11_law_72 rfl h
  · have h := h.2 hc
    refine Ev.aload_n (k := 0) (pc' := 38) dX11_law_37 rfl rfl rfl ?_
    refine Ev.getR (pc' := 41) dX11_law_38 rfl fa_RX11_56 ob_0 fk_11_6 rf_0_6 ?_
    refine Ev.aload_n (k := 0) (pc' := 42) dX11_law_41 rfl rfl rfl ?_
    refine Ev.getR (pc' := 45) dX11_law_42 rfl fa_RX11_38 ob_0 fk_11_4 rf_0_4 ?_
    refine Ev.iload_n (k := 1) (pc' := 46) dX11_law_45 rfl rfl rfl ?_
    refine Ev.iload (k := 4) (pc' := 48) dX11_law_46 rfl rfl ?_
    refine Ef.callVI [.ref _, .int _, .int _] [] (pc' := 51) dX11_law_48 rfl cv_RX11_217_X9_madeBy ⟨Nat.le_of_ble_eq_true rfl, Nat.le_of_ble_eq_true rfl⟩ ob_69 rfl rfl rfl (Nat.le_of_ble_eq_true rfl) (okX9_madeBy nowAt_53 h) (fun r3 I1 L2 h => ?_)
    refine Ev.istore (ls' := [(5, .int _), (0, .ref _), (1, .int _), (2, .int _), (3, .int _), (4, .int _)]) (pc' := 53) dX11_law_51 rfl (Nat.le_of_ble_eq_true rfl) rfl ?_
    refine Ev.iload (k := 0) (pc' := 55) dX11_law_53 rfl rfl ?_
    refine Ev.iload_n (k := 4) (pc' := 56) dX11_law_55 rfl rfl rfl ?_
    refine Ev.icmp_le (pc' := 59) (tgt := 65) dX11_law_56 rfl rfl (fun hc => ?_) (fun hc => ?_)
    · have h := h.1 hc
      refine Ev.iinc (k := 5) (v := _) (ls' := [(4, .int _), (5, .int _), (0, .ref _), (1, .int _), (2, .int _), (3, .int _)]) (pc' := 68) dX11_law_65 rfl rfl (congrArg (_ + ·) ki_1) (Nat.le_of_ble_eq_true rfl) rfl ?_
      refine Ev.goto (tgt := 31) dX11_law_68 rfl ?_
      exact Ev.sub [2, 3, 4, 5, 0] rfl (hP31 _ _ _ _ _ _ h)
    · have h := h.2 hc
      refine Ev.iload (k := 0) (pc' := 61) dX11_law_59 rfl rfl ?_
      refine Ev.istore_n (ls' := [(3, .int _), (5, .int _), (0, .ref _), (1, .int _), (2, .int _), (4, .int _)]) (pc' := 62) dX11_law_61 rfl rfl (Nat.le_of_ble_eq_true rfl) rfl ?_
      refine Ev.iload (k := 5) (pc' := 64) dX11_law_62 rfl rfl ?_
      refine Ev.istore_n (ls' := [(2, .int _), (3, .int _), (5, .int _), (0, .ref _), (1, .int _), (4, .int _)]) (pc' := 65) dX11_law_64 rfl rfl (Nat.le_of_ble_eq_true rfl) rfl ?_
      refine Ev.iinc (k := 5) (v := _) (ls' := [(4, .int _), (2, .int _), (3, .int _), (5, .int _), (0, .ref _), (1, .int _)]) (pc' := 68) dX11_law_65 rfl rfl (congrArg (_ + ·) ki_1) (Nat.le_of_ble_eq_true rfl) rfl ?_
      refine Ev.goto (tgt := 31) dX11_law_68 rfl ?_
      exact Ev.sub [4, 5, 1, 2, 0] rfl (hP31 _ _ _ _ _ _ h)
set_option maxRecDepth 10000 in
theorem okX11_law_h31 {G : Gx} {Q : Int32 → Ix → Lx → Prop} {v1 : Int32} {v2 : Int32} {v3 : Int32} {v4 : Int32} {I : Ix} {L : Lx} (h : wpX11_law_h31 Q v1 v2 v3 v4 I L) : Ef G MX11_law (qI Q) 31 [(0, .ref 0), (1, .int v1), (2, .int v2), (3, .int v3), (4, .int v4)] [] I L := by
  unfold wpX11_law_h31 at h
  refine Lfp.ind (P := fun z => Ef G MX11_law (qI Q) 31 [(0, .ref 0), (1, .int z.1), (2, .int z.2.1), (3, .int z.2.2.1), (4, .int z.2.2.2.1)] [] z.2.2.2.2.1 z.2.2.2.2.2) ?_ h
  intro z P' hP' h
  obtain ⟨v1, v2, v3, v4, I, L⟩ := z
  exact okX11_law_l31 (fun v1 v2 v3 v4 I L h9 => hP' (v1, v2, v3, v4, I, L) h9) h
set_option maxRecDepth 10000 in
theorem okX11_law {G : Gx} {a1 : Int32} {I : Ix} {L : Lx} {Q : Int32 → Ix → Lx → Prop} (h : wpX11_law a1 I L Q) : Mf G MX11_law [.ref 0, .int a1] I L (qI Q) := by
  unfold wpX11_law at h
  refine Mf.of pn_RX11 (Nat.le_of_ble_eq_true rfl) ?_
  refine Ev.iload_n (k := 1) (pc' := 1) dX11_law_0 rfl rfl rfl ?_
  refine Ev.if_lt (pc' := 4) (tgt := 10) dX11_law_1 rfl rfl (fun hc => ?_) (fun hc => ?_)
  · have h := h.1 hc
    refine Ev.iconst (pc' := 11) dX11_law_10 rfl ki_m1 ?_
    exact Ef.iret dX11_law_11 rfl h
  · have h := h.2 hc
    refine Ev.iload_n (k := 1) (pc' := 5) dX11_law_4 rfl rfl rfl ?_
    refine Ev.bipush (pc' := 7) dX11_law_5 rfl kb_40 ?_
    refine Ev.icmp_le (pc' := 10) (tgt := 12) dX11_law_7 rfl rfl (fun hc => ?_) (fun hc => ?_)
    · have h := h.1 hc
      refine Ev.iconst (pc' := 13) dX11_law_12 rfl ki_0 ?_
      refine Ev.istore_n (ls' := [(2, .int _), (0, .ref _), (1, .int _)]) (pc' := 14) dX11_law_13 rfl rfl (Nat.le_of_ble_eq_true rfl) rfl ?_
      refine Ev.aload_n (k := 1) (pc' := 15) dX11_law_14 rfl rfl rfl ?_
      refine Ev.getR (pc' := 18) dX11_law_15 rfl fa_RX11_56 ob_0 fk_11_6 rf_0_6 ?_
      refine Ev.aload_n (k := 1) (pc' := 19) dX11_law_18 rfl rfl rfl ?_
      refine Ev.getR (pc' := 22) dX11_law_19 rfl fa_RX11_38 ob_0 fk_11_4 rf_0_4 ?_
      refine Ev.iload_n (k := 2) (pc' := 23) dX11_law_22 rfl rfl rfl ?_
      refine Ev.iconst (pc' := 24) dX11_law_23 rfl ki_0 ?_
      refine Ef.callVI [.ref _, .int _, .int _] [] (pc' := 27) dX11_law_24 rfl cv_RX11_217_X9_madeBy ⟨Nat.le_of_ble_eq_true rfl, Nat.le_of_ble_eq_true rfl⟩ ob_69 rfl rfl rfl (Nat.le_of_ble_eq_true rfl) (okX9_madeBy nowAt_53 h) (fun r3 I1 L2 h => ?_)
      refine Ev.istore_n (ls' := [(3, .int _), (2, .int _), (0, .ref _), (1, .int _)]) (pc' := 28) dX11_law_27 rfl rfl (Nat.le_of_ble_eq_true rfl) rfl ?_
      refine Ev.iconst (pc' := 29) dX11_law_28 rfl ki_1 ?_
      refine Ev.istore (ls' := [(4, .int _), (3, .int _), (2, .int _), (0, .ref _), (1, .int _)]) (pc' := 31) dX11_law_29 rfl (Nat.le_of_ble_eq_true rfl) rfl ?_
      exact Ev.sub [3, 4, 2, 1, 0] rfl (okX11_law_h31 h)
    · have h := h.2 hc
      refine Ev.iconst (pc' := 11) dX11_law_10 rfl ki_m1 ?_
      exact Ef.iret dX11_law_11 rfl h
def wpX9_mostOfDay_b92 (o1 : Nat) (Q : Int64 → Ix → Lx → Prop) (P8 : Int32 → Int32 → Int32 → Int64 → Int32 → Ix → Lx → Prop) (v2 : Int32) (v3 : Int32) (v4 : Int32) (v5 : Int64) (v7 : Int32) (v8 : Int64) (I : Ix) (L : Lx) : Prop := (v8 ≤ v5 → P8 v2 v3 v4 v5 (v7 + 1) I L) ∧ (¬ v8 ≤ v5 → ∀ I1 : Ix, I1 = pu I 69 6 v7 → P8 v2 v3 v4 v8 (v7 + 1) I1 L)
def wpX9_mostOfDay_b49 (o1 : Nat) (Q : Int64 → Ix → Lx → Prop) (P8 : Int32 → Int32 → Int32 → Int64 → Int32 → Ix → Lx → Prop) (v2 : Int32) (v3 : Int32) (v4 : Int32) (v5 : Int64) (v7 : Int32) (v8 : Int64) (I : Ix) (L : Lx) : Prop := vp_in v2 10 ∧ vp_in (imax 0 (v3 - (((I 18 v2.toNatClampNeg) * v7) / 10))) 101 ∧ wpX9_mostOfDay_b92 o1 Q P8 v2 v3 v4 v5 v7 (v8 + (((v4.toInt64) * (L 79 (imax 0 (v3 - (((I 18 v2.toNatClampNeg) * v7) / 10))).toNatClampNeg)) / 100)) I L
def wpX9_mostOfDay_l8 (o1 : Nat) (Q : Int64 → Ix → Lx → Prop) (P8 : Int32 → Int32 → Int32 → Int64 → Int32 → Ix → Lx → Prop) (v2 : Int32) (v3 : Int32) (v4 : Int32) (v5 : Int64) (v7 : Int32) (I : Ix) (L : Lx) : Prop := (9 < v7 → Q v5 I L) ∧ (¬ 9 < v7 → vp_in v2 10 ∧ (v7 = 0 → wpX9_mostOfDay_b49 o1 Q P8 v2 v3 v4 v5 v7 (((((I (o1 + 4) v2.toNatClampNeg) * v3) * v7) * 10).toInt64) I L) ∧ (¬ v7 = 0 → vp_in v2 10 ∧ (¬ (I 20 v2.toNatClampNeg) = 0 → wpX9_mostOfDay_b92 o1 Q P8 v2 v3 v4 v5 v7 (((((I (o1 + 4) v2.toNatClampNeg) * v3) * v7) * 10).toInt64) I L) ∧ ((I 20 v2.toNatClampNeg) = 0 → wpX9_mostOfDay_b49 o1 Q P8 v2 v3 v4 v5 v7 (((((I (o1 + 4) v2.toNatClampNeg) * v3) * v7) * 10).toInt64) I L)))
def wpX9_mostOfDay_h8 (o1 : Nat) (Q : Int64 → Ix → Lx → Prop) (v2 : Int32) (v3 : Int32) (v4 : Int32) (v5 : Int64) (v7 : Int32) (I : Ix) (L : Lx) : Prop := Lfp (X := Int32 × Int32 × Int32 × Int64 × Int32 × Ix × Lx) (fun P z => wpX9_mostOfDay_l8 o1 Q (fun v2 v3 v4 v5 v7 I L => P (v2, v3, v4, v5, v7, I, L)) z.1 z.2.1 z.2.2.1 z.2.2.2.1 z.2.2.2.2.1 z.2.2.2.2.2.1 z.2.2.2.2.2.2) (v2, v3, v4, v5, v7, I, L)
theorem wpX9_mostOfDay_h8_fold {o1 : Nat} {Q : Int64 → Ix → Lx → Prop} {v2 : Int32} {v3 : Int32} {v4 : Int32} {v5 : Int64} {v7 : Int32} {I : Ix} {L : Lx} (h : wpX9_mostOfDay_l8 o1 Q (wpX9_mostOfDay_h8 o1 Q) v2 v3 v4 v5 v7 I L) : wpX9_mostOfDay_h8 o1 Q v2 v3 v4 v5 v7 I L := Lfp.fold h
def wpX9_mostOfDay (o1 : Nat) (a2 : Int32) (a3 : Int32) (a4 : Int32) (I : Ix) (L : Lx) (Q : Int64 → Ix → Lx → Prop) : Prop := wpX9_mostOfDay_h8 o1 Q a2 a3 a4 (-1) 0 I L
set_option maxRecDepth 10000 in
theorem okX9_mostOfDay_b92 {G : Gx} {o1 : Nat} (ho1 : NowAt o1) {Q : Int64 → Ix → Lx → Prop} {P8 : Int32 → Int32 → Int32 → Int64 → Int32 → Ix → Lx → Prop} (hP8 : ∀ (v2 : Int32) (v3 : Int32) (v4 : Int32) (v5 : Int64) (v7 : Int32) (I : Ix) (L : Lx), P8 v2 v3 v4 v5 v7 I L → Ef G MX9_mostOfDay (qL Q) 8 [(0, .ref 69), (1, .ref o1), (2, .int v2), (3, .int v3), (4, .int v4), (5, .long v5), (7, .int v7)] [] I L) {v2 : Int32} {v3 : Int32} {v4 : Int32} {v5 : Int64} {v7 : Int32} {v8 : Int64} {I : Ix} {L : Lx} (h : wpX9_mostOfDay_b92 o1 Q P8 v2 v3 v4 v5 v7 v8 I L) : Ef G MX9_mostOfDay (qL Q) 92 [(0, .ref 69), (1, .ref o1), (2, .int v2), (3, .int v3), (4, .int v4), (5, .long v5), (7, .int v7), (8, .long v8)] [] I L := by
  unfold wpX9_mostOfDay_b92 at h
  refine Ev.lload (k := 7) (pc' := 94) dX9_mostOfDay_92 rfl rfl ?_
  refine Ev.lload (k := 5) (pc' := 96) dX9_mostOfDay_94 rfl rfl ?_
  refine Ef.lc_le (pc1 := 97) (pc' := 100) (tgt := 110) dX9_mostOfDay_96 rfl dX9_mostOfDay_97 rfl rfl (fun hc => ?_) (fun hc => ?_)
  · have h := h.1 hc
    refine Ev.iinc (k := 6) (v := _) (ls' := [(7, .int _), (0, .ref _), (1, .ref _), (2, .int _), (3, .int _), (4, .int _), (5, .long _), (8, .long _)]) (pc' := 113) dX9_mostOfDay_110 rfl rfl (congrArg (_ + ·) ki_1) (Nat.le_of_ble_eq_true rfl) rfl ?_
    refine Ev.goto (tgt := 8) dX9_mostOfDay_113 rfl ?_
    exact Ev.sub [1, 2, 3, 4, 5, 6, 0] rfl (hP8 _ _ _ _ _ _ _ h)
  · have h := h.2 hc
    refine Ev.lload (k := 7) (pc' := 102) dX9_mostOfDay_100 rfl rfl ?_
    refine Ev.lstore (ls' := [(5, .long _), (0, .ref _), (1, .ref _), (2, .int _), (3, .int _), (4, .int _), (7, .int _), (8, .long _)]) (pc' := 104) dX9_mostOfDay_102 rfl (Nat.le_of_ble_eq_true rfl) rfl ?_
    refine Ev.aload_n (k := 1) (pc' := 105) dX9_mostOfDay_104 rfl rfl rfl ?_
    refine Ev.iload (k := 6) (pc' := 107) dX9_mostOfDay_105 rfl rfl ?_
    refine Ev.putI (pc' := 110) dX9_mostOfDay_107 rfl fa_RX9_127 ob_69 fk_9_6 rfl rfl (fun I1 eI1 => ?_)
    have h := h I1 eI1
    refine Ev.iinc (k := 6) (v := _) (ls' := [(7, .int _), (5, .long _), (0, .ref _), (1, .ref _), (2, .int _), (3, .int _), (4, .int _), (8, .long _)]) (pc' := 113) dX9_mostOfDay_110 rfl rfl (congrArg (_ + ·) ki_1) (Nat.le_of_ble_eq_true rfl) rfl ?_
    refine Ev.goto (tgt := 8) dX9_mostOfDay_113 rfl ?_
    exact Ev.sub [2, 3, 4, 5, 6, 1, 0] rfl (hP8 _ _ _ _ _ _ _ h)
set_option maxRecDepth 10000 in
theorem okX9_mostOfDay_b49 {G : Gx} {o1 : Nat} (ho1 : NowAt o1) {Q : Int64 → Ix → Lx → Prop} {P8 : Int32 → Int32 → Int32 → Int64 → Int32 → Ix → Lx → Prop} (hP8 : ∀ (v2 : Int32) (v3 : Int32) (v4 : Int32) (v5 : Int64) (v7 : Int32) (I : Ix) (L : Lx), P8 v2 v3 v4 v5 v7 I L → Ef G MX9_mostOfDay (qL Q) 8 [(0, .ref 69), (1, .ref o1), (2, .int v2), (3, .int v3), (4, .int v4), (5, .long v5), (7, .int v7)] [] I L) {v2 : Int32} {v3 : Int32} {v4 : Int32} {v5 : Int64} {v7 : Int32} {v8 : Int64} {I : Ix} {L : Lx} (h : wpX9_mostOfDay_b49 o1 Q P8 v2 v3 v4 v5 v7 v8 I L) : Ef G MX9_mostOfDay (qL Q) 49 [(0, .ref 69), (1, .ref o1), (2, .int v2), (3, .int v3), (4, .int v4), (5, .long v5), (7, .int v7), (8, .long v8)] [] I L := by
  unfold wpX9_mostOfDay_b49 at h
  refine Ev.iconst (pc' := 50) dX9_mostOfDay_49 rfl ki_0 ?_
  refine Ev.iload_n (k := 3) (pc' := 51) dX9_mostOfDay_50 rfl rfl rfl ?_
  refine Ev.aload_n (k := 0) (pc' := 52) dX9_mostOfDay_51 rfl rfl rfl ?_
  refine Ev.getR (pc' := 55) dX9_mostOfDay_52 rfl fa_RX9_22 ob_69 fk_9_0 rf_69_0 ?_
  refine Ev.getR (pc' := 58) dX9_mostOfDay_55 rfl fa_RX9_117 ob_3 fk_10_9 rf_3_9 ?_
  refine Ev.iload_n (k := 2) (pc' := 59) dX9_mostOfDay_58 rfl rfl rfl ?_
  refine Ev.iaload (j := _) (pc' := 60) dX9_mostOfDay_59 rfl ar_18 h.1 rfl ?_
  have h := h.2
  refine Ev.iload (k := 6) (pc' := 62) dX9_mostOfDay_60 rfl rfl ?_
  refine Ev.imul (pc' := 63) dX9_mostOfDay_62 rfl ?_
  refine Ev.bipush (pc' := 65) dX9_mostOfDay_63 rfl kb_10 ?_
  refine Ev.idiv (pc' := 66) dX9_mostOfDay_65 rfl (by decide) ?_
  refine Ev.isub (pc' := 67) dX9_mostOfDay_66 rfl ?_
  refine Ev.mmax (pc' := 70) dX9_mostOfDay_67 rfl ml_RX9_120 mmax_w (Nat.le_of_ble_eq_true rfl) (Nat.le_of_ble_eq_true rfl) ?_
  refine Ev.istore (ls' := [(10, .int _), (0, .ref _), (1, .ref _), (2, .int _), (3, .int _), (4, .int _), (5, .long _), (7, .int _), (8, .long _)]) (pc' := 72) dX9_mostOfDay_70 rfl (Nat.le_of_ble_eq_true rfl) rfl ?_
  refine Ev.lload (k := 8) (pc' := 74) dX9_mostOfDay_72 rfl rfl ?_
  refine Ev.iload (k := 5) (pc' := 76) dX9_mostOfDay_74 rfl rfl ?_
  refine Ev.i2l (pc' := 77) dX9_mostOfDay_76 rfl ?_
  refine Ev.aload_n (k := 1) (pc' := 78) dX9_mostOfDay_77 rfl rfl rfl ?_
  refine Ev.getR (pc' := 81) dX9_mostOfDay_78 rfl fa_RX9_18 ob_69 fk_9_3 rf_69_3 ?_
  refine Ev.iload (k := 0) (pc' := 83) dX9_mostOfDay_81 rfl rfl ?_
  refine Ev.laload (j := _) (pc' := 84) dX9_mostOfDay_83 rfl ar_79 h.1 rfl ?_
  have h := h.2
  refine Ev.lmul (pc' := 85) dX9_mostOfDay_84 rfl ?_
  refine Ev.ldc2 (pc' := 88) dX9_mostOfDay_85 rfl ll_RX9_125 ?_
  refine Ev.ldiv (pc' := 89) dX9_mostOfDay_88 rfl (by decide) ?_
  refine Ev.ladd (pc' := 90) dX9_mostOfDay_89 rfl ?_
  refine Ev.lstore (ls' := [(8, .long _), (10, .int _), (0, .ref _), (1, .ref _), (2, .int _), (3, .int _), (4, .int _), (5, .long _), (7, .int _)]) (pc' := 92) dX9_mostOfDay_90 rfl (Nat.le_of_ble_eq_true rfl) rfl ?_
  exact Ev.sub [2, 3, 4, 5, 6, 7, 8, 0] rfl (okX9_mostOfDay_b92 ho1 hP8 h)
set_option maxRecDepth 10000 in
theorem okX9_mostOfDay_l8 {G : Gx} {o1 : Nat} (ho1 : NowAt o1) {Q : Int64 → Ix → Lx → Prop} {P8 : Int32 → Int32 → Int32 → Int64 → Int32 → Ix → Lx → Prop} (hP8 : ∀ (v2 : Int32) (v3 : Int32) (v4 : Int32) (v5 : Int64) (v7 : Int32) (I : Ix) (L : Lx), P8 v2 v3 v4 v5 v7 I L → Ef G MX9_mostOfDay (qL Q) 8 [(0, .ref 69), (1, .ref o1), (2, .int v2), (3, .int v3), (4, .int v4), (5, .long v5), (7, .int v7)] [] I L) {v2 : Int32} {v3 : Int32} {v4 : Int32} {v5 : Int64} {v7 : Int32} {I : Ix} {L : Lx} (h : wpX9_mostOfDay_l8 o1 Q P8 v2 v3 v4 v5 v7 I L) : Ef G MX9_mostOfDay (qL Q) 8 [(0, .ref 69), (1, .ref o1), (2, .int v2), (3, .int v3), (4, .int v4), (5, .long v5), (7, .int v7)] [] I L := by
  unfold wpX9_mostOfDay_l8 at h
  refine Ev.iload (k := 6) (pc' := 10) dX9_mostOfDay_8 rfl rfl ?_
  refine Ev.bipush (pc' := 12) dX9_mostOfDay_10 rfl kb_9 ?_
  refine Ev.icmp_gt (pc' := 15) (tgt := 116) dX9_mostOfDay_12 rfl rfl (fun hc => ?_) (fun hc => ?_)
  · have h := h.1 hc
    refine Ev.lload (k := 5) (pc' := 118) dX9_mostOfDay_116 rfl rfl ?_
    exact Ef.lret dX9_mostOfDay_118 rfl h
  · have h := h.2 hc
    refine Ev.aload_n (k := 1) (pc' := 16) dX9_mostOfDay_15 rfl rfl rfl ?_
    refine Ev.getR (pc' := 19) dX9_mostOfDay_16 rfl fa_RX9_86 (nowOB ho1) fk_2_6 (nowR4 ho1) ?_
    refine Ev.iload_n (k := 2) (pc' := 20) dX9_mostOfDay_19 rfl rfl rfl ?_
    refine Ev.iaload (j := _) (pc' := 21) dX9_mostOfDay_20 rfl (nowA4 ho1) h.1 rfl ?_
    have h := h.2
    refine Ev.iload_n (k := 3) (pc' := 22) dX9_mostOfDay_21 rfl rfl rfl ?_
    refine Ev.imul (pc' := 23) dX9_mostOfDay_22 rfl ?_
    refine Ev.iload (k := 6) (pc' := 25) dX9_mostOfDay_23 rfl rfl ?_
    refine Ev.imul (pc' := 26) dX9_mostOfDay_25 rfl ?_
    refine Ev.bipush (pc' := 28) dX9_mostOfDay_26 rfl kb_10 ?_
    refine Ev.imul (pc' := 29) dX9_mostOfDay_28 rfl ?_
    refine Ev.i2l (pc' := 30) dX9_mostOfDay_29 rfl ?_
    refine Ev.lstore (ls' := [(8, .long _), (0, .ref _), (1, .ref _), (2, .int _), (3, .int _), (4, .int _), (5, .long _), (7, .int _)]) (pc' := 32) dX9_mostOfDay_30 rfl (Nat.le_of_ble_eq_true rfl) rfl ?_
    refine Ev.iload (k := 7) (pc' := 34) dX9_mostOfDay_32 rfl rfl ?_
    refine Ev.if_eq (pc' := 37) (tgt := 49) dX9_mostOfDay_34 rfl rfl (fun hc => ?_) (fun hc => ?_)
    · have h := h.1 hc
      exact Ev.sub [1, 2, 3, 4, 5, 6, 7, 0] rfl (okX9_mostOfDay_b49 ho1 hP8 h)
    · have h := h.2 hc
      refine Ev.aload_n (k := 1) (pc' := 38) dX9_mostOfDay_37 rfl rfl rfl ?_
      refine Ev.getR (pc' := 41) dX9_mostOfDay_38 rfl fa_RX9_22 ob_69 fk_9_0 rf_69_0 ?_
      refine Ev.getR (pc' := 44) dX9_mostOfDay_41 rfl fa_RX9_114 ob_3 fk_10_11 rf_3_11 ?_
      refine Ev.iload_n (k := 3) (pc' := 45) dX9_mostOfDay_44 rfl rfl rfl ?_
      refine Ev.zaload (j := _) (pc' := 46) dX9_mostOfDay_45 rfl ar_20 h.1 rfl ?_
      have h := h.2
      refine Ev.if_ne (pc' := 49) (tgt := 92) dX9_mostOfDay_46 rfl rfl (fun hc => ?_) (fun hc => ?_)
      · have h := h.1 hc
        exact Ev.sub [1, 2, 3, 4, 5, 6, 7, 0] rfl (okX9_mostOfDay_b92 ho1 hP8 h)
      · have h := h.2 hc
        exact Ev.sub [1, 2, 3, 4, 5, 6, 7, 0] rfl (okX9_mostOfDay_b49 ho1 hP8 h)
set_option maxRecDepth 10000 in
theorem okX9_mostOfDay_h8 {G : Gx} {o1 : Nat} (ho1 : NowAt o1) {Q : Int64 → Ix → Lx → Prop} {v2 : Int32} {v3 : Int32} {v4 : Int32} {v5 : Int64} {v7 : Int32} {I : Ix} {L : Lx} (h : wpX9_mostOfDay_h8 o1 Q v2 v3 v4 v5 v7 I L) : Ef G MX9_mostOfDay (qL Q) 8 [(0, .ref 69), (1, .ref o1), (2, .int v2), (3, .int v3), (4, .int v4), (5, .long v5), (7, .int v7)] [] I L := by
  unfold wpX9_mostOfDay_h8 at h
  refine Lfp.ind (P := fun z => Ef G MX9_mostOfDay (qL Q) 8 [(0, .ref 69), (1, .ref o1), (2, .int z.1), (3, .int z.2.1), (4, .int z.2.2.1), (5, .long z.2.2.2.1), (7, .int z.2.2.2.2.1)] [] z.2.2.2.2.2.1 z.2.2.2.2.2.2) ?_ h
  intro z P' hP' h
  obtain ⟨v2, v3, v4, v5, v7, I, L⟩ := z
  exact okX9_mostOfDay_l8 ho1 (fun v2 v3 v4 v5 v7 I L h9 => hP' (v2, v3, v4, v5, v7, I, L) h9) h
set_option maxRecDepth 10000 in
theorem okX9_mostOfDay {G : Gx} {o1 : Nat} (ho1 : NowAt o1) {a2 : Int32} {a3 : Int32} {a4 : Int32} {I : Ix} {L : Lx} {Q : Int64 → Ix → Lx → Prop} (h : wpX9_mostOfDay o1 a2 a3 a4 I L Q) : Mf G MX9_mostOfDay [.ref 69, .ref o1, .int a2, .int a3, .int a4] I L (qL Q) := by
  unfold wpX9_mostOfDay at h
  refine Mf.of pn_RX9 (Nat.le_of_ble_eq_true rfl) ?_
  refine Ev.ldc2 (pc' := 3) dX9_mostOfDay_0 rfl ll_RX9_112 ?_
  refine Ev.lstore (ls' := [(5, .long _), (0, .ref _), (1, .ref _), (2, .int _), (3, .int _), (4, .int _)]) (pc' := 5) dX9_mostOfDay_3 rfl (Nat.le_of_ble_eq_true rfl) rfl ?_
  refine Ev.iconst (pc' := 6) dX9_mostOfDay_5 rfl ki_0 ?_
  refine Ev.istore (ls' := [(7, .int _), (5, .long _), (0, .ref _), (1, .ref _), (2, .int _), (3, .int _), (4, .int _)]) (pc' := 8) dX9_mostOfDay_6 rfl (Nat.le_of_ble_eq_true rfl) rfl ?_
  exact Ev.sub [2, 3, 4, 5, 6, 1, 0] rfl (okX9_mostOfDay_h8 ho1 h)
def wpX9_useWell_l45 (o1 : Nat) (Q : Int32 → Ix → Lx → Prop) (P35 : Int32 → Int32 → Int32 → Int32 → Int32 → Ix → Lx → Prop) (P45 : Int32 → Int32 → Int32 → Int32 → Int32 → Int32 → Ix → Lx → Prop) (v2 : Int32) (v3 : Int32) (v4 : Int32) (v5 : Int32) (v6 : Int32) (v7 : Int32) (I : Ix) (L : Lx) : Prop := (v7 < 0 → P35 v2 v3 v4 v5 (v6 + 1) I L) ∧ (¬ v7 < 0 → wpX9_mostOfDay o1 v2 v7 v4 I L (fun r3 I1 L2 => vp_in v7 101 ∧ ∀ L4 : Lx, L4 = pu L2 79 v7.toNatClampNeg r3 → P45 v2 v3 v4 v5 v6 (v7 + (-1)) I1 L4))
def wpX9_useWell_h45 (o1 : Nat) (Q : Int32 → Ix → Lx → Prop) (P35 : Int32 → Int32 → Int32 → Int32 → Int32 → Ix → Lx → Prop) (v2 : Int32) (v3 : Int32) (v4 : Int32) (v5 : Int32) (v6 : Int32) (v7 : Int32) (I : Ix) (L : Lx) : Prop := Lfp (X := Int32 × Int32 × Int32 × Int32 × Int32 × Int32 × Ix × Lx) (fun P z => wpX9_useWell_l45 o1 Q P35 (fun v2 v3 v4 v5 v6 v7 I L => P (v2, v3, v4, v5, v6, v7, I, L)) z.1 z.2.1 z.2.2.1 z.2.2.2.1 z.2.2.2.2.1 z.2.2.2.2.2.1 z.2.2.2.2.2.2.1 z.2.2.2.2.2.2.2) (v2, v3, v4, v5, v6, v7, I, L)
theorem wpX9_useWell_h45_fold {o1 : Nat} {Q : Int32 → Ix → Lx → Prop} {P35 : Int32 → Int32 → Int32 → Int32 → Int32 → Ix → Lx → Prop} {v2 : Int32} {v3 : Int32} {v4 : Int32} {v5 : Int32} {v6 : Int32} {v7 : Int32} {I : Ix} {L : Lx} (h : wpX9_useWell_l45 o1 Q P35 (wpX9_useWell_h45 o1 Q P35) v2 v3 v4 v5 v6 v7 I L) : wpX9_useWell_h45 o1 Q P35 v2 v3 v4 v5 v6 v7 I L := Lfp.fold h
def wpX9_useWell_l35 (o1 : Nat) (Q : Int32 → Ix → Lx → Prop) (P35 : Int32 → Int32 → Int32 → Int32 → Int32 → Ix → Lx → Prop) (v2 : Int32) (v3 : Int32) (v4 : Int32) (v5 : Int32) (v6 : Int32) (I : Ix) (L : Lx) : Prop := (v3 ≤ v6 → wpX9_mostOfDay o1 v2 v5 v4 I L (fun r3 I1 L2 => Q (r3.toInt32) I1 L2)) ∧ (¬ v3 ≤ v6 → wpX9_useWell_h45 o1 Q P35 v2 v3 v4 v5 v6 v5 I L)
def wpX9_useWell_h35 (o1 : Nat) (Q : Int32 → Ix → Lx → Prop) (v2 : Int32) (v3 : Int32) (v4 : Int32) (v5 : Int32) (v6 : Int32) (I : Ix) (L : Lx) : Prop := Lfp (X := Int32 × Int32 × Int32 × Int32 × Int32 × Ix × Lx) (fun P z => wpX9_useWell_l35 o1 Q (fun v2 v3 v4 v5 v6 I L => P (v2, v3, v4, v5, v6, I, L)) z.1 z.2.1 z.2.2.1 z.2.2.2.1 z.2.2.2.2.1 z.2.2.2.2.2.1 z.2.2.2.2.2.2) (v2, v3, v4, v5, v6, I, L)
theorem wpX9_useWell_h35_fold {o1 : Nat} {Q : Int32 → Ix → Lx → Prop} {v2 : Int32} {v3 : Int32} {v4 : Int32} {v5 : Int32} {v6 : Int32} {I : Ix} {L : Lx} (h : wpX9_useWell_l35 o1 Q (wpX9_useWell_h35 o1 Q) v2 v3 v4 v5 v6 I L) : wpX9_useWell_h35 o1 Q v2 v3 v4 v5 v6 I L := Lfp.fold h
def wpX9_useWell_l11 (o1 : Nat) (Q : Int32 → Ix → Lx → Prop) (P11 : Int32 → Int32 → Int32 → Int32 → Int32 → Ix → Lx → Prop) (v2 : Int32) (v3 : Int32) (v4 : Int32) (v5 : Int32) (v6 : Int32) (I : Ix) (L : Lx) : Prop := (v5 < v6 → wpX9_useWell_h35 o1 Q v2 v3 v4 v5 1 I L) ∧ (¬ v5 < v6 → vp_in v6 101 ∧ ∀ L1 : Lx, L1 = pu L 79 v6.toNatClampNeg 0 → P11 v2 v3 v4 v5 (v6 + 1) I L1)
def wpX9_useWell_h11 (o1 : Nat) (Q : Int32 → Ix → Lx → Prop) (v2 : Int32) (v3 : Int32) (v4 : Int32) (v5 : Int32) (v6 : Int32) (I : Ix) (L : Lx) : Prop := Lfp (X := Int32 × Int32 × Int32 × Int32 × Int32 × Ix × Lx) (fun P z => wpX9_useWell_l11 o1 Q (fun v2 v3 v4 v5 v6 I L => P (v2, v3, v4, v5, v6, I, L)) z.1 z.2.1 z.2.2.1 z.2.2.2.1 z.2.2.2.2.1 z.2.2.2.2.2.1 z.2.2.2.2.2.2) (v2, v3, v4, v5, v6, I, L)
theorem wpX9_useWell_h11_fold {o1 : Nat} {Q : Int32 → Ix → Lx → Prop} {v2 : Int32} {v3 : Int32} {v4 : Int32} {v5 : Int32} {v6 : Int32} {I : Ix} {L : Lx} (h : wpX9_useWell_l11 o1 Q (wpX9_useWell_h11 o1 Q) v2 v3 v4 v5 v6 I L) : wpX9_useWell_h11 o1 Q v2 v3 v4 v5 v6 I L := Lfp.fold h
def wpX9_useWell (o1 : Nat) (a2 : Int32) (a3 : Int32) (a4 : Int32) (I : Ix) (L : Lx) (Q : Int32 → Ix → Lx → Prop) : Prop := vp_in a2 10 ∧ wpX9_useWell_h11 o1 Q a2 a3 a4 (I (o1 + 2) a2.toNatClampNeg) 0 I L
set_option maxRecDepth 10000 in
theorem okX9_useWell_l45 {G : Gx} {o1 : Nat} (ho1 : NowAt o1) {Q : Int32 → Ix → Lx → Prop} {P35 : Int32 → Int32 → Int32 → Int32 → Int32 → Ix → Lx → Prop} {P45 : Int32 → Int32 → Int32 → Int32 → Int32 → Int32 → Ix → Lx → Prop} (hP35 : ∀ (v2 : Int32) (v3 : Int32) (v4 : Int32) (v5 : Int32) (v6 : Int32) (I : Ix) (L : Lx), P35 v2 v3 v4 v5 v6 I L → Ef G MX9_useWell (qI Q) 35 [(0, .ref 69), (1, .ref o1), (2, .int v2), (3, .int v3), (4, .int v4), (5, .int v5), (6, .int v6)] [] I L) (hP45 : ∀ (v2 : Int32) (v3 : Int32) (v4 : Int32) (v5 : Int32) (v6 : Int32) (v7 : Int32) (I : Ix) (L : Lx), P45 v2 v3 v4 v5 v6 v7 I L → Ef G MX9_useWell (qI Q) 45 [(0, .ref 69), (1, .ref o1), (2, .int v2), (3, .int v3), (4, .int v4), (5, .int v5), (6, .int v6), (7, .int v7)] [] I L) {v2 : Int32} {v3 : Int32} {v4 : Int32} {v5 : Int32} {v6 : Int32} {v7 : Int32} {I : Ix} {L : Lx} (h : wpX9_useWell_l45 o1 Q P35 P45 v2 v3 v4 v5 v6 v7 I L) : Ef G MX9_useWell (qI Q) 45 [(0, .ref 69), (1, .ref o1), (2, .int v2), (3, .int v3), (4, .int v4), (5, .int v5), (6, .int v6), (7, .int v7)] [] I L := by
  unfold wpX9_useWell_l45 at h
  refine Ev.iload (k := 7) (pc' := 47) dX9_useWell_45 rfl rfl ?_
  refine Ev.if_lt (pc' := 50) (tgt := 73) dX9_useWell_47 rfl rfl (fun hc => ?_) (fun hc => ?_)
  · have h := h.1 hc
    refine Ev.iinc (k := 6) (v := _) (ls' := [(6, .int _), (0, .ref _), (1, .ref _), (2, .int _), (3, .int _), (4, .int _), (5, .int _), (7, .int _)]) (pc' := 76) dX9_useWell_73 rfl rfl (congrArg (_ + ·) ki_1) (Nat.le_of_ble_eq_true rfl) rfl ?_
    refine Ev.goto (tgt := 35) dX9_useWell_76 rfl ?_
    exact Ev.sub [1, 2, 3, 4, 5, 6, 0] rfl (hP35 _ _ _ _ _ _ _ h)
  · have h := h.2 hc
    refine Ev.aload_n (k := 0) (pc' := 51) dX9_useWell_50 rfl rfl rfl ?_
    refine Ev.getR (pc' := 54) dX9_useWell_51 rfl fa_RX9_18 ob_69 fk_9_3 rf_69_3 ?_
    refine Ev.iload (k := 7) (pc' := 56) dX9_useWell_54 rfl rfl ?_
    refine Ev.aload_n (k := 0) (pc' := 57) dX9_useWell_56 rfl rfl rfl ?_
    refine Ev.aload_n (k := 1) (pc' := 58) dX9_useWell_57 rfl rfl rfl ?_
    refine Ev.iload_n (k := 2) (pc' := 59) dX9_useWell_58 rfl rfl rfl ?_
    refine Ev.iload (k := 7) (pc' := 61) dX9_useWell_59 rfl rfl ?_
    refine Ev.iload (k := 4) (pc' := 63) dX9_useWell_61 rfl rfl ?_
    refine Ef.callVL [.ref _, .int _, .int _, .int _] [.int _, .ref _] (pc' := 66) dX9_useWell_63 rfl cv_RX9_108_X9_mostOfDay ⟨Nat.le_of_ble_eq_true rfl, Nat.le_of_ble_eq_true rfl⟩ ob_69 rfl rfl rfl (Nat.le_of_ble_eq_true rfl) (okX9_mostOfDay ho1 h) (fun r3 I1 L2 h => ?_)
    refine Ev.lastore (j := _) (pc' := 67) dX9_useWell_66 rfl ar_79 h.1 rfl (fun L4 eL4 => ?_)
    have h := h.2 L4 eL4
    refine Ev.iinc (k := 7) (v := _) (ls' := [(7, .int _), (0, .ref _), (1, .ref _), (2, .int _), (3, .int _), (4, .int _), (5, .int _), (6, .int _)]) (pc' := 70) dX9_useWell_67 rfl rfl (congrArg (_ + ·) ki_m1) (Nat.le_of_ble_eq_true rfl) rfl ?_
    refine Ev.goto (tgt := 45) dX9_useWell_70 rfl ?_
    exact Ev.sub [1, 2, 3, 4, 5, 6, 7, 0] rfl (hP45 _ _ _ _ _ _ _ _ h)
set_option maxRecDepth 10000 in
theorem okX9_useWell_h45 {G : Gx} {o1 : Nat} (ho1 : NowAt o1) {Q : Int32 → Ix → Lx → Prop} {P35 : Int32 → Int32 → Int32 → Int32 → Int32 → Ix → Lx → Prop} (hP35 : ∀ (v2 : Int32) (v3 : Int32) (v4 : Int32) (v5 : Int32) (v6 : Int32) (I : Ix) (L : Lx), P35 v2 v3 v4 v5 v6 I L → Ef G MX9_useWell (qI Q) 35 [(0, .ref 69), (1, .ref o1), (2, .int v2), (3, .int v3), (4, .int v4), (5, .int v5), (6, .int v6)] [] I L) {v2 : Int32} {v3 : Int32} {v4 : Int32} {v5 : Int32} {v6 : Int32} {v7 : Int32} {I : Ix} {L : Lx} (h : wpX9_useWell_h45 o1 Q P35 v2 v3 v4 v5 v6 v7 I L) : Ef G MX9_useWell (qI Q) 45 [(0, .ref 69), (1, .ref o1), (2, .int v2), (3, .int v3), (4, .int v4), (5, .int v5), (6, .int v6), (7, .int v7)] [] I L := by
  unfold wpX9_useWell_h45 at h
  refine Lfp.ind (P := fun z => Ef G MX9_useWell (qI Q) 45 [(0, .ref 69), (1, .ref o1), (2, .int z.1), (3, .int z.2.1), (4, .int z.2.2.1), (5, .int z.2.2.2.1), (6, .int z.2.2.2.2.1), (7, .int z.2.2.2.2.2.1)] [] z.2.2.2.2.2.2.1 z.2.2.2.2.2.2.2) ?_ h
  intro z P' hP' h
  obtain ⟨v2, v3, v4, v5, v6, v7, I, L⟩ := z
  exact okX9_useWell_l45 ho1 hP35 (fun v2 v3 v4 v5 v6 v7 I L h9 => hP' (v2, v3, v4, v5, v6, v7, I, L) h9) h
set_option maxRecDepth 10000 in
theorem okX9_useWell_l35 {G : Gx} {o1 : Nat} (ho1 : NowAt o1) {Q : Int32 → Ix → Lx → Prop} {P35 : Int32 → Int32 → Int32 → Int32 → Int32 → Ix → Lx → Prop} (hP35 : ∀ (v2 : Int32) (v3 : Int32) (v4 : Int32) (v5 : Int32) (v6 : Int32) (I : Ix) (L : Lx), P35 v2 v3 v4 v5 v6 I L → Ef G MX9_useWell (qI Q) 35 [(0, .ref 69), (1, .ref o1), (2, .int v2), (3, .int v3), (4, .int v4), (5, .int v5), (6, .int v6)] [] I L) {v2 : Int32} {v3 : Int32} {v4 : Int32} {v5 : Int32} {v6 : Int32} {I : Ix} {L : Lx} (h : wpX9_useWell_l35 o1 Q P35 v2 v3 v4 v5 v6 I L) : Ef G MX9_useWell (qI Q) 35 [(0, .ref 69), (1, .ref o1), (2, .int v2), (3, .int v3), (4, .int v4), (5, .int v5), (6, .int v6)] [] I L := by
  unfold wpX9_useWell_l35 at h
  refine Ev.iload (k := 6) (pc' := 37) dX9_useWell_35 rfl rfl ?_
  refine Ev.iload_n (k := 3) (pc' := 38) dX9_useWell_37 rfl rfl rfl ?_
  refine Ev.icmp_ge (pc' := 41) (tgt := 79) dX9_useWell_38 rfl rfl (fun hc => ?_) (fun hc => ?_)
  · have h := h.1 hc
    refine Ev.aload_n (k := 0) (pc' := 80) dX9_useWell_79 rfl rfl rfl ?_
    refine Ev.aload_n (k := 1) (pc' := 81) dX9_useWell_80 rfl rfl rfl ?_
    refine Ev.iload_n (k := 2) (pc' := 82) dX9_useWell_81 rfl rfl rfl ?_
    refine Ev.iload (k := 5) (pc' := 84) dX9_useWell_82 rfl rfl ?_
    refine Ev.iload (k := 4) (pc' := 86) dX9_useWell_84 rfl rfl ?_
    refine Ef.callVL [.ref _, .int _, .int _, .int _] [] (pc' := 89) dX9_useWell_86 rfl cv_RX9_108_X9_mostOfDay ⟨Nat.le_of_ble_eq_true rfl, Nat.le_of_ble_eq_true rfl⟩ ob_69 rfl rfl rfl (Nat.le_of_ble_eq_true rfl) (okX9_mostOfDay ho1 h) (fun r3 I1 L2 h => ?_)
    refine Ev.l2i (pc' := 90) dX9_useWell_89 rfl ?_
    exact Ef.iret dX9_useWell_90 rfl h
  · have h := h.2 hc
    refine Ev.iload (k := 5) (pc' := 43) dX9_useWell_41 rfl rfl ?_
    refine Ev.istore (ls' := [(7, .int _), (0, .ref _), (1, .ref _), (2, .int _), (3, .int _), (4, .int _), (5, .int _), (6, .int _)]) (pc' := 45) dX9_useWell_43 rfl (Nat.le_of_ble_eq_true rfl) rfl ?_
    exact Ev.sub [1, 2, 3, 4, 5, 6, 7, 0] rfl (okX9_useWell_h45 ho1 hP35 h)
set_option maxRecDepth 10000 in
theorem okX9_useWell_h35 {G : Gx} {o1 : Nat} (ho1 : NowAt o1) {Q : Int32 → Ix → Lx → Prop} {v2 : Int32} {v3 : Int32} {v4 : Int32} {v5 : Int32} {v6 : Int32} {I : Ix} {L : Lx} (h : wpX9_useWell_h35 o1 Q v2 v3 v4 v5 v6 I L) : Ef G MX9_useWell (qI Q) 35 [(0, .ref 69), (1, .ref o1), (2, .int v2), (3, .int v3), (4, .int v4), (5, .int v5), (6, .int v6)] [] I L := by
  unfold wpX9_useWell_h35 at h
  refine Lfp.ind (P := fun z => Ef G MX9_useWell (qI Q) 35 [(0, .ref 69), (1, .ref o1), (2, .int z.1), (3, .int z.2.1), (4, .int z.2.2.1), (5, .int z.2.2.2.1), (6, .int z.2.2.2.2.1)] [] z.2.2.2.2.2.1 z.2.2.2.2.2.2) ?_ h
  intro z P' hP' h
  obtain ⟨v2, v3, v4, v5, v6, I, L⟩ := z
  exact okX9_useWell_l35 ho1 (fun v2 v3 v4 v5 v6 I L h9 => hP' (v2, v3, v4, v5, v6, I, L) h9) h
set_option maxRecDepth 10000 in
theorem okX9_useWell_l11 {G : Gx} {o1 : Nat} (ho1 : NowAt o1) {Q : Int32 → Ix → Lx → Prop} {P11 : Int32 → Int32 → Int32 → Int32 → Int32 → Ix → Lx → Prop} (hP11 : ∀ (v2 : Int32) (v3 : Int32) (v4 : Int32) (v5 : Int32) (v6 : Int32) (I : Ix) (L : Lx), P11 v2 v3 v4 v5 v6 I L → Ef G MX9_useWell (qI Q) 11 [(0, .ref 69), (1, .ref o1), (2, .int v2), (3, .int v3), (4, .int v4), (5, .int v5), (6, .int v6)] [] I L) {v2 : Int32} {v3 : Int32} {v4 : Int32} {v5 : Int32} {v6 : Int32} {I : Ix} {L : Lx} (h : wpX9_useWell_l11 o1 Q P11 v2 v3 v4 v5 v6 I L) : Ef G MX9_useWell (qI Q) 11 [(0, .ref 69), (1, .ref o1), (2, .int v2), (3, .int v3), (4, .int v4), (5, .int v5), (6, .int v6)] [] I L := by
  unfold wpX9_useWell_l11 at h
  refine Ev.iload (k := 6) (pc' := 13) dX9_useWell_11 rfl rfl ?_
  refine Ev.iload (k := 5) (pc' := 15) dX9_useWell_13 rfl rfl ?_
  refine Ev.icmp_gt (pc' := 18) (tgt := 32) dX9_useWell_15 rfl rfl (fun hc => ?_) (fun hc => ?_)
  · have h := h.1 hc
    refine Ev.iconst (pc' := 33) dX9_useWell_32 rfl ki_1 ?_
    refine Ev.istore (ls' := [(6, .int _), (0, .ref _), (1, .ref _), (2, .int _), (3, .int _), (4, .int _), (5, .int _)]) (pc' := 35) dX9_useWell_33 rfl (Nat.le_of_ble_eq_true rfl) rfl ?_
    exact Ev.sub [1, 2, 3, 4, 5, 6, 0] rfl (okX9_useWell_h35 ho1 h)
  · have h := h.2 hc
    refine Ev.aload_n (k := 0) (pc' := 19) dX9_useWell_18 rfl rfl rfl ?_
    refine Ev.getR (pc' := 22) dX9_useWell_19 rfl fa_RX9_18 ob_69 fk_9_3 rf_69_3 ?_
    refine Ev.iload (k := 6) (pc' := 24) dX9_useWell_22 rfl rfl ?_
    refine Ev.lconst (v := 0) (pc' := 25) dX9_useWell_24 rfl rfl ?_
    refine Ev.lastore (j := _) (pc' := 26) dX9_useWell_25 rfl ar_79 h.1 rfl (fun L1 eL1 => ?_)
    have h := h.2 L1 eL1
    refine Ev.iinc (k := 6) (v := _) (ls' := [(6, .int _), (0, .ref _), (1, .ref _), (2, .int _), (3, .int _), (4, .int _), (5, .int _)]) (pc' := 29) dX9_useWell_26 rfl rfl (congrArg (_ + ·) ki_1) (Nat.le_of_ble_eq_true rfl) rfl ?_
    refine Ev.goto (tgt := 11) dX9_useWell_29 rfl ?_
    exact Ev.sub [1, 2, 3, 4, 5, 6, 0] rfl (hP11 _ _ _ _ _ _ _ h)
set_option maxRecDepth 10000 in
theorem okX9_useWell_h11 {G : Gx} {o1 : Nat} (ho1 : NowAt o1) {Q : Int32 → Ix → Lx → Prop} {v2 : Int32} {v3 : Int32} {v4 : Int32} {v5 : Int32} {v6 : Int32} {I : Ix} {L : Lx} (h : wpX9_useWell_h11 o1 Q v2 v3 v4 v5 v6 I L) : Ef G MX9_useWell (qI Q) 11 [(0, .ref 69), (1, .ref o1), (2, .int v2), (3, .int v3), (4, .int v4), (5, .int v5), (6, .int v6)] [] I L := by
  unfold wpX9_useWell_h11 at h
  refine Lfp.ind (P := fun z => Ef G MX9_useWell (qI Q) 11 [(0, .ref 69), (1, .ref o1), (2, .int z.1), (3, .int z.2.1), (4, .int z.2.2.1), (5, .int z.2.2.2.1), (6, .int z.2.2.2.2.1)] [] z.2.2.2.2.2.1 z.2.2.2.2.2.2) ?_ h
  intro z P' hP' h
  obtain ⟨v2, v3, v4, v5, v6, I, L⟩ := z
  exact okX9_useWell_l11 ho1 (fun v2 v3 v4 v5 v6 I L h9 => hP' (v2, v3, v4, v5, v6, I, L) h9) h
set_option maxRecDepth 10000 in
theorem okX9_useWell {G : Gx} {o1 : Nat} (ho1 : NowAt o1) {a2 : Int32} {a3 : Int32} {a4 : Int32} {I : Ix} {L : Lx} {Q : Int32 → Ix → Lx → Prop} (h : wpX9_useWell o1 a2 a3 a4 I L Q) : Mf G MX9_useWell [.ref 69, .ref o1, .int a2, .int a3, .int a4] I L (qI Q) := by
  unfold wpX9_useWell at h
  refine Mf.of pn_RX9 (Nat.le_of_ble_eq_true rfl) ?_
  refine Ev.aload_n (k := 1) (pc' := 1) dX9_useWell_0 rfl rfl rfl ?_
  refine Ev.getR (pc' := 4) dX9_useWell_1 rfl fa_RX9_105 (nowOB ho1) fk_2_4 (nowR2 ho1) ?_
  refine Ev.iload_n (k := 2) (pc' := 5) dX9_useWell_4 rfl rfl rfl ?_
  refine Ev.iaload (j := _) (pc' := 6) dX9_useWell_5 rfl (nowA2 ho1) h.1 rfl ?_
  have h := h.2
  refine Ev.istore (ls' := [(5, .int _), (0, .ref _), (1, .ref _), (2, .int _), (3, .int _), (4, .int _)]) (pc' := 8) dX9_useWell_6 rfl (Nat.le_of_ble_eq_true rfl) rfl ?_
  refine Ev.iconst (pc' := 9) dX9_useWell_8 rfl ki_0 ?_
  refine Ev.istore (ls' := [(6, .int _), (5, .int _), (0, .ref _), (1, .ref _), (2, .int _), (3, .int _), (4, .int _)]) (pc' := 11) dX9_useWell_9 rfl (Nat.le_of_ble_eq_true rfl) rfl ?_
  exact Ev.sub [2, 3, 4, 5, 6, 1, 0] rfl (okX9_useWell_h11 ho1 h)
def wpX11_used (a1 : Int32) (a2 : Int32) (a3 : Int32) (a4 : Int32) (I : Ix) (L : Lx) (Q : Int32 → Ix → Lx → Prop) : Prop := wpX11_isThing a1 I L (fun r3 I1 L2 => (r3 = false → Q (-1) I1 L2) ∧ (r3 = true → (a2 < 1 → Q (-1) I1 L2) ∧ (¬ a2 < 1 → (30 < a2 → Q (-1) I1 L2) ∧ (¬ 30 < a2 → (a3 < 0 → Q (-1) I1 L2) ∧ (¬ a3 < 0 → (100 < a3 → Q (-1) I1 L2) ∧ (¬ 100 < a3 → (a4 < 0 → Q (-1) I1 L2) ∧ (¬ a4 < 0 → (a4 ≤ 1 → vp_in a1 10 ∧ ((I1 58 a1.toNatClampNeg) = 0 → wpX9_useWell 53 a1 a2 a3 I1 L2 (fun r6 I4 L5 => (¬ a4 = 0 → Q r6 I4 L5) ∧ (a4 = 0 → Q (I4 69 6) I4 L5))) ∧ (¬ (I1 58 a1.toNatClampNeg) = 0 → Q (-1) I1 L2)) ∧ (¬ a4 ≤ 1 → Q (-1) I1 L2))))))))
set_option maxRecDepth 10000 in
theorem okX11_used {G : Gx} {a1 : Int32} {a2 : Int32} {a3 : Int32} {a4 : Int32} {I : Ix} {L : Lx} {Q : Int32 → Ix → Lx → Prop} (h : wpX11_used a1 a2 a3 a4 I L Q) : Mf G MX11_used [.ref 0, .int a1, .int a2, .int a3, .int a4] I L (qI Q) := by
  unfold wpX11_used at h
  refine Mf.of pn_RX11 (Nat.le_of_ble_eq_true rfl) ?_
  refine Ev.aload_n (k := 0) (pc' := 1) dX11_used_0 rfl rfl rfl ?_
  refine Ev.iload_n (k := 1) (pc' := 2) dX11_used_1 rfl rfl rfl ?_
  refine Ef.callVZ [.int _] [] (pc' := 5) dX11_used_2 rfl cv_RX11_124_X11_isThing ⟨Nat.le_of_ble_eq_true rfl, Nat.le_of_ble_eq_true rfl⟩ ob_0 rfl rfl rfl (Nat.le_of_ble_eq_true rfl) (okX11_isThing h) (fun r3 I1 L2 h => ?_)
  refine Ef.ifz_eq (pc' := 8) (tgt := 40) dX11_used_5 rfl rfl (fun hc => ?_) (fun hc => ?_)
  · have h := h.1 hc
    refine Ev.iconst (pc' := 41) dX11_used_40 rfl ki_m1 ?_
    exact Ef.iret dX11_used_41 rfl h
  · have h := h.2 hc
    refine Ev.iload_n (k := 2) (pc' := 9) dX11_used_8 rfl rfl rfl ?_
    refine Ev.iconst (pc' := 10) dX11_used_9 rfl ki_1 ?_
    refine Ev.icmp_lt (pc' := 13) (tgt := 40) dX11_used_10 rfl rfl (fun hc => ?_) (fun hc => ?_)
    · have h := h.1 hc
      refine Ev.iconst (pc' := 41) dX11_used_40 rfl ki_m1 ?_
      exact Ef.iret dX11_used_41 rfl h
    · have h := h.2 hc
      refine Ev.iload_n (k := 2) (pc' := 14) dX11_used_13 rfl rfl rfl ?_
      refine Ev.bipush (pc' := 16) dX11_used_14 rfl kb_30 ?_
      refine Ev.icmp_gt (pc' := 19) (tgt := 40) dX11_used_16 rfl rfl (fun hc => ?_) (fun hc => ?_)
      · have h := h.1 hc
        refine Ev.iconst (pc' := 41) dX11_used_40 rfl ki_m1 ?_
        exact Ef.iret dX11_used_41 rfl h
      · have h := h.2 hc
        refine Ev.iload_n (k := 3) (pc' := 20) dX11_used_19 rfl rfl rfl ?_
        refine Ev.if_lt (pc' := 23) (tgt := 40) dX11_used_20 rfl rfl (fun hc => ?_) (fun hc => ?_)
        · have h := h.1 hc
          refine Ev.iconst (pc' := 41) dX11_used_40 rfl ki_m1 ?_
          exact Ef.iret dX11_used_41 rfl h
        · have h := h.2 hc
          refine Ev.iload_n (k := 3) (pc' := 24) dX11_used_23 rfl rfl rfl ?_
          refine Ev.bipush (pc' := 26) dX11_used_24 rfl kb_100 ?_
          refine Ev.icmp_gt (pc' := 29) (tgt := 40) dX11_used_26 rfl rfl (fun hc => ?_) (fun hc => ?_)
          · have h := h.1 hc
            refine Ev.iconst (pc' := 41) dX11_used_40 rfl ki_m1 ?_
            exact Ef.iret dX11_used_41 rfl h
          · have h := h.2 hc
            refine Ev.iload (k := 4) (pc' := 31) dX11_used_29 rfl rfl ?_
            refine Ev.if_lt (pc' := 34) (tgt := 40) dX11_used_31 rfl rfl (fun hc => ?_) (fun hc => ?_)
            · have h := h.1 hc
              refine Ev.iconst (pc' := 41) dX11_used_40 rfl ki_m1 ?_
              exact Ef.iret dX11_used_41 rfl h
            · have h := h.2 hc
              refine Ev.iload (k := 4) (pc' := 36) dX11_used_34 rfl rfl ?_
              refine Ev.iconst (pc' := 37) dX11_used_36 rfl ki_1 ?_
              refine Ev.icmp_le (pc' := 40) (tgt := 42) dX11_used_37 rfl rfl (fun hc => ?_) (fun hc => ?_)
              · have h := h.1 hc
                refine Ev.aload_n (k := 0) (pc' := 43) dX11_used_42 rfl rfl rfl ?_
                refine Ev.getR (pc' := 46) dX11_used_43 rfl fa_RX11_38 ob_0 fk_11_4 rf_0_4 ?_
                refine Ev.getR (pc' := 49) dX11_used_46 rfl fa_RX11_138 ob_53 fk_2_7 rf_53_7 ?_
                refine Ev.iload_n (k := 1) (pc' := 50) dX11_used_49 rfl rfl rfl ?_
                refine Ev.zaload (j := _) (pc' := 51) dX11_used_50 rfl ar_58 h.1 rfl ?_
                have h := h.2
                refine Ev.if_eq (pc' := 54) (tgt := 56) dX11_used_51 rfl rfl (fun hc => ?_) (fun hc => ?_)
                · have h := h.1 hc
                  refine Ev.aload_n (k := 0) (pc' := 57) dX11_used_56 rfl rfl rfl ?_
                  refine Ev.getR (pc' := 60) dX11_used_57 rfl fa_RX11_56 ob_0 fk_11_6 rf_0_6 ?_
                  refine Ev.aload_n (k := 0) (pc' := 61) dX11_used_60 rfl rfl rfl ?_
                  refine Ev.getR (pc' := 64) dX11_used_61 rfl fa_RX11_38 ob_0 fk_11_4 rf_0_4 ?_
                  refine Ev.iload_n (k := 1) (pc' := 65) dX11_used_64 rfl rfl rfl ?_
                  refine Ev.iload_n (k := 2) (pc' := 66) dX11_used_65 rfl rfl rfl ?_
                  refine Ev.iload_n (k := 3) (pc' := 67) dX11_used_66 rfl rfl rfl ?_
                  refine Ef.callVI [.ref _, .int _, .int _, .int _] [] (pc' := 70) dX11_used_67 rfl cv_RX11_220_X9_useWell ⟨Nat.le_of_ble_eq_true rfl, Nat.le_of_ble_eq_true rfl⟩ ob_69 rfl rfl rfl (Nat.le_of_ble_eq_true rfl) (okX9_useWell nowAt_53 h) (fun r6 I4 L5 h => ?_)
                  refine Ev.istore (ls' := [(5, .int _), (0, .ref _), (1, .int _), (2, .int _), (3, .int _), (4, .int _)]) (pc' := 72) dX11_used_70 rfl (Nat.le_of_ble_eq_true rfl) rfl ?_
                  refine Ev.iload (k := 5) (pc' := 74) dX11_used_72 rfl rfl ?_
                  refine Ev.if_ne (pc' := 77) (tgt := 87) dX11_used_74 rfl rfl (fun hc => ?_) (fun hc => ?_)
                  · have h := h.1 hc
                    refine Ev.iload (k := 0) (pc' := 89) dX11_used_87 rfl rfl ?_
                    exact Ef.iret dX11_used_89 rfl h
                  · have h := h.2 hc
                    refine Ev.aload_n (k := 1) (pc' := 78) dX11_used_77 rfl rfl rfl ?_
                    refine Ev.getR (pc' := 81) dX11_used_78 rfl fa_RX11_56 ob_0 fk_11_6 rf_0_6 ?_
                    refine Ev.getI (pc' := 84) dX11_used_81 rfl fa_RX11_224 ob_69 fk_9_6 ?_
                    refine Ev.goto (tgt := 89) dX11_used_84 rfl ?_
                    exact Ef.iret dX11_used_89 rfl h
                · have h := h.2 hc
                  refine Ev.iconst (pc' := 55) dX11_used_54 rfl ki_m1 ?_
                  exact Ef.iret dX11_used_55 rfl h
              · have h := h.2 hc
                refine Ev.iconst (pc' := 41) dX11_used_40 rfl ki_m1 ?_
                exact Ef.iret dX11_used_41 rfl h
def wpX11_keeps_l35 (Q : Int32 → Ix → Lx → Prop) (P35 : Int32 → Int32 → Int32 → Ix → Lx → Prop) (v1 : Int32) (v2 : Int32) (v3 : Int32) (I : Ix) (L : Lx) : Prop := vp_in v1 10 ∧ ((I 57 v1.toNatClampNeg) < v3 → Q (-1) I L) ∧ (¬ (I 57 v1.toNatClampNeg) < v3 → wpX9_weigh 53 v1 v2 v3 I L (fun r3 I1 L2 => (r3 = false → P35 v1 v2 (v3 + 1) I1 L2) ∧ (r3 = true → (¬ (I1 69 4) = (I1 69 5) → P35 v1 v2 (v3 + 1) I1 L2) ∧ ((I1 69 4) = (I1 69 5) → Q v3 I1 L2))))
def wpX11_keeps_h35 (Q : Int32 → Ix → Lx → Prop) (v1 : Int32) (v2 : Int32) (v3 : Int32) (I : Ix) (L : Lx) : Prop := Lfp (X := Int32 × Int32 × Int32 × Ix × Lx) (fun P z => wpX11_keeps_l35 Q (fun v1 v2 v3 I L => P (v1, v2, v3, I, L)) z.1 z.2.1 z.2.2.1 z.2.2.2.1 z.2.2.2.2) (v1, v2, v3, I, L)
theorem wpX11_keeps_h35_fold {Q : Int32 → Ix → Lx → Prop} {v1 : Int32} {v2 : Int32} {v3 : Int32} {I : Ix} {L : Lx} (h : wpX11_keeps_l35 Q (wpX11_keeps_h35 Q) v1 v2 v3 I L) : wpX11_keeps_h35 Q v1 v2 v3 I L := Lfp.fold h
def wpX11_keeps (a1 : Int32) (I : Ix) (L : Lx) (Q : Int32 → Ix → Lx → Prop) : Prop := wpX11_isThing a1 I L (fun r3 I1 L2 => (r3 = false → Q (-1) I1 L2) ∧ (r3 = true → vp_in a1 10 ∧ (¬ (I1 54 a1.toNatClampNeg) = (-1) → vp_in a1 10 ∧ wpX11_keeps_h35 Q a1 (I1 54 a1.toNatClampNeg) 0 I1 L2) ∧ ((I1 54 a1.toNatClampNeg) = (-1) → Q (-1) I1 L2)))
set_option maxRecDepth 10000 in
theorem okX11_keeps_l35 {G : Gx} {Q : Int32 → Ix → Lx → Prop} {P35 : Int32 → Int32 → Int32 → Ix → Lx → Prop} (hP35 : ∀ (v1 : Int32) (v2 : Int32) (v3 : Int32) (I : Ix) (L : Lx), P35 v1 v2 v3 I L → Ef G MX11_keeps (qI Q) 35 [(0, .ref 0), (1, .int v1), (2, .int v2), (3, .int v3)] [] I L) {v1 : Int32} {v2 : Int32} {v3 : Int32} {I : Ix} {L : Lx} (h : wpX11_keeps_l35 Q P35 v1 v2 v3 I L) : Ef G MX11_keeps (qI Q) 35 [(0, .ref 0), (1, .int v1), (2, .int v2), (3, .int v3)] [] I L := by
  unfold wpX11_keeps_l35 at h
  refine Ev.iload_n (k := 3) (pc' := 36) dX11_keeps_35 rfl rfl rfl ?_
  refine Ev.aload_n (k := 0) (pc' := 37) dX11_keeps_36 rfl rfl rfl ?_
  refine Ev.getR (pc' := 40) dX11_keeps_37 rfl fa_RX11_38 ob_0 fk_11_4 rf_0_4 ?_
  refine Ev.getR (pc' := 43) dX11_keeps_40 rfl fa_RX11_144 ob_53 fk_2_6 rf_53_6 ?_
  refine Ev.iload_n (k := 1) (pc' := 44) dX11_keeps_43 rfl rfl rfl ?_
  refine Ev.iaload (j := _) (pc' := 45) dX11_keeps_44 rfl ar_57 h.1 rfl ?_
  have h := h.2
  refine Ev.icmp_gt (pc' := 48) (tgt := 90) dX11_keeps_45 rfl rfl (fun hc => ?_) (fun hc => ?_)
  · have h := h.1 hc
    refine Ev.iconst (pc' := 91) dX11_keeps_90 rfl ki_m1 ?_
    exact Ef.iret dX11_keeps_91 rfl h
  · have h := h.2 hc
    refine Ev.aload_n (k := 0) (pc' := 49) dX11_keeps_48 rfl rfl rfl ?_
    refine Ev.getR (pc' := 52) dX11_keeps_49 rfl fa_RX11_56 ob_0 fk_11_6 rf_0_6 ?_
    refine Ev.aload_n (k := 0) (pc' := 53) dX11_keeps_52 rfl rfl rfl ?_
    refine Ev.getR (pc' := 56) dX11_keeps_53 rfl fa_RX11_38 ob_0 fk_11_4 rf_0_4 ?_
    refine Ev.iload_n (k := 1) (pc' := 57) dX11_keeps_56 rfl rfl rfl ?_
    refine Ev.iload_n (k := 2) (pc' := 58) dX11_keeps_57 rfl rfl rfl ?_
    refine Ev.iload_n (k := 3) (pc' := 59) dX11_keeps_58 rfl rfl rfl ?_
    refine Ef.callVZ [.ref _, .int _, .int _, .int _] [] (pc' := 62) dX11_keeps_59 rfl cv_RX11_188_X9_weigh ⟨Nat.le_of_ble_eq_true rfl, Nat.le_of_ble_eq_true rfl⟩ ob_69 rfl rfl rfl (Nat.le_of_ble_eq_true rfl) (okX9_weigh nowAt_53 h) (fun r3 I1 L2 h => ?_)
    refine Ef.ifz_eq (pc' := 65) (tgt := 84) dX11_keeps_62 rfl rfl (fun hc => ?_) (fun hc => ?_)
    · have h := h.1 hc
      refine Ev.iinc (k := 3) (v := _) (ls' := [(3, .int _), (0, .ref _), (1, .int _), (2, .int _)]) (pc' := 87) dX11_keeps_84 rfl rfl (congrArg (_ + ·) ki_1) (Nat.le_of_ble_eq_true rfl) rfl ?_
      refine Ev.goto (tgt := 35) dX11_keeps_87 rfl ?_
      exact Ev.sub [1, 2, 3, 0] rfl (hP35 _ _ _ _ _ h)
    · have h := h.2 hc
      refine Ev.aload_n (k := 0) (pc' := 66) dX11_keeps_65 rfl rfl rfl ?_
      refine Ev.getR (pc' := 69) dX11_keeps_66 rfl fa_RX11_56 ob_0 fk_11_6 rf_0_6 ?_
      refine Ev.getI (pc' := 72) dX11_keeps_69 rfl fa_RX11_192 ob_69 fk_9_4 ?_
      refine Ev.aload_n (k := 0) (pc' := 73) dX11_keeps_72 rfl rfl rfl ?_
      refine Ev.getR (pc' := 76) dX11_keeps_73 rfl fa_RX11_56 ob_0 fk_11_6 rf_0_6 ?_
      refine Ev.getI (pc' := 79) dX11_keeps_76 rfl fa_RX11_195 ob_69 fk_9_5 ?_
      refine Ev.icmp_ne (pc' := 82) (tgt := 84) dX11_keeps_79 rfl rfl (fun hc => ?_) (fun hc => ?_)
      · have h := h.1 hc
        refine Ev.iinc (k := 3) (v := _) (ls' := [(3, .int _), (0, .ref _), (1, .int _), (2, .int _)]) (pc' := 87) dX11_keeps_84 rfl rfl (congrArg (_ + ·) ki_1) (Nat.le_of_ble_eq_true rfl) rfl ?_
        refine Ev.goto (tgt := 35) dX11_keeps_87 rfl ?_
        exact Ev.sub [1, 2, 3, 0] rfl (hP35 _ _ _ _ _ h)
      · have h := h.2 hc
        refine Ev.iload_n (k := 3) (pc' := 83) dX11_keeps_82 rfl rfl rfl ?_
        exact Ef.iret dX11_keeps_83 rfl h
set_option maxRecDepth 10000 in
theorem okX11_keeps_h35 {G : Gx} {Q : Int32 → Ix → Lx → Prop} {v1 : Int32} {v2 : Int32} {v3 : Int32} {I : Ix} {L : Lx} (h : wpX11_keeps_h35 Q v1 v2 v3 I L) : Ef G MX11_keeps (qI Q) 35 [(0, .ref 0), (1, .int v1), (2, .int v2), (3, .int v3)] [] I L := by
  unfold wpX11_keeps_h35 at h
  refine Lfp.ind (P := fun z => Ef G MX11_keeps (qI Q) 35 [(0, .ref 0), (1, .int z.1), (2, .int z.2.1), (3, .int z.2.2.1)] [] z.2.2.2.1 z.2.2.2.2) ?_ h
  intro z P' hP' h
  obtain ⟨v1, v2, v3, I, L⟩ := z
  exact okX11_keeps_l35 (fun v1 v2 v3 I L h9 => hP' (v1, v2, v3, I, L) h9) h
set_option maxRecDepth 10000 in
theorem okX11_keeps {G : Gx} {a1 : Int32} {I : Ix} {L : Lx} {Q : Int32 → Ix → Lx → Prop} (h : wpX11_keeps a1 I L Q) : Mf G MX11_keeps [.ref 0, .int a1] I L (qI Q) := by
  unfold wpX11_keeps at h
  refine Mf.of pn_RX11 (Nat.le_of_ble_eq_true rfl) ?_
  refine Ev.aload_n (k := 0) (pc' := 1) dX11_keeps_0 rfl rfl rfl ?_
  refine Ev.iload_n (k := 1) (pc' := 2) dX11_keeps_1 rfl rfl rfl ?_
  refine Ef.callVZ [.int _] [] (pc' := 5) dX11_keeps_2 rfl cv_RX11_124_X11_isThing ⟨Nat.le_of_ble_eq_true rfl, Nat.le_of_ble_eq_true rfl⟩ ob_0 rfl rfl rfl (Nat.le_of_ble_eq_true rfl) (okX11_isThing h) (fun r3 I1 L2 h => ?_)
  refine Ef.ifz_eq (pc' := 8) (tgt := 21) dX11_keeps_5 rfl rfl (fun hc => ?_) (fun hc => ?_)
  · have h := h.1 hc
    refine Ev.iconst (pc' := 22) dX11_keeps_21 rfl ki_m1 ?_
    exact Ef.iret dX11_keeps_22 rfl h
  · have h := h.2 hc
    refine Ev.aload_n (k := 0) (pc' := 9) dX11_keeps_8 rfl rfl rfl ?_
    refine Ev.getR (pc' := 12) dX11_keeps_9 rfl fa_RX11_38 ob_0 fk_11_4 rf_0_4 ?_
    refine Ev.getR (pc' := 15) dX11_keeps_12 rfl fa_RX11_128 ob_53 fk_2_3 rf_53_3 ?_
    refine Ev.iload_n (k := 1) (pc' := 16) dX11_keeps_15 rfl rfl rfl ?_
    refine Ev.iaload (j := _) (pc' := 17) dX11_keeps_16 rfl ar_54 h.1 rfl ?_
    have h := h.2
    refine Ev.iconst (pc' := 18) dX11_keeps_17 rfl ki_m1 ?_
    refine Ev.icmp_ne (pc' := 21) (tgt := 23) dX11_keeps_18 rfl rfl (fun hc => ?_) (fun hc => ?_)
    · have h := h.1 hc
      refine Ev.aload_n (k := 0) (pc' := 24) dX11_keeps_23 rfl rfl rfl ?_
      refine Ev.getR (pc' := 27) dX11_keeps_24 rfl fa_RX11_38 ob_0 fk_11_4 rf_0_4 ?_
      refine Ev.getR (pc' := 30) dX11_keeps_27 rfl fa_RX11_128 ob_53 fk_2_3 rf_53_3 ?_
      refine Ev.iload_n (k := 1) (pc' := 31) dX11_keeps_30 rfl rfl rfl ?_
      refine Ev.iaload (j := _) (pc' := 32) dX11_keeps_31 rfl ar_54 h.1 rfl ?_
      have h := h.2
      refine Ev.istore_n (ls' := [(2, .int _), (0, .ref _), (1, .int _)]) (pc' := 33) dX11_keeps_32 rfl rfl (Nat.le_of_ble_eq_true rfl) rfl ?_
      refine Ev.iconst (pc' := 34) dX11_keeps_33 rfl ki_0 ?_
      refine Ev.istore_n (ls' := [(3, .int _), (2, .int _), (0, .ref _), (1, .int _)]) (pc' := 35) dX11_keeps_34 rfl rfl (Nat.le_of_ble_eq_true rfl) rfl ?_
      exact Ev.sub [2, 3, 1, 0] rfl (okX11_keeps_h35 h)
    · have h := h.2 hc
      refine Ev.iconst (pc' := 22) dX11_keeps_21 rfl ki_m1 ?_
      exact Ef.iret dX11_keeps_22 rfl h
def wpX11_lift_l28 (Q : Int32 → Ix → Lx → Prop) (P28 : Int32 → Int32 → Int32 → Int32 → Ix → Lx → Prop) (v1 : Int32) (v2 : Int32) (v3 : Int32) (v4 : Int32) (I : Ix) (L : Lx) : Prop := ((I 3 2) ≤ v4 → Q v3 I L) ∧ (¬ (I 3 2) ≤ v4 → vp_in v4 10 ∧ vp_in v1 6 ∧ ((I 19 v4.toNatClampNeg) ≤ (I 24 v1.toNatClampNeg) → P28 v1 v2 v3 (v4 + 1) I L) ∧ (¬ (I 19 v4.toNatClampNeg) ≤ (I 24 v1.toNatClampNeg) → vp_in v2 6 ∧ ((I 19 v4.toNatClampNeg) ≤ (I 24 v2.toNatClampNeg) → P28 v1 v2 v3 (v4 + 1) I L) ∧ (¬ (I 19 v4.toNatClampNeg) ≤ (I 24 v2.toNatClampNeg) → vp_in v1 6 ∧ vp_in v2 6 ∧ (((I 24 v1.toNatClampNeg) + (I 24 v2.toNatClampNeg)) < (I 19 v4.toNatClampNeg) → P28 v1 v2 v3 (v4 + 1) I L) ∧ (¬ ((I 24 v1.toNatClampNeg) + (I 24 v2.toNatClampNeg)) < (I 19 v4.toNatClampNeg) → P28 v1 v2 (v3 ||| (jshl 1 v4)) (v4 + 1) I L))))
def wpX11_lift_h28 (Q : Int32 → Ix → Lx → Prop) (v1 : Int32) (v2 : Int32) (v3 : Int32) (v4 : Int32) (I : Ix) (L : Lx) : Prop := Lfp (X := Int32 × Int32 × Int32 × Int32 × Ix × Lx) (fun P z => wpX11_lift_l28 Q (fun v1 v2 v3 v4 I L => P (v1, v2, v3, v4, I, L)) z.1 z.2.1 z.2.2.1 z.2.2.2.1 z.2.2.2.2.1 z.2.2.2.2.2) (v1, v2, v3, v4, I, L)
theorem wpX11_lift_h28_fold {Q : Int32 → Ix → Lx → Prop} {v1 : Int32} {v2 : Int32} {v3 : Int32} {v4 : Int32} {I : Ix} {L : Lx} (h : wpX11_lift_l28 Q (wpX11_lift_h28 Q) v1 v2 v3 v4 I L) : wpX11_lift_h28 Q v1 v2 v3 v4 I L := Lfp.fold h
def wpX11_lift (a1 : Int32) (a2 : Int32) (I : Ix) (L : Lx) (Q : Int32 → Ix → Lx → Prop) : Prop := wpX11_isPerson a1 I L (fun r3 I1 L2 => (r3 = false → Q (-1) I1 L2) ∧ (r3 = true → wpX11_isPerson a2 I1 L2 (fun r6 I4 L5 => (r6 = false → Q (-1) I4 L5) ∧ (r6 = true → (¬ a1 = a2 → wpX11_lift_h28 Q a1 a2 0 0 I4 L5) ∧ (a1 = a2 → Q (-1) I4 L5)))))
set_option maxRecDepth 10000 in
theorem okX11_lift_l28 {G : Gx} {Q : Int32 → Ix → Lx → Prop} {P28 : Int32 → Int32 → Int32 → Int32 → Ix → Lx → Prop} (hP28 : ∀ (v1 : Int32) (v2 : Int32) (v3 : Int32) (v4 : Int32) (I : Ix) (L : Lx), P28 v1 v2 v3 v4 I L → Ef G MX11_lift (qI Q) 28 [(0, .ref 0), (1, .int v1), (2, .int v2), (3, .int v3), (4, .int v4)] [] I L) {v1 : Int32} {v2 : Int32} {v3 : Int32} {v4 : Int32} {I : Ix} {L : Lx} (h : wpX11_lift_l28 Q P28 v1 v2 v3 v4 I L) : Ef G MX11_lift (qI Q) 28 [(0, .ref 0), (1, .int v1), (2, .int v2), (3, .int v3), (4, .int v4)] [] I L := by
  unfold wpX11_lift_l28 at h
  refine Ev.iload (k := 4) (pc' := 30) dX11_lift_28 rfl rfl ?_
  refine Ev.aload_n (k := 0) (pc' := 31) dX11_lift_30 rfl rfl rfl ?_
  refine Ev.getR (pc' := 34) dX11_lift_31 rfl fa_RX11_19 ob_0 fk_11_1 rf_0_1 ?_
  refine Ev.getI (pc' := 37) dX11_lift_34 rfl fa_RX11_227 ob_3 fk_10_2 ?_
  refine Ev.icmp_ge (pc' := 40) (tgt := 117) dX11_lift_37 rfl rfl (fun hc => ?_) (fun hc => ?_)
  · have h := h.1 hc
    refine Ev.iload_n (k := 3) (pc' := 118) dX11_lift_117 rfl rfl rfl ?_
    exact Ef.iret dX11_lift_118 rfl h
  · have h := h.2 hc
    refine Ev.aload_n (k := 0) (pc' := 41) dX11_lift_40 rfl rfl rfl ?_
    refine Ev.getR (pc' := 44) dX11_lift_41 rfl fa_RX11_19 ob_0 fk_11_1 rf_0_1 ?_
    refine Ev.getR (pc' := 47) dX11_lift_44 rfl fa_RX11_230 ob_3 fk_10_10 rf_3_10 ?_
    refine Ev.iload (k := 4) (pc' := 49) dX11_lift_47 rfl rfl ?_
    refine Ev.iaload (j := _) (pc' := 50) dX11_lift_49 rfl ar_19 h.1 rfl ?_
    have h := h.2
    refine Ev.istore (ls' := [(5, .int _), (0, .ref _), (1, .int _), (2, .int _), (3, .int _), (4, .int _)]) (pc' := 52) dX11_lift_50 rfl (Nat.le_of_ble_eq_true rfl) rfl ?_
    refine Ev.iload (k := 0) (pc' := 54) dX11_lift_52 rfl rfl ?_
    refine Ev.aload_n (k := 1) (pc' := 55) dX11_lift_54 rfl rfl rfl ?_
    refine Ev.getR (pc' := 58) dX11_lift_55 rfl fa_RX11_19 ob_0 fk_11_1 rf_0_1 ?_
    refine Ev.getR (pc' := 61) dX11_lift_58 rfl fa_RX11_233 ob_3 fk_10_15 rf_3_15 ?_
    refine Ev.iload_n (k := 2) (pc' := 62) dX11_lift_61 rfl rfl rfl ?_
    refine Ev.iaload (j := _) (pc' := 63) dX11_lift_62 rfl ar_24 h.1 rfl ?_
    have h := h.2
    refine Ev.icmp_le (pc' := 66) (tgt := 111) dX11_lift_63 rfl rfl (fun hc => ?_) (fun hc => ?_)
    · have h := h.1 hc
      refine Ev.iinc (k := 5) (v := _) (ls' := [(4, .int _), (5, .int _), (0, .ref _), (1, .int _), (2, .int _), (3, .int _)]) (pc' := 114) dX11_lift_111 rfl rfl (congrArg (_ + ·) ki_1) (Nat.le_of_ble_eq_true rfl) rfl ?_
      refine Ev.goto (tgt := 28) dX11_lift_114 rfl ?_
      exact Ev.sub [2, 3, 4, 5, 0] rfl (hP28 _ _ _ _ _ _ h)
    · have h := h.2 hc
      refine Ev.iload (k := 0) (pc' := 68) dX11_lift_66 rfl rfl ?_
      refine Ev.aload_n (k := 1) (pc' := 69) dX11_lift_68 rfl rfl rfl ?_
      refine Ev.getR (pc' := 72) dX11_lift_69 rfl fa_RX11_19 ob_0 fk_11_1 rf_0_1 ?_
      refine Ev.getR (pc' := 75) dX11_lift_72 rfl fa_RX11_233 ob_3 fk_10_15 rf_3_15 ?_
      refine Ev.iload_n (k := 3) (pc' := 76) dX11_lift_75 rfl rfl rfl ?_
      refine Ev.iaload (j := _) (pc' := 77) dX11_lift_76 rfl ar_24 h.1 rfl ?_
      have h := h.2
      refine Ev.icmp_le (pc' := 80) (tgt := 111) dX11_lift_77 rfl rfl (fun hc => ?_) (fun hc => ?_)
      · have h := h.1 hc
        refine Ev.iinc (k := 5) (v := _) (ls' := [(4, .int _), (5, .int _), (0, .ref _), (1, .int _), (2, .int _), (3, .int _)]) (pc' := 114) dX11_lift_111 rfl rfl (congrArg (_ + ·) ki_1) (Nat.le_of_ble_eq_true rfl) rfl ?_
        refine Ev.goto (tgt := 28) dX11_lift_114 rfl ?_
        exact Ev.sub [2, 3, 4, 5, 0] rfl (hP28 _ _ _ _ _ _ h)
      · have h := h.2 hc
        refine Ev.iload (k := 0) (pc' := 82) dX11_lift_80 rfl rfl ?_
        refine Ev.aload_n (k := 1) (pc' := 83) dX11_lift_82 rfl rfl rfl ?_
        refine Ev.getR (pc' := 86) dX11_lift_83 rfl fa_RX11_19 ob_0 fk_11_1 rf_0_1 ?_
        refine Ev.getR (pc' := 89) dX11_lift_86 rfl fa_RX11_233 ob_3 fk_10_15 rf_3_15 ?_
        refine Ev.iload_n (k := 2) (pc' := 90) dX11_lift_89 rfl rfl rfl ?_
        refine Ev.iaload (j := _) (pc' := 91) dX11_lift_90 rfl ar_24 h.1 rfl ?_
        have h := h.2
        refine Ev.aload_n (k := 1) (pc' := 92) dX11_lift_91 rfl rfl rfl ?_
        refine Ev.getR (pc' := 95) dX11_lift_92 rfl fa_RX11_19 ob_0 fk_11_1 rf_0_1 ?_
        refine Ev.getR (pc' := 98) dX11_lift_95 rfl fa_RX11_233 ob_3 fk_10_15 rf_3_15 ?_
        refine Ev.iload_n (k := 3) (pc' := 99) dX11_lift_98 rfl rfl rfl ?_
        refine Ev.iaload (j := _) (pc' := 100) dX11_lift_99 rfl ar_24 h.1 rfl ?_
        have h := h.2
        refine Ev.iadd (pc' := 101) dX11_lift_100 rfl ?_
        refine Ev.icmp_gt (pc' := 104) (tgt := 111) dX11_lift_101 rfl rfl (fun hc => ?_) (fun hc => ?_)
        · have h := h.1 hc
          refine Ev.iinc (k := 5) (v := _) (ls' := [(4, .int _), (5, .int _), (0, .ref _), (1, .int _), (2, .int _), (3, .int _)]) (pc' := 114) dX11_lift_111 rfl rfl (congrArg (_ + ·) ki_1) (Nat.le_of_ble_eq_true rfl) rfl ?_
          refine Ev.goto (tgt := 28) dX11_lift_114 rfl ?_
          exact Ev.sub [2, 3, 4, 5, 0] rfl (hP28 _ _ _ _ _ _ h)
        · have h := h.2 hc
          refine Ev.iload_n (k := 4) (pc' := 105) dX11_lift_104 rfl rfl rfl ?_
          refine Ev.iconst (pc' := 106) dX11_lift_105 rfl ki_1 ?_
          refine Ev.iload (k := 5) (pc' := 108) dX11_lift_106 rfl rfl ?_
          refine Ev.ishl (pc' := 109) dX11_lift_108 rfl ?_
          refine Ev.ior (pc' := 110) dX11_lift_109 rfl ?_
          refine Ev.istore_n (ls' := [(3, .int _), (5, .int _), (0, .ref _), (1, .int _), (2, .int _), (4, .int _)]) (pc' := 111) dX11_lift_110 rfl rfl (Nat.le_of_ble_eq_true rfl) rfl ?_
          refine Ev.iinc (k := 5) (v := _) (ls' := [(4, .int _), (3, .int _), (5, .int _), (0, .ref _), (1, .int _), (2, .int _)]) (pc' := 114) dX11_lift_111 rfl rfl (congrArg (_ + ·) ki_1) (Nat.le_of_ble_eq_true rfl) rfl ?_
          refine Ev.goto (tgt := 28) dX11_lift_114 rfl ?_
          exact Ev.sub [3, 4, 5, 1, 0] rfl (hP28 _ _ _ _ _ _ h)
set_option maxRecDepth 10000 in
theorem okX11_lift_h28 {G : Gx} {Q : Int32 → Ix → Lx → Prop} {v1 : Int32} {v2 : Int32} {v3 : Int32} {v4 : Int32} {I : Ix} {L : Lx} (h : wpX11_lift_h28 Q v1 v2 v3 v4 I L) : Ef G MX11_lift (qI Q) 28 [(0, .ref 0), (1, .int v1), (2, .int v2), (3, .int v3), (4, .int v4)] [] I L := by
  unfold wpX11_lift_h28 at h
  refine Lfp.ind (P := fun z => Ef G MX11_lift (qI Q) 28 [(0, .ref 0), (1, .int z.1), (2, .int z.2.1), (3, .int z.2.2.1), (4, .int z.2.2.2.1)] [] z.2.2.2.2.1 z.2.2.2.2.2) ?_ h
  intro z P' hP' h
  obtain ⟨v1, v2, v3, v4, I, L⟩ := z
  exact okX11_lift_l28 (fun v1 v2 v3 v4 I L h9 => hP' (v1, v2, v3, v4, I, L) h9) h
set_option maxRecDepth 10000 in
theorem okX11_lift {G : Gx} {a1 : Int32} {a2 : Int32} {I : Ix} {L : Lx} {Q : Int32 → Ix → Lx → Prop} (h : wpX11_lift a1 a2 I L Q) : Mf G MX11_lift [.ref 0, .int a1, .int a2] I L (qI Q) := by
  unfold wpX11_lift at h
  refine Mf.of pn_RX11 (Nat.le_of_ble_eq_true rfl) ?_
  refine Ev.aload_n (k := 0) (pc' := 1) dX11_lift_0 rfl rfl rfl ?_
  refine Ev.iload_n (k := 1) (pc' := 2) dX11_lift_1 rfl rfl rfl ?_
  refine Ef.callVZ [.int _] [] (pc' := 5) dX11_lift_2 rfl cv_RX11_147_X11_isPerson ⟨Nat.le_of_ble_eq_true rfl, Nat.le_of_ble_eq_true rfl⟩ ob_0 rfl rfl rfl (Nat.le_of_ble_eq_true rfl) (okX11_isPerson h) (fun r3 I1 L2 h => ?_)
  refine Ef.ifz_eq (pc' := 8) (tgt := 21) dX11_lift_5 rfl rfl (fun hc => ?_) (fun hc => ?_)
  · have h := h.1 hc
    refine Ev.iconst (pc' := 22) dX11_lift_21 rfl ki_m1 ?_
    exact Ef.iret dX11_lift_22 rfl h
  · have h := h.2 hc
    refine Ev.aload_n (k := 0) (pc' := 9) dX11_lift_8 rfl rfl rfl ?_
    refine Ev.iload_n (k := 2) (pc' := 10) dX11_lift_9 rfl rfl rfl ?_
    refine Ef.callVZ [.int _] [] (pc' := 13) dX11_lift_10 rfl cv_RX11_147_X11_isPerson ⟨Nat.le_of_ble_eq_true rfl, Nat.le_of_ble_eq_true rfl⟩ ob_0 rfl rfl rfl (Nat.le_of_ble_eq_true rfl) (okX11_isPerson h) (fun r6 I4 L5 h => ?_)
    refine Ef.ifz_eq (pc' := 16) (tgt := 21) dX11_lift_13 rfl rfl (fun hc => ?_) (fun hc => ?_)
    · have h := h.1 hc
      refine Ev.iconst (pc' := 22) dX11_lift_21 rfl ki_m1 ?_
      exact Ef.iret dX11_lift_22 rfl h
    · have h := h.2 hc
      refine Ev.iload_n (k := 1) (pc' := 17) dX11_lift_16 rfl rfl rfl ?_
      refine Ev.iload_n (k := 2) (pc' := 18) dX11_lift_17 rfl rfl rfl ?_
      refine Ev.icmp_ne (pc' := 21) (tgt := 23) dX11_lift_18 rfl rfl (fun hc => ?_) (fun hc => ?_)
      · have h := h.1 hc
        refine Ev.iconst (pc' := 24) dX11_lift_23 rfl ki_0 ?_
        refine Ev.istore_n (ls' := [(3, .int _), (0, .ref _), (1, .int _), (2, .int _)]) (pc' := 25) dX11_lift_24 rfl rfl (Nat.le_of_ble_eq_true rfl) rfl ?_
        refine Ev.iconst (pc' := 26) dX11_lift_25 rfl ki_0 ?_
        refine Ev.istore (ls' := [(4, .int _), (3, .int _), (0, .ref _), (1, .int _), (2, .int _)]) (pc' := 28) dX11_lift_26 rfl (Nat.le_of_ble_eq_true rfl) rfl ?_
        exact Ev.sub [2, 3, 4, 1, 0] rfl (okX11_lift_h28 h)
      · have h := h.2 hc
        refine Ev.iconst (pc' := 22) dX11_lift_21 rfl ki_m1 ?_
        exact Ef.iret dX11_lift_22 rfl h
def wpX1_mostNoons_4_b121 (Q : Int32 → Ix → Lx → Prop) (P5 : Int32 → Int32 → Int32 → Int32 → Ix → Lx → Prop) (P74 : Int32 → Int32 → Int32 → Int32 → Int32 → Int32 → Ix → Lx → Prop) (v1 : Int32) (v2 : Int32) (v3 : Int32) (v4 : Int32) (v5 : Int32) (v6 : Int32) (t0 : Int32) (I : Ix) (L : Lx) : Prop := vp_in v6 8 ∧ ((I 9 v6.toNatClampNeg) ≤ 0 → P74 v1 v2 v3 v4 v5 (v6 + 1) I L) ∧ (¬ (I 9 v6.toNatClampNeg) ≤ 0 → (t0 = 0 → P74 v1 v2 v3 v4 v5 (v6 + 1) I L) ∧ (¬ t0 = 0 → vp_in v4 8 ∧ vp_in v6 8 ∧ vp_in v4 8 ∧ ∀ I1 : Ix, I1 = pu I 9 v4.toNatClampNeg (imax (I 9 v4.toNatClampNeg) ((I 9 v6.toNatClampNeg) + 1)) → P74 v1 v2 v3 v4 v5 (v6 + 1) I1 L))
def wpX1_mostNoons_4_l74 (Q : Int32 → Ix → Lx → Prop) (P5 : Int32 → Int32 → Int32 → Int32 → Ix → Lx → Prop) (P74 : Int32 → Int32 → Int32 → Int32 → Int32 → Int32 → Ix → Lx → Prop) (v1 : Int32) (v2 : Int32) (v3 : Int32) (v4 : Int32) (v5 : Int32) (v6 : Int32) (I : Ix) (L : Lx) : Prop := (v4 ≤ v6 → vp_in v4 8 ∧ P5 v1 v2 (imax v3 (I 9 v4.toNatClampNeg)) (v4 + 1) I L) ∧ (¬ v4 ≤ v6 → vp_in v6 8 ∧ wpX1_minutes_4 (I 7 v6.toNatClampNeg) v5 I L (fun r3 I1 L2 => vp_in v5 8 ∧ vp_in (I 7 v6.toNatClampNeg) 8 ∧ (((I1 6 v5.toNatClampNeg) - (I1 6 (I 7 v6.toNatClampNeg).toNatClampNeg)) < r3 → wpX1_mostNoons_4_b121 Q P5 P74 v1 v2 v3 v4 v5 v6 0 I1 L2) ∧ (¬ ((I1 6 v5.toNatClampNeg) - (I1 6 (I 7 v6.toNatClampNeg).toNatClampNeg)) < r3 → wpX1_mostNoons_4_b121 Q P5 P74 v1 v2 v3 v4 v5 v6 1 I1 L2)))
def wpX1_mostNoons_4_h74 (Q : Int32 → Ix → Lx → Prop) (P5 : Int32 → Int32 → Int32 → Int32 → Ix → Lx → Prop) (v1 : Int32) (v2 : Int32) (v3 : Int32) (v4 : Int32) (v5 : Int32) (v6 : Int32) (I : Ix) (L : Lx) : Prop := Lfp (X := Int32 × Int32 × Int32 × Int32 × Int32 × Int32 × Ix × Lx) (fun P z => wpX1_mostNoons_4_l74 Q P5 (fun v1 v2 v3 v4 v5 v6 I L => P (v1, v2, v3, v4, v5, v6, I, L)) z.1 z.2.1 z.2.2.1 z.2.2.2.1 z.2.2.2.2.1 z.2.2.2.2.2.1 z.2.2.2.2.2.2.1 z.2.2.2.2.2.2.2) (v1, v2, v3, v4, v5, v6, I, L)
theorem wpX1_mostNoons_4_h74_fold {Q : Int32 → Ix → Lx → Prop} {P5 : Int32 → Int32 → Int32 → Int32 → Ix → Lx → Prop} {v1 : Int32} {v2 : Int32} {v3 : Int32} {v4 : Int32} {v5 : Int32} {v6 : Int32} {I : Ix} {L : Lx} (h : wpX1_mostNoons_4_l74 Q P5 (wpX1_mostNoons_4_h74 Q P5) v1 v2 v3 v4 v5 v6 I L) : wpX1_mostNoons_4_h74 Q P5 v1 v2 v3 v4 v5 v6 I L := Lfp.fold h
def wpX1_mostNoons_4_l5 (Q : Int32 → Ix → Lx → Prop) (P5 : Int32 → Int32 → Int32 → Int32 → Ix → Lx → Prop) (v1 : Int32) (v2 : Int32) (v3 : Int32) (v4 : Int32) (I : Ix) (L : Lx) : Prop := ((I 4 0) ≤ v4 → Q v3 I L) ∧ (¬ (I 4 0) ≤ v4 → vp_in v4 8 ∧ vp_in v4 8 ∧ ∀ I1 : Ix, I1 = pu I 9 v4.toNatClampNeg 0 → (¬ ((jush v2 (I 7 v4.toNatClampNeg)) &&& 1) = 0 → wpX1_minutes_4 v1 (I 7 v4.toNatClampNeg) I1 L (fun r4 I2 L3 => vp_in (I 7 v4.toNatClampNeg) 8 ∧ ((60 + (I2 6 (I 7 v4.toNatClampNeg).toNatClampNeg)) < r4 → wpX1_mostNoons_4_h74 Q P5 v1 v2 v3 v4 (I 7 v4.toNatClampNeg) 0 I2 L3) ∧ (¬ (60 + (I2 6 (I 7 v4.toNatClampNeg).toNatClampNeg)) < r4 → vp_in v4 8 ∧ ∀ I5 : Ix, I5 = pu I2 9 v4.toNatClampNeg 1 → wpX1_mostNoons_4_h74 Q P5 v1 v2 v3 v4 (I 7 v4.toNatClampNeg) 0 I5 L3))) ∧ (((jush v2 (I 7 v4.toNatClampNeg)) &&& 1) = 0 → P5 v1 v2 v3 (v4 + 1) I1 L))
def wpX1_mostNoons_4_h5 (Q : Int32 → Ix → Lx → Prop) (v1 : Int32) (v2 : Int32) (v3 : Int32) (v4 : Int32) (I : Ix) (L : Lx) : Prop := Lfp (X := Int32 × Int32 × Int32 × Int32 × Ix × Lx) (fun P z => wpX1_mostNoons_4_l5 Q (fun v1 v2 v3 v4 I L => P (v1, v2, v3, v4, I, L)) z.1 z.2.1 z.2.2.1 z.2.2.2.1 z.2.2.2.2.1 z.2.2.2.2.2) (v1, v2, v3, v4, I, L)
theorem wpX1_mostNoons_4_h5_fold {Q : Int32 → Ix → Lx → Prop} {v1 : Int32} {v2 : Int32} {v3 : Int32} {v4 : Int32} {I : Ix} {L : Lx} (h : wpX1_mostNoons_4_l5 Q (wpX1_mostNoons_4_h5 Q) v1 v2 v3 v4 I L) : wpX1_mostNoons_4_h5 Q v1 v2 v3 v4 I L := Lfp.fold h
def wpX1_mostNoons_4 (a1 : Int32) (a2 : Int32) (I : Ix) (L : Lx) (Q : Int32 → Ix → Lx → Prop) : Prop := wpX1_mostNoons_4_h5 Q a1 a2 0 0 I L
set_option maxRecDepth 10000 in
theorem okX1_mostNoons_4_b121 {G : Gx} {Q : Int32 → Ix → Lx → Prop} {P5 : Int32 → Int32 → Int32 → Int32 → Ix → Lx → Prop} {P74 : Int32 → Int32 → Int32 → Int32 → Int32 → Int32 → Ix → Lx → Prop} (hP5 : ∀ (v1 : Int32) (v2 : Int32) (v3 : Int32) (v4 : Int32) (I : Ix) (L : Lx), P5 v1 v2 v3 v4 I L → Ef G MX1_mostNoons_4 (qI Q) 5 [(0, .ref 4), (1, .int v1), (2, .int v2), (3, .int v3), (4, .int v4)] [] I L) (hP74 : ∀ (v1 : Int32) (v2 : Int32) (v3 : Int32) (v4 : Int32) (v5 : Int32) (v6 : Int32) (I : Ix) (L : Lx), P74 v1 v2 v3 v4 v5 v6 I L → Ef G MX1_mostNoons_4 (qI Q) 74 [(0, .ref 4), (1, .int v1), (2, .int v2), (3, .int v3), (4, .int v4), (5, .int v5), (6, .int v6)] [] I L) {v1 : Int32} {v2 : Int32} {v3 : Int32} {v4 : Int32} {v5 : Int32} {v6 : Int32} {t0 : Int32} {I : Ix} {L : Lx} (h : wpX1_mostNoons_4_b121 Q P5 P74 v1 v2 v3 v4 v5 v6 t0 I L) : Ef G MX1_mostNoons_4 (qI Q) 121 [(0, .ref 4), (1, .int v1), (2, .int v2), (3, .int v3), (4, .int v4), (5, .int v5), (6, .int v6)] [.int t0] I L := by
  unfold wpX1_mostNoons_4_b121 at h
  refine Ev.istore (ls' := [(8, .int _), (0, .ref _), (1, .int _), (2, .int _), (3, .int _), (4, .int _), (5, .int _), (6, .int _)]) (pc' := 123) dX1_mostNoons_121 rfl (Nat.le_of_ble_eq_true rfl) rfl ?_
  refine Ev.aload_n (k := 1) (pc' := 124) dX1_mostNoons_123 rfl rfl rfl ?_
  refine Ev.getR (pc' := 127) dX1_mostNoons_124 rfl fa_RX1_25 ob_4 fk_1_6 rf_4_6 ?_
  refine Ev.iload (k := 7) (pc' := 129) dX1_mostNoons_127 rfl rfl ?_
  refine Ev.iaload (j := _) (pc' := 130) dX1_mostNoons_129 rfl ar_9 h.1 rfl ?_
  have h := h.2
  refine Ev.if_le (pc' := 133) (tgt := 164) dX1_mostNoons_130 rfl rfl (fun hc => ?_) (fun hc => ?_)
  · have h := h.1 hc
    refine Ev.iinc (k := 7) (v := _) (ls' := [(6, .int _), (8, .int _), (0, .ref _), (1, .int _), (2, .int _), (3, .int _), (4, .int _), (5, .int _)]) (pc' := 167) dX1_mostNoons_164 rfl rfl (congrArg (_ + ·) ki_1) (Nat.le_of_ble_eq_true rfl) rfl ?_
    refine Ev.goto (tgt := 74) dX1_mostNoons_167 rfl ?_
    exact Ev.sub [2, 3, 4, 5, 6, 7, 0] rfl (hP74 _ _ _ _ _ _ _ _ h)
  · have h := h.2 hc
    refine Ev.iload (k := 0) (pc' := 135) dX1_mostNoons_133 rfl rfl ?_
    refine Ev.if_eq (pc' := 138) (tgt := 164) dX1_mostNoons_135 rfl rfl (fun hc => ?_) (fun hc => ?_)
    · have h := h.1 hc
      refine Ev.iinc (k := 7) (v := _) (ls' := [(6, .int _), (8, .int _), (0, .ref _), (1, .int _), (2, .int _), (3, .int _), (4, .int _), (5, .int _)]) (pc' := 167) dX1_mostNoons_164 rfl rfl (congrArg (_ + ·) ki_1) (Nat.le_of_ble_eq_true rfl) rfl ?_
      refine Ev.goto (tgt := 74) dX1_mostNoons_167 rfl ?_
      exact Ev.sub [2, 3, 4, 5, 6, 7, 0] rfl (hP74 _ _ _ _ _ _ _ _ h)
    · have h := h.2 hc
      refine Ev.aload_n (k := 1) (pc' := 139) dX1_mostNoons_138 rfl rfl rfl ?_
      refine Ev.getR (pc' := 142) dX1_mostNoons_139 rfl fa_RX1_25 ob_4 fk_1_6 rf_4_6 ?_
      refine Ev.iload (k := 5) (pc' := 144) dX1_mostNoons_142 rfl rfl ?_
      refine Ev.aload_n (k := 1) (pc' := 145) dX1_mostNoons_144 rfl rfl rfl ?_
      refine Ev.getR (pc' := 148) dX1_mostNoons_145 rfl fa_RX1_25 ob_4 fk_1_6 rf_4_6 ?_
      refine Ev.iload (k := 5) (pc' := 150) dX1_mostNoons_148 rfl rfl ?_
      refine Ev.iaload (j := _) (pc' := 151) dX1_mostNoons_150 rfl ar_9 h.1 rfl ?_
      have h := h.2
      refine Ev.aload_n (k := 1) (pc' := 152) dX1_mostNoons_151 rfl rfl rfl ?_
      refine Ev.getR (pc' := 155) dX1_mostNoons_152 rfl fa_RX1_25 ob_4 fk_1_6 rf_4_6 ?_
      refine Ev.iload (k := 7) (pc' := 157) dX1_mostNoons_155 rfl rfl ?_
      refine Ev.iaload (j := _) (pc' := 158) dX1_mostNoons_157 rfl ar_9 h.1 rfl ?_
      have h := h.2
      refine Ev.iconst (pc' := 159) dX1_mostNoons_158 rfl ki_1 ?_
      refine Ev.iadd (pc' := 160) dX1_mostNoons_159 rfl ?_
      refine Ev.mmax (pc' := 163) dX1_mostNoons_160 rfl ml_RX1_49 mmax_w (Nat.le_of_ble_eq_true rfl) (Nat.le_of_ble_eq_true rfl) ?_
      refine Ev.iastore (j := _) (pc' := 164) dX1_mostNoons_163 rfl ar_9 h.1 rfl (fun I1 eI1 => ?_)
      have h := h.2 I1 eI1
      refine Ev.iinc (k := 7) (v := _) (ls' := [(6, .int _), (8, .int _), (0, .ref _), (1, .int _), (2, .int _), (3, .int _), (4, .int _), (5, .int _)]) (pc' := 167) dX1_mostNoons_164 rfl rfl (congrArg (_ + ·) ki_1) (Nat.le_of_ble_eq_true rfl) rfl ?_
      refine Ev.goto (tgt := 74) dX1_mostNoons_167 rfl ?_
      exact Ev.sub [2, 3, 4, 5, 6, 7, 0] rfl (hP74 _ _ _ _ _ _ _ _ h)
set_option maxRecDepth 10000 in
theorem okX1_mostNoons_4_l74 {G : Gx} {Q : Int32 → Ix → Lx → Prop} {P5 : Int32 → Int32 → Int32 → Int32 → Ix → Lx → Prop} {P74 : Int32 → Int32 → Int32 → Int32 → Int32 → Int32 → Ix → Lx → Prop} (hP5 : ∀ (v1 : Int32) (v2 : Int32) (v3 : Int32) (v4 : Int32) (I : Ix) (L : Lx), P5 v1 v2 v3 v4 I L → Ef G MX1_mostNoons_4 (qI Q) 5 [(0, .ref 4), (1, .int v1), (2, .int v2), (3, .int v3), (4, .int v4)] [] I L) (hP74 : ∀ (v1 : Int32) (v2 : Int32) (v3 : Int32) (v4 : Int32) (v5 : Int32) (v6 : Int32) (I : Ix) (L : Lx), P74 v1 v2 v3 v4 v5 v6 I L → Ef G MX1_mostNoons_4 (qI Q) 74 [(0, .ref 4), (1, .int v1), (2, .int v2), (3, .int v3), (4, .int v4), (5, .int v5), (6, .int v6)] [] I L) {v1 : Int32} {v2 : Int32} {v3 : Int32} {v4 : Int32} {v5 : Int32} {v6 : Int32} {I : Ix} {L : Lx} (h : wpX1_mostNoons_4_l74 Q P5 P74 v1 v2 v3 v4 v5 v6 I L) : Ef G MX1_mostNoons_4 (qI Q) 74 [(0, .ref 4), (1, .int v1), (2, .int v2), (3, .int v3), (4, .int v4), (5, .int v5), (6, .int v6)] [] I L := by
  unfold wpX1_mostNoons_4_l74 at h
  refine Ev.iload (k := 6) (pc' := 76) dX1_mostNoons_74 rfl rfl ?_
  refine Ev.iload (k := 4) (pc' := 78) dX1_mostNoons_76 rfl rfl ?_
  refine Ev.icmp_ge (pc' := 81) (tgt := 170) dX1_mostNoons_78 rfl rfl (fun hc => ?_) (fun hc => ?_)
  · have h := h.1 hc
    refine Ev.iload_n (k := 3) (pc' := 171) dX1_mostNoons_170 rfl rfl rfl ?_
    refine Ev.aload_n (k := 0) (pc' := 172) dX1_mostNoons_171 rfl rfl rfl ?_
    refine Ev.getR (pc' := 175) dX1_mostNoons_172 rfl fa_RX1_25 ob_4 fk_1_6 rf_4_6 ?_
    refine Ev.iload (k := 4) (pc' := 177) dX1_mostNoons_175 rfl rfl ?_
    refine Ev.iaload (j := _) (pc' := 178) dX1_mostNoons_177 rfl ar_9 h.1 rfl ?_
    have h := h.2
    refine Ev.mmax (pc' := 181) dX1_mostNoons_178 rfl ml_RX1_49 mmax_w (Nat.le_of_ble_eq_true rfl) (Nat.le_of_ble_eq_true rfl) ?_
    refine Ev.istore_n (ls' := [(3, .int _), (0, .ref _), (1, .int _), (2, .int _), (4, .int _), (5, .int _), (6, .int _)]) (pc' := 182) dX1_mostNoons_181 rfl rfl (Nat.le_of_ble_eq_true rfl) rfl ?_
    refine Ev.iinc (k := 4) (v := _) (ls' := [(4, .int _), (3, .int _), (0, .ref _), (1, .int _), (2, .int _), (5, .int _), (6, .int _)]) (pc' := 185) dX1_mostNoons_182 rfl rfl (congrArg (_ + ·) ki_1) (Nat.le_of_ble_eq_true rfl) rfl ?_
    refine Ev.goto (tgt := 5) dX1_mostNoons_185 rfl ?_
    exact Ev.sub [2, 3, 4, 1, 0] rfl (hP5 _ _ _ _ _ _ h)
  · have h := h.2 hc
    refine Ev.aload_n (k := 0) (pc' := 82) dX1_mostNoons_81 rfl rfl rfl ?_
    refine Ev.getR (pc' := 85) dX1_mostNoons_82 rfl fa_RX1_19 ob_4 fk_1_4 rf_4_4 ?_
    refine Ev.iload (k := 6) (pc' := 87) dX1_mostNoons_85 rfl rfl ?_
    refine Ev.iaload (j := _) (pc' := 88) dX1_mostNoons_87 rfl ar_7 h.1 rfl ?_
    have h := h.2
    refine Ev.istore (ls' := [(7, .int _), (0, .ref _), (1, .int _), (2, .int _), (3, .int _), (4, .int _), (5, .int _), (6, .int _)]) (pc' := 90) dX1_mostNoons_88 rfl (Nat.le_of_ble_eq_true rfl) rfl ?_
    refine Ev.aload_n (k := 1) (pc' := 91) dX1_mostNoons_90 rfl rfl rfl ?_
    refine Ev.iload (k := 0) (pc' := 93) dX1_mostNoons_91 rfl rfl ?_
    refine Ev.iload (k := 6) (pc' := 95) dX1_mostNoons_93 rfl rfl ?_
    refine Ef.callVI [.int _, .int _] [] (pc' := 98) dX1_mostNoons_95 rfl cv_RX1_41_X1_minutes_4 ⟨Nat.le_of_ble_eq_true rfl, Nat.le_of_ble_eq_true rfl⟩ ob_4 rfl rfl rfl (Nat.le_of_ble_eq_true rfl) (okX1_minutes_4 h) (fun r3 I1 L2 h => ?_)
    refine Ev.aload_n (k := 1) (pc' := 99) dX1_mostNoons_98 rfl rfl rfl ?_
    refine Ev.getR (pc' := 102) dX1_mostNoons_99 rfl fa_RX1_15 ob_4 fk_1_3 rf_4_3 ?_
    refine Ev.iload (k := 6) (pc' := 104) dX1_mostNoons_102 rfl rfl ?_
    refine Ev.iaload (j := _) (pc' := 105) dX1_mostNoons_104 rfl ar_6 h.1 rfl ?_
    have h := h.2
    refine Ev.aload_n (k := 1) (pc' := 106) dX1_mostNoons_105 rfl rfl rfl ?_
    refine Ev.getR (pc' := 109) dX1_mostNoons_106 rfl fa_RX1_15 ob_4 fk_1_3 rf_4_3 ?_
    refine Ev.iload (k := 0) (pc' := 111) dX1_mostNoons_109 rfl rfl ?_
    refine Ev.iaload (j := _) (pc' := 112) dX1_mostNoons_111 rfl ar_6 h.1 rfl ?_
    have h := h.2
    refine Ev.isub (pc' := 113) dX1_mostNoons_112 rfl ?_
    refine Ev.icmp_gt (pc' := 116) (tgt := 120) dX1_mostNoons_113 rfl rfl (fun hc => ?_) (fun hc => ?_)
    · have h := h.1 hc
      refine Ev.iconst (pc' := 121) dX1_mostNoons_120 rfl ki_0 ?_
      exact Ev.sub [1, 2, 3, 4, 5, 6, 7] rfl (okX1_mostNoons_4_b121 hP5 hP74 h)
    · have h := h.2 hc
      refine Ev.iconst (pc' := 117) dX1_mostNoons_116 rfl ki_1 ?_
      refine Ev.goto (tgt := 121) dX1_mostNoons_117 rfl ?_
      exact Ev.sub [1, 2, 3, 4, 5, 6, 7] rfl (okX1_mostNoons_4_b121 hP5 hP74 h)
set_option maxRecDepth 10000 in
theorem okX1_mostNoons_4_h74 {G : Gx} {Q : Int32 → Ix → Lx → Prop} {P5 : Int32 → Int32 → Int32 → Int32 → Ix → Lx → Prop} (hP5 : ∀ (v1 : Int32) (v2 : Int32) (v3 : Int32) (v4 : Int32) (I : Ix) (L : Lx), P5 v1 v2 v3 v4 I L → Ef G MX1_mostNoons_4 (qI Q) 5 [(0, .ref 4), (1, .int v1), (2, .int v2), (3, .int v3), (4, .int v4)] [] I L) {v1 : Int32} {v2 : Int32} {v3 : Int32} {v4 : Int32} {v5 : Int32} {v6 : Int32} {I : Ix} {L : Lx} (h : wpX1_mostNoons_4_h74 Q P5 v1 v2 v3 v4 v5 v6 I L) : Ef G MX1_mostNoons_4 (qI Q) 74 [(0, .ref 4), (1, .int v1), (2, .int v2), (3, .int v3), (4, .int v4), (5, .int v5), (6, .int v6)] [] I L := by
  unfold wpX1_mostNoons_4_h74 at h
  refine Lfp.ind (P := fun z => Ef G MX1_mostNoons_4 (qI Q) 74 [(0, .ref 4), (1, .int z.1), (2, .int z.2.1), (3, .int z.2.2.1), (4, .int z.2.2.2.1), (5, .int z.2.2.2.2.1), (6, .int z.2.2.2.2.2.1)] [] z.2.2.2.2.2.2.1 z.2.2.2.2.2.2.2) ?_ h
  intro z P' hP' h
  obtain ⟨v1, v2, v3, v4, v5, v6, I, L⟩ := z
  exact okX1_mostNoons_4_l74 hP5 (fun v1 v2 v3 v4 v5 v6 I L h9 => hP' (v1, v2, v3, v4, v5, v6, I, L) h9) h
set_option maxRecDepth 10000 in
theorem okX1_mostNoons_4_l5 {G : Gx} {Q : Int32 → Ix → Lx → Prop} {P5 : Int32 → Int32 → Int32 → Int32 → Ix → Lx → Prop} (hP5 : ∀ (v1 : Int32) (v2 : Int32) (v3 : Int32) (v4 : Int32) (I : Ix) (L : Lx), P5 v1 v2 v3 v4 I L → Ef G MX1_mostNoons_4 (qI Q) 5 [(0, .ref 4), (1, .int v1), (2, .int v2), (3, .int v3), (4, .int v4)] [] I L) {v1 : Int32} {v2 : Int32} {v3 : Int32} {v4 : Int32} {I : Ix} {L : Lx} (h : wpX1_mostNoons_4_l5 Q P5 v1 v2 v3 v4 I L) : Ef G MX1_mostNoons_4 (qI Q) 5 [(0, .ref 4), (1, .int v1), (2, .int v2), (3, .int v3), (4, .int v4)] [] I L := by
  unfold wpX1_mostNoons_4_l5 at h
  refine Ev.iload (k := 4) (pc' := 7) dX1_mostNoons_5 rfl rfl ?_
  refine Ev.aload_n (k := 0) (pc' := 8) dX1_mostNoons_7 rfl rfl rfl ?_
  refine Ev.getI (pc' := 11) dX1_mostNoons_8 rfl fa_RX1_28 ob_4 fk_1_0 ?_
  refine Ev.icmp_ge (pc' := 14) (tgt := 188) dX1_mostNoons_11 rfl rfl (fun hc => ?_) (fun hc => ?_)
  · have h := h.1 hc
    refine Ev.iload_n (k := 3) (pc' := 189) dX1_mostNoons_188 rfl rfl rfl ?_
    exact Ef.iret dX1_mostNoons_189 rfl h
  · have h := h.2 hc
    refine Ev.aload_n (k := 0) (pc' := 15) dX1_mostNoons_14 rfl rfl rfl ?_
    refine Ev.getR (pc' := 18) dX1_mostNoons_15 rfl fa_RX1_19 ob_4 fk_1_4 rf_4_4 ?_
    refine Ev.iload (k := 4) (pc' := 20) dX1_mostNoons_18 rfl rfl ?_
    refine Ev.iaload (j := _) (pc' := 21) dX1_mostNoons_20 rfl ar_7 h.1 rfl ?_
    have h := h.2
    refine Ev.istore (ls' := [(5, .int _), (0, .ref _), (1, .int _), (2, .int _), (3, .int _), (4, .int _)]) (pc' := 23) dX1_mostNoons_21 rfl (Nat.le_of_ble_eq_true rfl) rfl ?_
    refine Ev.aload_n (k := 1) (pc' := 24) dX1_mostNoons_23 rfl rfl rfl ?_
    refine Ev.getR (pc' := 27) dX1_mostNoons_24 rfl fa_RX1_25 ob_4 fk_1_6 rf_4_6 ?_
    refine Ev.iload (k := 5) (pc' := 29) dX1_mostNoons_27 rfl rfl ?_
    refine Ev.iconst (pc' := 30) dX1_mostNoons_29 rfl ki_0 ?_
    refine Ev.iastore (j := _) (pc' := 31) dX1_mostNoons_30 rfl ar_9 h.1 rfl (fun I1 eI1 => ?_)
    have h := h.2 I1 eI1
    refine Ev.iload_n (k := 3) (pc' := 32) dX1_mostNoons_31 rfl rfl rfl ?_
    refine Ev.iload (k := 0) (pc' := 34) dX1_mostNoons_32 rfl rfl ?_
    refine Ev.iushr (pc' := 35) dX1_mostNoons_34 rfl ?_
    refine Ev.iconst (pc' := 36) dX1_mostNoons_35 rfl ki_1 ?_
    refine Ev.iand (pc' := 37) dX1_mostNoons_36 rfl ?_
    refine Ev.if_ne (pc' := 40) (tgt := 43) dX1_mostNoons_37 rfl rfl (fun hc => ?_) (fun hc => ?_)
    · have h := h.1 hc
      refine Ev.aload_n (k := 1) (pc' := 44) dX1_mostNoons_43 rfl rfl rfl ?_
      refine Ev.iload_n (k := 2) (pc' := 45) dX1_mostNoons_44 rfl rfl rfl ?_
      refine Ev.iload (k := 0) (pc' := 47) dX1_mostNoons_45 rfl rfl ?_
      refine Ef.callVI [.int _, .int _] [] (pc' := 50) dX1_mostNoons_47 rfl cv_RX1_41_X1_minutes_4 ⟨Nat.le_of_ble_eq_true rfl, Nat.le_of_ble_eq_true rfl⟩ ob_4 rfl rfl rfl (Nat.le_of_ble_eq_true rfl) (okX1_minutes_4 h) (fun r4 I2 L3 h => ?_)
      refine Ev.bipush (pc' := 52) dX1_mostNoons_50 rfl kb_60 ?_
      refine Ev.aload_n (k := 1) (pc' := 53) dX1_mostNoons_52 rfl rfl rfl ?_
      refine Ev.getR (pc' := 56) dX1_mostNoons_53 rfl fa_RX1_15 ob_4 fk_1_3 rf_4_3 ?_
      refine Ev.iload (k := 0) (pc' := 58) dX1_mostNoons_56 rfl rfl ?_
      refine Ev.iaload (j := _) (pc' := 59) dX1_mostNoons_58 rfl ar_6 h.1 rfl ?_
      have h := h.2
      refine Ev.iadd (pc' := 60) dX1_mostNoons_59 rfl ?_
      refine Ev.icmp_gt (pc' := 63) (tgt := 71) dX1_mostNoons_60 rfl rfl (fun hc => ?_) (fun hc => ?_)
      · have h := h.1 hc
        refine Ev.iconst (pc' := 72) dX1_mostNoons_71 rfl ki_0 ?_
        refine Ev.istore (ls' := [(6, .int _), (5, .int _), (0, .ref _), (1, .int _), (2, .int _), (3, .int _), (4, .int _)]) (pc' := 74) dX1_mostNoons_72 rfl (Nat.le_of_ble_eq_true rfl) rfl ?_
        exact Ev.sub [2, 3, 4, 5, 6, 1, 0] rfl (okX1_mostNoons_4_h74 hP5 h)
      · have h := h.2 hc
        refine Ev.aload_n (k := 1) (pc' := 64) dX1_mostNoons_63 rfl rfl rfl ?_
        refine Ev.getR (pc' := 67) dX1_mostNoons_64 rfl fa_RX1_25 ob_4 fk_1_6 rf_4_6 ?_
        refine Ev.iload (k := 5) (pc' := 69) dX1_mostNoons_67 rfl rfl ?_
        refine Ev.iconst (pc' := 70) dX1_mostNoons_69 rfl ki_1 ?_
        refine Ev.iastore (j := _) (pc' := 71) dX1_mostNoons_70 rfl ar_9 h.1 rfl (fun I5 eI5 => ?_)
        have h := h.2 I5 eI5
        refine Ev.iconst (pc' := 72) dX1_mostNoons_71 rfl ki_0 ?_
        refine Ev.istore (ls' := [(6, .int _), (5, .int _), (0, .ref _), (1, .int _), (2, .int _), (3, .int _), (4, .int _)]) (pc' := 74) dX1_mostNoons_72 rfl (Nat.le_of_ble_eq_true rfl) rfl ?_
        exact Ev.sub [2, 3, 4, 5, 6, 1, 0] rfl (okX1_mostNoons_4_h74 hP5 h)
    · have h := h.2 hc
      refine Ev.goto (tgt := 182) dX1_mostNoons_40 rfl ?_
      refine Ev.iinc (k := 5) (v := _) (ls' := [(4, .int _), (5, .int _), (0, .ref _), (1, .int _), (2, .int _), (3, .int _)]) (pc' := 185) dX1_mostNoons_182 rfl rfl (congrArg (_ + ·) ki_1) (Nat.le_of_ble_eq_true rfl) rfl ?_
      refine Ev.goto (tgt := 5) dX1_mostNoons_185 rfl ?_
      exact Ev.sub [2, 3, 4, 5, 0] rfl (hP5 _ _ _ _ _ _ h)
set_option maxRecDepth 10000 in
theorem okX1_mostNoons_4_h5 {G : Gx} {Q : Int32 → Ix → Lx → Prop} {v1 : Int32} {v2 : Int32} {v3 : Int32} {v4 : Int32} {I : Ix} {L : Lx} (h : wpX1_mostNoons_4_h5 Q v1 v2 v3 v4 I L) : Ef G MX1_mostNoons_4 (qI Q) 5 [(0, .ref 4), (1, .int v1), (2, .int v2), (3, .int v3), (4, .int v4)] [] I L := by
  unfold wpX1_mostNoons_4_h5 at h
  refine Lfp.ind (P := fun z => Ef G MX1_mostNoons_4 (qI Q) 5 [(0, .ref 4), (1, .int z.1), (2, .int z.2.1), (3, .int z.2.2.1), (4, .int z.2.2.2.1)] [] z.2.2.2.2.1 z.2.2.2.2.2) ?_ h
  intro z P' hP' h
  obtain ⟨v1, v2, v3, v4, I, L⟩ := z
  exact okX1_mostNoons_4_l5 (fun v1 v2 v3 v4 I L h9 => hP' (v1, v2, v3, v4, I, L) h9) h
set_option maxRecDepth 10000 in
theorem okX1_mostNoons_4 {G : Gx} {a1 : Int32} {a2 : Int32} {I : Ix} {L : Lx} {Q : Int32 → Ix → Lx → Prop} (h : wpX1_mostNoons_4 a1 a2 I L Q) : Mf G MX1_mostNoons_4 [.ref 4, .int a1, .int a2] I L (qI Q) := by
  unfold wpX1_mostNoons_4 at h
  refine Mf.of pn_RX1 (Nat.le_of_ble_eq_true rfl) ?_
  refine Ev.iconst (pc' := 1) dX1_mostNoons_0 rfl ki_0 ?_
  refine Ev.istore_n (ls' := [(3, .int _), (0, .ref _), (1, .int _), (2, .int _)]) (pc' := 2) dX1_mostNoons_1 rfl rfl (Nat.le_of_ble_eq_true rfl) rfl ?_
  refine Ev.iconst (pc' := 3) dX1_mostNoons_2 rfl ki_0 ?_
  refine Ev.istore (ls' := [(4, .int _), (3, .int _), (0, .ref _), (1, .int _), (2, .int _)]) (pc' := 5) dX1_mostNoons_3 rfl (Nat.le_of_ble_eq_true rfl) rfl ?_
  exact Ev.sub [2, 3, 4, 1, 0] rfl (okX1_mostNoons_4_h5 h)
def wpX11_tour_l14 (Q : Int32 → Ix → Lx → Prop) (P14 : Int32 → Int32 → Int32 → Ix → Lx → Prop) (v1 : Int32) (v2 : Int32) (v3 : Int32) (I : Ix) (L : Lx) : Prop := ((I 3 2) ≤ v3 → vp_in v1 6 ∧ wpX1_mostNoons_4 (I 59 v1.toNatClampNeg) v2 I L (fun r3 I1 L2 => Q r3 I1 L2)) ∧ (¬ (I 3 2) ≤ v3 → vp_in v3 10 ∧ (¬ (I 58 v3.toNatClampNeg) = 0 → P14 v1 v2 (v3 + 1) I L) ∧ ((I 58 v3.toNatClampNeg) = 0 → vp_in v3 10 ∧ P14 v1 (v2 ||| (jshl 1 (I 16 v3.toNatClampNeg))) (v3 + 1) I L))
def wpX11_tour_h14 (Q : Int32 → Ix → Lx → Prop) (v1 : Int32) (v2 : Int32) (v3 : Int32) (I : Ix) (L : Lx) : Prop := Lfp (X := Int32 × Int32 × Int32 × Ix × Lx) (fun P z => wpX11_tour_l14 Q (fun v1 v2 v3 I L => P (v1, v2, v3, I, L)) z.1 z.2.1 z.2.2.1 z.2.2.2.1 z.2.2.2.2) (v1, v2, v3, I, L)
theorem wpX11_tour_h14_fold {Q : Int32 → Ix → Lx → Prop} {v1 : Int32} {v2 : Int32} {v3 : Int32} {I : Ix} {L : Lx} (h : wpX11_tour_l14 Q (wpX11_tour_h14 Q) v1 v2 v3 I L) : wpX11_tour_h14 Q v1 v2 v3 I L := Lfp.fold h
def wpX11_tour (a1 : Int32) (I : Ix) (L : Lx) (Q : Int32 → Ix → Lx → Prop) : Prop := wpX11_isPerson a1 I L (fun r3 I1 L2 => (r3 = true → wpX11_tour_h14 Q a1 0 0 I1 L2) ∧ (r3 = false → Q (-1) I1 L2))
set_option maxRecDepth 10000 in
theorem okX11_tour_l14 {G : Gx} {Q : Int32 → Ix → Lx → Prop} {P14 : Int32 → Int32 → Int32 → Ix → Lx → Prop} (hP14 : ∀ (v1 : Int32) (v2 : Int32) (v3 : Int32) (I : Ix) (L : Lx), P14 v1 v2 v3 I L → Ef G MX11_tour (qI Q) 14 [(0, .ref 0), (1, .int v1), (2, .int v2), (3, .int v3)] [] I L) {v1 : Int32} {v2 : Int32} {v3 : Int32} {I : Ix} {L : Lx} (h : wpX11_tour_l14 Q P14 v1 v2 v3 I L) : Ef G MX11_tour (qI Q) 14 [(0, .ref 0), (1, .int v1), (2, .int v2), (3, .int v3)] [] I L := by
  unfold wpX11_tour_l14 at h
  refine Ev.iload_n (k := 3) (pc' := 15) dX11_tour_14 rfl rfl rfl ?_
  refine Ev.aload_n (k := 0) (pc' := 16) dX11_tour_15 rfl rfl rfl ?_
  refine Ev.getR (pc' := 19) dX11_tour_16 rfl fa_RX11_19 ob_0 fk_11_1 rf_0_1 ?_
  refine Ev.getI (pc' := 22) dX11_tour_19 rfl fa_RX11_227 ob_3 fk_10_2 ?_
  refine Ev.icmp_ge (pc' := 25) (tgt := 57) dX11_tour_22 rfl rfl (fun hc => ?_) (fun hc => ?_)
  · have h := h.1 hc
    refine Ev.aload_n (k := 0) (pc' := 58) dX11_tour_57 rfl rfl rfl ?_
    refine Ev.getR (pc' := 61) dX11_tour_58 rfl fa_RX11_19 ob_0 fk_11_1 rf_0_1 ?_
    refine Ev.getR (pc' := 64) dX11_tour_61 rfl fa_RX11_171 ob_3 fk_10_0 rf_3_0 ?_
    refine Ev.aload_n (k := 0) (pc' := 65) dX11_tour_64 rfl rfl rfl ?_
    refine Ev.getR (pc' := 68) dX11_tour_65 rfl fa_RX11_38 ob_0 fk_11_4 rf_0_4 ?_
    refine Ev.getR (pc' := 71) dX11_tour_68 rfl fa_RX11_150 ob_53 fk_2_8 rf_53_8 ?_
    refine Ev.iload_n (k := 1) (pc' := 72) dX11_tour_71 rfl rfl rfl ?_
    refine Ev.iaload (j := _) (pc' := 73) dX11_tour_72 rfl ar_59 h.1 rfl ?_
    have h := h.2
    refine Ev.iload_n (k := 2) (pc' := 74) dX11_tour_73 rfl rfl rfl ?_
    refine Ef.callVI [.int _, .int _] [] (pc' := 77) dX11_tour_74 rfl cv_RX11_236_X1_mostNoons_4 ⟨Nat.le_of_ble_eq_true rfl, Nat.le_of_ble_eq_true rfl⟩ ob_4 rfl rfl rfl (Nat.le_of_ble_eq_true rfl) (okX1_mostNoons_4 h) (fun r3 I1 L2 h => ?_)
    exact Ef.iret dX11_tour_77 rfl h
  · have h := h.2 hc
    refine Ev.aload_n (k := 0) (pc' := 26) dX11_tour_25 rfl rfl rfl ?_
    refine Ev.getR (pc' := 29) dX11_tour_26 rfl fa_RX11_38 ob_0 fk_11_4 rf_0_4 ?_
    refine Ev.getR (pc' := 32) dX11_tour_29 rfl fa_RX11_138 ob_53 fk_2_7 rf_53_7 ?_
    refine Ev.iload_n (k := 3) (pc' := 33) dX11_tour_32 rfl rfl rfl ?_
    refine Ev.zaload (j := _) (pc' := 34) dX11_tour_33 rfl ar_58 h.1 rfl ?_
    have h := h.2
    refine Ev.if_ne (pc' := 37) (tgt := 51) dX11_tour_34 rfl rfl (fun hc => ?_) (fun hc => ?_)
    · have h := h.1 hc
      refine Ev.iinc (k := 3) (v := _) (ls' := [(3, .int _), (0, .ref _), (1, .int _), (2, .int _)]) (pc' := 54) dX11_tour_51 rfl rfl (congrArg (_ + ·) ki_1) (Nat.le_of_ble_eq_true rfl) rfl ?_
      refine Ev.goto (tgt := 14) dX11_tour_54 rfl ?_
      exact Ev.sub [1, 2, 3, 0] rfl (hP14 _ _ _ _ _ h)
    · have h := h.2 hc
      refine Ev.iload_n (k := 2) (pc' := 38) dX11_tour_37 rfl rfl rfl ?_
      refine Ev.iconst (pc' := 39) dX11_tour_38 rfl ki_1 ?_
      refine Ev.aload_n (k := 0) (pc' := 40) dX11_tour_39 rfl rfl rfl ?_
      refine Ev.getR (pc' := 43) dX11_tour_40 rfl fa_RX11_19 ob_0 fk_11_1 rf_0_1 ?_
      refine Ev.getR (pc' := 46) dX11_tour_43 rfl fa_RX11_141 ob_3 fk_10_7 rf_3_7 ?_
      refine Ev.iload_n (k := 3) (pc' := 47) dX11_tour_46 rfl rfl rfl ?_
      refine Ev.iaload (j := _) (pc' := 48) dX11_tour_47 rfl ar_16 h.1 rfl ?_
      have h := h.2
      refine Ev.ishl (pc' := 49) dX11_tour_48 rfl ?_
      refine Ev.ior (pc' := 50) dX11_tour_49 rfl ?_
      refine Ev.istore_n (ls' := [(2, .int _), (0, .ref _), (1, .int _), (3, .int _)]) (pc' := 51) dX11_tour_50 rfl rfl (Nat.le_of_ble_eq_true rfl) rfl ?_
      refine Ev.iinc (k := 3) (v := _) (ls' := [(3, .int _), (2, .int _), (0, .ref _), (1, .int _)]) (pc' := 54) dX11_tour_51 rfl rfl (congrArg (_ + ·) ki_1) (Nat.le_of_ble_eq_true rfl) rfl ?_
      refine Ev.goto (tgt := 14) dX11_tour_54 rfl ?_
      exact Ev.sub [2, 3, 1, 0] rfl (hP14 _ _ _ _ _ h)
set_option maxRecDepth 10000 in
theorem okX11_tour_h14 {G : Gx} {Q : Int32 → Ix → Lx → Prop} {v1 : Int32} {v2 : Int32} {v3 : Int32} {I : Ix} {L : Lx} (h : wpX11_tour_h14 Q v1 v2 v3 I L) : Ef G MX11_tour (qI Q) 14 [(0, .ref 0), (1, .int v1), (2, .int v2), (3, .int v3)] [] I L := by
  unfold wpX11_tour_h14 at h
  refine Lfp.ind (P := fun z => Ef G MX11_tour (qI Q) 14 [(0, .ref 0), (1, .int z.1), (2, .int z.2.1), (3, .int z.2.2.1)] [] z.2.2.2.1 z.2.2.2.2) ?_ h
  intro z P' hP' h
  obtain ⟨v1, v2, v3, I, L⟩ := z
  exact okX11_tour_l14 (fun v1 v2 v3 I L h9 => hP' (v1, v2, v3, I, L) h9) h
set_option maxRecDepth 10000 in
theorem okX11_tour {G : Gx} {a1 : Int32} {I : Ix} {L : Lx} {Q : Int32 → Ix → Lx → Prop} (h : wpX11_tour a1 I L Q) : Mf G MX11_tour [.ref 0, .int a1] I L (qI Q) := by
  unfold wpX11_tour at h
  refine Mf.of pn_RX11 (Nat.le_of_ble_eq_true rfl) ?_
  refine Ev.aload_n (k := 0) (pc' := 1) dX11_tour_0 rfl rfl rfl ?_
  refine Ev.iload_n (k := 1) (pc' := 2) dX11_tour_1 rfl rfl rfl ?_
  refine Ef.callVZ [.int _] [] (pc' := 5) dX11_tour_2 rfl cv_RX11_147_X11_isPerson ⟨Nat.le_of_ble_eq_true rfl, Nat.le_of_ble_eq_true rfl⟩ ob_0 rfl rfl rfl (Nat.le_of_ble_eq_true rfl) (okX11_isPerson h) (fun r3 I1 L2 h => ?_)
  refine Ef.ifz_ne (pc' := 8) (tgt := 10) dX11_tour_5 rfl rfl (fun hc => ?_) (fun hc => ?_)
  · have h := h.1 hc
    refine Ev.iconst (pc' := 11) dX11_tour_10 rfl ki_0 ?_
    refine Ev.istore_n (ls' := [(2, .int _), (0, .ref _), (1, .int _)]) (pc' := 12) dX11_tour_11 rfl rfl (Nat.le_of_ble_eq_true rfl) rfl ?_
    refine Ev.iconst (pc' := 13) dX11_tour_12 rfl ki_0 ?_
    refine Ev.istore_n (ls' := [(3, .int _), (2, .int _), (0, .ref _), (1, .int _)]) (pc' := 14) dX11_tour_13 rfl rfl (Nat.le_of_ble_eq_true rfl) rfl ?_
    exact Ev.sub [2, 3, 1, 0] rfl (okX11_tour_h14 h)
  · have h := h.2 hc
    refine Ev.iconst (pc' := 9) dX11_tour_8 rfl ki_m1 ?_
    exact Ef.iret dX11_tour_9 rfl h
def wpX2_ownerBehind (o0 : Nat) (a1 : Int32) (a2 : Int32) (I : Ix) (L : Lx) (Q : Int32 → Ix → Lx → Prop) : Prop := ((((a1 - 1) * 10) + a2) < 0 → Q (-1) I L) ∧ (¬ (((a1 - 1) * 10) + a2) < 0 → (600 ≤ (((a1 - 1) * 10) + a2) → Q (-1) I L) ∧ (¬ 600 ≤ (((a1 - 1) * 10) + a2) → vp_in (((a1 - 1) * 10) + a2) 600 ∧ Q (I (o0 + 8) (((a1 - 1) * 10) + a2).toNatClampNeg) I L))
set_option maxRecDepth 10000 in
theorem okX2_ownerBehind {G : Gx} {o0 : Nat} (ho0 : NowAt o0) {a1 : Int32} {a2 : Int32} {I : Ix} {L : Lx} {Q : Int32 → Ix → Lx → Prop} (h : wpX2_ownerBehind o0 a1 a2 I L Q) : Mf G MX2_ownerBehind [.ref o0, .int a1, .int a2] I L (qI Q) := by
  unfold wpX2_ownerBehind at h
  refine Mf.of pn_RX2 (Nat.le_of_ble_eq_true rfl) ?_
  refine Ev.iload_n (k := 1) (pc' := 1) dX2_ownerBehind_0 rfl rfl rfl ?_
  refine Ev.iconst (pc' := 2) dX2_ownerBehind_1 rfl ki_1 ?_
  refine Ev.isub (pc' := 3) dX2_ownerBehind_2 rfl ?_
  refine Ev.bipush (pc' := 5) dX2_ownerBehind_3 rfl kb_10 ?_
  refine Ev.imul (pc' := 6) dX2_ownerBehind_5 rfl ?_
  refine Ev.iload_n (k := 2) (pc' := 7) dX2_ownerBehind_6 rfl rfl rfl ?_
  refine Ev.iadd (pc' := 8) dX2_ownerBehind_7 rfl ?_
  refine Ev.istore_n (ls' := [(3, .int _), (0, .ref _), (1, .int _), (2, .int _)]) (pc' := 9) dX2_ownerBehind_8 rfl rfl (Nat.le_of_ble_eq_true rfl) rfl ?_
  refine Ev.iload_n (k := 0) (pc' := 10) dX2_ownerBehind_9 rfl rfl rfl ?_
  refine Ev.if_lt (pc' := 13) (tgt := 29) dX2_ownerBehind_10 rfl rfl (fun hc => ?_) (fun hc => ?_)
  · have h := h.1 hc
    refine Ev.iconst (pc' := 30) dX2_ownerBehind_29 rfl ki_m1 ?_
    exact Ef.iret dX2_ownerBehind_30 rfl h
  · have h := h.2 hc
    refine Ev.iload_n (k := 0) (pc' := 14) dX2_ownerBehind_13 rfl rfl rfl ?_
    refine Ev.sipush (pc' := 17) dX2_ownerBehind_14 rfl ks_600 ?_
    refine Ev.icmp_ge (pc' := 20) (tgt := 29) dX2_ownerBehind_17 rfl rfl (fun hc => ?_) (fun hc => ?_)
    · have h := h.1 hc
      refine Ev.iconst (pc' := 30) dX2_ownerBehind_29 rfl ki_m1 ?_
      exact Ef.iret dX2_ownerBehind_30 rfl h
    · have h := h.2 hc
      refine Ev.aload_n (k := 1) (pc' := 21) dX2_ownerBehind_20 rfl rfl rfl ?_
      refine Ev.getR (pc' := 24) dX2_ownerBehind_21 rfl fa_RX2_38 (nowOB ho0) fk_2_10 (nowR8 ho0) ?_
      refine Ev.iload_n (k := 0) (pc' := 25) dX2_ownerBehind_24 rfl rfl rfl ?_
      refine Ev.iaload (j := _) (pc' := 26) dX2_ownerBehind_25 rfl (nowA8 ho0) h.1 rfl ?_
      have h := h.2
      refine Ev.goto (tgt := 30) dX2_ownerBehind_26 rfl ?_
      exact Ef.iret dX2_ownerBehind_30 rfl h
def wpX11_since_l56 (Q : Int32 → Ix → Lx → Prop) (P56 : Int32 → Int32 → Int32 → Ix → Lx → Prop) (v1 : Int32) (v2 : Int32) (v3 : Int32) (I : Ix) (L : Lx) : Prop := (v3 < 1 → Q v2 I L) ∧ (¬ v3 < 1 → wpX2_ownerBehind 53 v3 v1 I L (fun r3 I1 L2 => vp_in v1 10 ∧ (¬ r3 = (I1 54 v1.toNatClampNeg) → Q v2 I1 L2) ∧ (r3 = (I1 54 v1.toNatClampNeg) → P56 v1 v3 (v3 + (-1)) I1 L2)))
def wpX11_since_h56 (Q : Int32 → Ix → Lx → Prop) (v1 : Int32) (v2 : Int32) (v3 : Int32) (I : Ix) (L : Lx) : Prop := Lfp (X := Int32 × Int32 × Int32 × Ix × Lx) (fun P z => wpX11_since_l56 Q (fun v1 v2 v3 I L => P (v1, v2, v3, I, L)) z.1 z.2.1 z.2.2.1 z.2.2.2.1 z.2.2.2.2) (v1, v2, v3, I, L)
theorem wpX11_since_h56_fold {Q : Int32 → Ix → Lx → Prop} {v1 : Int32} {v2 : Int32} {v3 : Int32} {I : Ix} {L : Lx} (h : wpX11_since_l56 Q (wpX11_since_h56 Q) v1 v2 v3 I L) : wpX11_since_h56 Q v1 v2 v3 I L := Lfp.fold h
def wpX11_since (a1 : Int32) (I : Ix) (L : Lx) (Q : Int32 → Ix → Lx → Prop) : Prop := wpX11_isThing a1 I L (fun r3 I1 L2 => (r3 = false → Q (-1) I1 L2) ∧ (r3 = true → vp_in a1 10 ∧ ((I1 54 a1.toNatClampNeg) = (-1) → Q (-1) I1 L2) ∧ (¬ (I1 54 a1.toNatClampNeg) = (-1) → ((I1 53 0) < 1 → Q (-1) I1 L2) ∧ (¬ (I1 53 0) < 1 → ((I1 53 0) ≤ 60 → wpX11_since_h56 Q a1 (-1) (I1 53 0) I1 L2) ∧ (¬ (I1 53 0) ≤ 60 → Q (-1) I1 L2)))))
set_option maxRecDepth 10000 in
theorem okX11_since_l56 {G : Gx} {Q : Int32 → Ix → Lx → Prop} {P56 : Int32 → Int32 → Int32 → Ix → Lx → Prop} (hP56 : ∀ (v1 : Int32) (v2 : Int32) (v3 : Int32) (I : Ix) (L : Lx), P56 v1 v2 v3 I L → Ef G MX11_since (qI Q) 56 [(0, .ref 0), (1, .int v1), (2, .int v2), (3, .int v3)] [] I L) {v1 : Int32} {v2 : Int32} {v3 : Int32} {I : Ix} {L : Lx} (h : wpX11_since_l56 Q P56 v1 v2 v3 I L) : Ef G MX11_since (qI Q) 56 [(0, .ref 0), (1, .int v1), (2, .int v2), (3, .int v3)] [] I L := by
  unfold wpX11_since_l56 at h
  refine Ev.iload_n (k := 3) (pc' := 57) dX11_since_56 rfl rfl rfl ?_
  refine Ev.iconst (pc' := 58) dX11_since_57 rfl ki_1 ?_
  refine Ev.icmp_lt (pc' := 61) (tgt := 90) dX11_since_58 rfl rfl (fun hc => ?_) (fun hc => ?_)
  · have h := h.1 hc
    refine Ev.iload_n (k := 2) (pc' := 91) dX11_since_90 rfl rfl rfl ?_
    exact Ef.iret dX11_since_91 rfl h
  · have h := h.2 hc
    refine Ev.aload_n (k := 0) (pc' := 62) dX11_since_61 rfl rfl rfl ?_
    refine Ev.getR (pc' := 65) dX11_since_62 rfl fa_RX11_38 ob_0 fk_11_4 rf_0_4 ?_
    refine Ev.iload_n (k := 3) (pc' := 66) dX11_since_65 rfl rfl rfl ?_
    refine Ev.iload_n (k := 1) (pc' := 67) dX11_since_66 rfl rfl rfl ?_
    refine Ef.callVI [.int _, .int _] [] (pc' := 70) dX11_since_67 rfl cv_RX11_239_X2_ownerBehind ⟨Nat.le_of_ble_eq_true rfl, Nat.le_of_ble_eq_true rfl⟩ ob_53 rfl rfl rfl (Nat.le_of_ble_eq_true rfl) (okX2_ownerBehind nowAt_53 h) (fun r3 I1 L2 h => ?_)
    refine Ev.aload_n (k := 0) (pc' := 71) dX11_since_70 rfl rfl rfl ?_
    refine Ev.getR (pc' := 74) dX11_since_71 rfl fa_RX11_38 ob_0 fk_11_4 rf_0_4 ?_
    refine Ev.getR (pc' := 77) dX11_since_74 rfl fa_RX11_128 ob_53 fk_2_3 rf_53_3 ?_
    refine Ev.iload_n (k := 1) (pc' := 78) dX11_since_77 rfl rfl rfl ?_
    refine Ev.iaload (j := _) (pc' := 79) dX11_since_78 rfl ar_54 h.1 rfl ?_
    have h := h.2
    refine Ev.icmp_ne (pc' := 82) (tgt := 90) dX11_since_79 rfl rfl (fun hc => ?_) (fun hc => ?_)
    · have h := h.1 hc
      refine Ev.iload_n (k := 2) (pc' := 91) dX11_since_90 rfl rfl rfl ?_
      exact Ef.iret dX11_since_91 rfl h
    · have h := h.2 hc
      refine Ev.iload_n (k := 3) (pc' := 83) dX11_since_82 rfl rfl rfl ?_
      refine Ev.istore_n (ls' := [(2, .int _), (0, .ref _), (1, .int _), (3, .int _)]) (pc' := 84) dX11_since_83 rfl rfl (Nat.le_of_ble_eq_true rfl) rfl ?_
      refine Ev.iinc (k := 3) (v := _) (ls' := [(3, .int _), (2, .int _), (0, .ref _), (1, .int _)]) (pc' := 87) dX11_since_84 rfl rfl (congrArg (_ + ·) ki_m1) (Nat.le_of_ble_eq_true rfl) rfl ?_
      refine Ev.goto (tgt := 56) dX11_since_87 rfl ?_
      exact Ev.sub [2, 3, 1, 0] rfl (hP56 _ _ _ _ _ h)
set_option maxRecDepth 10000 in
theorem okX11_since_h56 {G : Gx} {Q : Int32 → Ix → Lx → Prop} {v1 : Int32} {v2 : Int32} {v3 : Int32} {I : Ix} {L : Lx} (h : wpX11_since_h56 Q v1 v2 v3 I L) : Ef G MX11_since (qI Q) 56 [(0, .ref 0), (1, .int v1), (2, .int v2), (3, .int v3)] [] I L := by
  unfold wpX11_since_h56 at h
  refine Lfp.ind (P := fun z => Ef G MX11_since (qI Q) 56 [(0, .ref 0), (1, .int z.1), (2, .int z.2.1), (3, .int z.2.2.1)] [] z.2.2.2.1 z.2.2.2.2) ?_ h
  intro z P' hP' h
  obtain ⟨v1, v2, v3, I, L⟩ := z
  exact okX11_since_l56 (fun v1 v2 v3 I L h9 => hP' (v1, v2, v3, I, L) h9) h
set_option maxRecDepth 10000 in
theorem okX11_since {G : Gx} {a1 : Int32} {I : Ix} {L : Lx} {Q : Int32 → Ix → Lx → Prop} (h : wpX11_since a1 I L Q) : Mf G MX11_since [.ref 0, .int a1] I L (qI Q) := by
  unfold wpX11_since at h
  refine Mf.of pn_RX11 (Nat.le_of_ble_eq_true rfl) ?_
  refine Ev.aload_n (k := 0) (pc' := 1) dX11_since_0 rfl rfl rfl ?_
  refine Ev.iload_n (k := 1) (pc' := 2) dX11_since_1 rfl rfl rfl ?_
  refine Ef.callVZ [.int _] [] (pc' := 5) dX11_since_2 rfl cv_RX11_124_X11_isThing ⟨Nat.le_of_ble_eq_true rfl, Nat.le_of_ble_eq_true rfl⟩ ob_0 rfl rfl rfl (Nat.le_of_ble_eq_true rfl) (okX11_isThing h) (fun r3 I1 L2 h => ?_)
  refine Ef.ifz_eq (pc' := 8) (tgt := 44) dX11_since_5 rfl rfl (fun hc => ?_) (fun hc => ?_)
  · have h := h.1 hc
    refine Ev.iconst (pc' := 45) dX11_since_44 rfl ki_m1 ?_
    exact Ef.iret dX11_since_45 rfl h
  · have h := h.2 hc
    refine Ev.aload_n (k := 0) (pc' := 9) dX11_since_8 rfl rfl rfl ?_
    refine Ev.getR (pc' := 12) dX11_since_9 rfl fa_RX11_38 ob_0 fk_11_4 rf_0_4 ?_
    refine Ev.getR (pc' := 15) dX11_since_12 rfl fa_RX11_128 ob_53 fk_2_3 rf_53_3 ?_
    refine Ev.iload_n (k := 1) (pc' := 16) dX11_since_15 rfl rfl rfl ?_
    refine Ev.iaload (j := _) (pc' := 17) dX11_since_16 rfl ar_54 h.1 rfl ?_
    have h := h.2
    refine Ev.iconst (pc' := 18) dX11_since_17 rfl ki_m1 ?_
    refine Ev.icmp_eq (pc' := 21) (tgt := 44) dX11_since_18 rfl rfl (fun hc => ?_) (fun hc => ?_)
    · have h := h.1 hc
      refine Ev.iconst (pc' := 45) dX11_since_44 rfl ki_m1 ?_
      exact Ef.iret dX11_since_45 rfl h
    · have h := h.2 hc
      refine Ev.aload_n (k := 0) (pc' := 22) dX11_since_21 rfl rfl rfl ?_
      refine Ev.getR (pc' := 25) dX11_since_22 rfl fa_RX11_38 ob_0 fk_11_4 rf_0_4 ?_
      refine Ev.getI (pc' := 28) dX11_since_25 rfl fa_RX11_114 ob_53 fk_2_0 ?_
      refine Ev.iconst (pc' := 29) dX11_since_28 rfl ki_1 ?_
      refine Ev.icmp_lt (pc' := 32) (tgt := 44) dX11_since_29 rfl rfl (fun hc => ?_) (fun hc => ?_)
      · have h := h.1 hc
        refine Ev.iconst (pc' := 45) dX11_since_44 rfl ki_m1 ?_
        exact Ef.iret dX11_since_45 rfl h
      · have h := h.2 hc
        refine Ev.aload_n (k := 0) (pc' := 33) dX11_since_32 rfl rfl rfl ?_
        refine Ev.getR (pc' := 36) dX11_since_33 rfl fa_RX11_38 ob_0 fk_11_4 rf_0_4 ?_
        refine Ev.getI (pc' := 39) dX11_since_36 rfl fa_RX11_114 ob_53 fk_2_0 ?_
        refine Ev.bipush (pc' := 41) dX11_since_39 rfl kb_60 ?_
        refine Ev.icmp_le (pc' := 44) (tgt := 46) dX11_since_41 rfl rfl (fun hc => ?_) (fun hc => ?_)
        · have h := h.1 hc
          refine Ev.iconst (pc' := 47) dX11_since_46 rfl ki_m1 ?_
          refine Ev.istore_n (ls' := [(2, .int _), (0, .ref _), (1, .int _)]) (pc' := 48) dX11_since_47 rfl rfl (Nat.le_of_ble_eq_true rfl) rfl ?_
          refine Ev.aload_n (k := 1) (pc' := 49) dX11_since_48 rfl rfl rfl ?_
          refine Ev.getR (pc' := 52) dX11_since_49 rfl fa_RX11_38 ob_0 fk_11_4 rf_0_4 ?_
          refine Ev.getI (pc' := 55) dX11_since_52 rfl fa_RX11_114 ob_53 fk_2_0 ?_
          refine Ev.istore_n (ls' := [(3, .int _), (2, .int _), (0, .ref _), (1, .int _)]) (pc' := 56) dX11_since_55 rfl rfl (Nat.le_of_ble_eq_true rfl) rfl ?_
          exact Ev.sub [2, 3, 1, 0] rfl (okX11_since_h56 h)
        · have h := h.2 hc
          refine Ev.iconst (pc' := 45) dX11_since_44 rfl ki_m1 ?_
          exact Ef.iret dX11_since_45 rfl h
def wpX6_add (a1 : Int32) (a2 : Int32) (a3 : Int32) (a4 : Int32) (I : Ix) (L : Lx) (Q : Int32 → Ix → Lx → Prop) : Prop := ((I 85 0) < 40 → vp_in (I 85 0) 40 ∧ ∀ I1 : Ix, I1 = pu I 86 (I 85 0).toNatClampNeg a1 → vp_in (I1 85 0) 40 ∧ ∀ I2 : Ix, I2 = pu I1 87 (I1 85 0).toNatClampNeg a2 → vp_in (I2 85 0) 40 ∧ ∀ I3 : Ix, I3 = pu I2 88 (I2 85 0).toNatClampNeg a3 → vp_in (I3 85 0) 40 ∧ ∀ I4 : Ix, I4 = pu I3 89 (I3 85 0).toNatClampNeg a4 → vp_in (I4 85 0) 40 ∧ ∀ I5 : Ix, I5 = pu I4 90 (I4 85 0).toNatClampNeg (-1) → ∀ I6 : Ix, I6 = pu I5 85 0 ((I5 85 0) + 1) → Q ((I6 85 0) - 1) I6 L) ∧ (¬ (I 85 0) < 40 → Q (-1) I L)
set_option maxRecDepth 10000 in
theorem okX6_add {G : Gx} {a1 : Int32} {a2 : Int32} {a3 : Int32} {a4 : Int32} {I : Ix} {L : Lx} {Q : Int32 → Ix → Lx → Prop} (h : wpX6_add a1 a2 a3 a4 I L Q) : Mf G MX6_add [.ref 85, .int a1, .int a2, .int a3, .int a4] I L (qI Q) := by
  unfold wpX6_add at h
  refine Mf.of pn_RX6 (Nat.le_of_ble_eq_true rfl) ?_
  refine Ev.aload_n (k := 0) (pc' := 1) dX6_add_0 rfl rfl rfl ?_
  refine Ev.getI (pc' := 4) dX6_add_1 rfl fa_RX6_27 ob_85 fk_6_0 ?_
  refine Ev.bipush (pc' := 6) dX6_add_4 rfl kb_40 ?_
  refine Ev.icmp_lt (pc' := 9) (tgt := 11) dX6_add_6 rfl rfl (fun hc => ?_) (fun hc => ?_)
  · have h := h.1 hc
    refine Ev.aload_n (k := 0) (pc' := 12) dX6_add_11 rfl rfl rfl ?_
    refine Ev.getR (pc' := 15) dX6_add_12 rfl fa_RX6_9 ob_85 fk_6_1 rf_85_1 ?_
    refine Ev.aload_n (k := 0) (pc' := 16) dX6_add_15 rfl rfl rfl ?_
    refine Ev.getI (pc' := 19) dX6_add_16 rfl fa_RX6_27 ob_85 fk_6_0 ?_
    refine Ev.iload_n (k := 1) (pc' := 20) dX6_add_19 rfl rfl rfl ?_
    refine Ev.iastore (j := _) (pc' := 21) dX6_add_20 rfl ar_86 h.1 rfl (fun I1 eI1 => ?_)
    have h := h.2 I1 eI1
    refine Ev.aload_n (k := 0) (pc' := 22) dX6_add_21 rfl rfl rfl ?_
    refine Ev.getR (pc' := 25) dX6_add_22 rfl fa_RX6_15 ob_85 fk_6_2 rf_85_2 ?_
    refine Ev.aload_n (k := 0) (pc' := 26) dX6_add_25 rfl rfl rfl ?_
    refine Ev.getI (pc' := 29) dX6_add_26 rfl fa_RX6_27 ob_85 fk_6_0 ?_
    refine Ev.iload_n (k := 2) (pc' := 30) dX6_add_29 rfl rfl rfl ?_
    refine Ev.iastore (j := _) (pc' := 31) dX6_add_30 rfl ar_87 h.1 rfl (fun I2 eI2 => ?_)
    have h := h.2 I2 eI2
    refine Ev.aload_n (k := 0) (pc' := 32) dX6_add_31 rfl rfl rfl ?_
    refine Ev.getR (pc' := 35) dX6_add_32 rfl fa_RX6_18 ob_85 fk_6_3 rf_85_3 ?_
    refine Ev.aload_n (k := 0) (pc' := 36) dX6_add_35 rfl rfl rfl ?_
    refine Ev.getI (pc' := 39) dX6_add_36 rfl fa_RX6_27 ob_85 fk_6_0 ?_
    refine Ev.iload_n (k := 3) (pc' := 40) dX6_add_39 rfl rfl rfl ?_
    refine Ev.iastore (j := _) (pc' := 41) dX6_add_40 rfl ar_88 h.1 rfl (fun I3 eI3 => ?_)
    have h := h.2 I3 eI3
    refine Ev.aload_n (k := 0) (pc' := 42) dX6_add_41 rfl rfl rfl ?_
    refine Ev.getR (pc' := 45) dX6_add_42 rfl fa_RX6_21 ob_85 fk_6_4 rf_85_4 ?_
    refine Ev.aload_n (k := 0) (pc' := 46) dX6_add_45 rfl rfl rfl ?_
    refine Ev.getI (pc' := 49) dX6_add_46 rfl fa_RX6_27 ob_85 fk_6_0 ?_
    refine Ev.iload (k := 4) (pc' := 51) dX6_add_49 rfl rfl ?_
    refine Ev.iastore (j := _) (pc' := 52) dX6_add_51 rfl ar_89 h.1 rfl (fun I4 eI4 => ?_)
    have h := h.2 I4 eI4
    refine Ev.aload_n (k := 0) (pc' := 53) dX6_add_52 rfl rfl rfl ?_
    refine Ev.getR (pc' := 56) dX6_add_53 rfl fa_RX6_24 ob_85 fk_6_5 rf_85_5 ?_
    refine Ev.aload_n (k := 0) (pc' := 57) dX6_add_56 rfl rfl rfl ?_
    refine Ev.getI (pc' := 60) dX6_add_57 rfl fa_RX6_27 ob_85 fk_6_0 ?_
    refine Ev.iconst (pc' := 61) dX6_add_60 rfl ki_m1 ?_
    refine Ev.iastore (j := _) (pc' := 62) dX6_add_61 rfl ar_90 h.1 rfl (fun I5 eI5 => ?_)
    have h := h.2 I5 eI5
    refine Ev.aload_n (k := 0) (pc' := 63) dX6_add_62 rfl rfl rfl ?_
    refine Ev.dup (pc' := 64) dX6_add_63 rfl rfl ?_
    refine Ev.getI (pc' := 67) dX6_add_64 rfl fa_RX6_27 ob_85 fk_6_0 ?_
    refine Ev.iconst (pc' := 68) dX6_add_67 rfl ki_1 ?_
    refine Ev.iadd (pc' := 69) dX6_add_68 rfl ?_
    refine Ev.putI (pc' := 72) dX6_add_69 rfl fa_RX6_27 ob_85 fk_6_0 rfl rfl (fun I6 eI6 => ?_)
    have h := h I6 eI6
    refine Ev.aload_n (k := 0) (pc' := 73) dX6_add_72 rfl rfl rfl ?_
    refine Ev.getI (pc' := 76) dX6_add_73 rfl fa_RX6_27 ob_85 fk_6_0 ?_
    refine Ev.iconst (pc' := 77) dX6_add_76 rfl ki_1 ?_
    refine Ev.isub (pc' := 78) dX6_add_77 rfl ?_
    exact Ef.iret dX6_add_78 rfl h
  · have h := h.2 hc
    refine Ev.iconst (pc' := 10) dX6_add_9 rfl ki_m1 ?_
    exact Ef.iret dX6_add_10 rfl h
def wpX11_tale (a1 : Int32) (a2 : Int32) (a3 : Int32) (I : Ix) (L : Lx) (Q : Int32 → Ix → Lx → Prop) : Prop := (a1 < 1 → Q (-1) I L) ∧ (¬ a1 < 1 → (60 < a1 → Q (-1) I L) ∧ (¬ 60 < a1 → wpX11_isThing a2 I L (fun r3 I1 L2 => (r3 = false → Q (-1) I1 L2) ∧ (r3 = true → wpX11_isPersonOrNobody a3 I1 L2 (fun r6 I4 L5 => (r6 = true → wpX6_add a1 a2 a3 (I4 0 11) I4 L5 (fun r9 I7 L8 => Q r9 I7 L8)) ∧ (r6 = false → Q (-1) I4 L5))))))
set_option maxRecDepth 10000 in
theorem okX11_tale {G : Gx} {a1 : Int32} {a2 : Int32} {a3 : Int32} {I : Ix} {L : Lx} {Q : Int32 → Ix → Lx → Prop} (h : wpX11_tale a1 a2 a3 I L Q) : Mf G MX11_tale [.ref 0, .int a1, .int a2, .int a3] I L (qI Q) := by
  unfold wpX11_tale at h
  refine Mf.of pn_RX11 (Nat.le_of_ble_eq_true rfl) ?_
  refine Ev.iload_n (k := 1) (pc' := 1) dX11_tale_0 rfl rfl rfl ?_
  refine Ev.iconst (pc' := 2) dX11_tale_1 rfl ki_1 ?_
  refine Ev.icmp_lt (pc' := 5) (tgt := 27) dX11_tale_2 rfl rfl (fun hc => ?_) (fun hc => ?_)
  · have h := h.1 hc
    refine Ev.iconst (pc' := 28) dX11_tale_27 rfl ki_m1 ?_
    exact Ef.iret dX11_tale_28 rfl h
  · have h := h.2 hc
    refine Ev.iload_n (k := 1) (pc' := 6) dX11_tale_5 rfl rfl rfl ?_
    refine Ev.bipush (pc' := 8) dX11_tale_6 rfl kb_60 ?_
    refine Ev.icmp_gt (pc' := 11) (tgt := 27) dX11_tale_8 rfl rfl (fun hc => ?_) (fun hc => ?_)
    · have h := h.1 hc
      refine Ev.iconst (pc' := 28) dX11_tale_27 rfl ki_m1 ?_
      exact Ef.iret dX11_tale_28 rfl h
    · have h := h.2 hc
      refine Ev.aload_n (k := 0) (pc' := 12) dX11_tale_11 rfl rfl rfl ?_
      refine Ev.iload_n (k := 2) (pc' := 13) dX11_tale_12 rfl rfl rfl ?_
      refine Ef.callVZ [.int _] [] (pc' := 16) dX11_tale_13 rfl cv_RX11_124_X11_isThing ⟨Nat.le_of_ble_eq_true rfl, Nat.le_of_ble_eq_true rfl⟩ ob_0 rfl rfl rfl (Nat.le_of_ble_eq_true rfl) (okX11_isThing h) (fun r3 I1 L2 h => ?_)
      refine Ef.ifz_eq (pc' := 19) (tgt := 27) dX11_tale_16 rfl rfl (fun hc => ?_) (fun hc => ?_)
      · have h := h.1 hc
        refine Ev.iconst (pc' := 28) dX11_tale_27 rfl ki_m1 ?_
        exact Ef.iret dX11_tale_28 rfl h
      · have h := h.2 hc
        refine Ev.aload_n (k := 0) (pc' := 20) dX11_tale_19 rfl rfl rfl ?_
        refine Ev.iload_n (k := 3) (pc' := 21) dX11_tale_20 rfl rfl rfl ?_
        refine Ef.callVZ [.int _] [] (pc' := 24) dX11_tale_21 rfl cv_RX11_181_X11_isPersonOrNobody ⟨Nat.le_of_ble_eq_true rfl, Nat.le_of_ble_eq_true rfl⟩ ob_0 rfl rfl rfl (Nat.le_of_ble_eq_true rfl) (okX11_isPersonOrNobody h) (fun r6 I4 L5 h => ?_)
        refine Ef.ifz_ne (pc' := 27) (tgt := 29) dX11_tale_24 rfl rfl (fun hc => ?_) (fun hc => ?_)
        · have h := h.1 hc
          refine Ev.aload_n (k := 0) (pc' := 30) dX11_tale_29 rfl rfl rfl ?_
          refine Ev.getR (pc' := 33) dX11_tale_30 rfl fa_RX11_72 ob_0 fk_11_8 rf_0_8 ?_
          refine Ev.iload_n (k := 1) (pc' := 34) dX11_tale_33 rfl rfl rfl ?_
          refine Ev.iload_n (k := 2) (pc' := 35) dX11_tale_34 rfl rfl rfl ?_
          refine Ev.iload_n (k := 3) (pc' := 36) dX11_tale_35 rfl rfl rfl ?_
          refine Ev.aload_n (k := 0) (pc' := 37) dX11_tale_36 rfl rfl rfl ?_
          refine Ev.getI (pc' := 40) dX11_tale_37 rfl fa_RX11_242 ob_0 fk_11_11 ?_
          refine Ef.callVI [.int _, .int _, .int _, .int _] [] (pc' := 43) dX11_tale_40 rfl cv_RX11_245_X6_add ⟨Nat.le_of_ble_eq_true rfl, Nat.le_of_ble_eq_true rfl⟩ ob_85 rfl rfl rfl (Nat.le_of_ble_eq_true rfl) (okX6_add h) (fun r9 I7 L8 h => ?_)
          exact Ef.iret dX11_tale_43 rfl h
        · have h := h.2 hc
          refine Ev.iconst (pc' := 28) dX11_tale_27 rfl ki_m1 ?_
          exact Ef.iret dX11_tale_28 rfl h
def wpX6_takeBack (a1 : Int32) (a2 : Int32) (I : Ix) (L : Lx) (Q : Bool → Ix → Lx → Prop) : Prop := (a1 < 0 → Q false I L) ∧ (¬ a1 < 0 → ((I 85 0) ≤ a1 → Q false I L) ∧ (¬ (I 85 0) ≤ a1 → vp_in a1 40 ∧ ((I 90 a1.toNatClampNeg) = (-1) → vp_in a1 40 ∧ ∀ I1 : Ix, I1 = pu I 90 a1.toNatClampNeg a2 → Q true I1 L) ∧ (¬ (I 90 a1.toNatClampNeg) = (-1) → Q false I L)))
set_option maxRecDepth 10000 in
theorem okX6_takeBack {G : Gx} {a1 : Int32} {a2 : Int32} {I : Ix} {L : Lx} {Q : Bool → Ix → Lx → Prop} (h : wpX6_takeBack a1 a2 I L Q) : Mf G MX6_takeBack [.ref 85, .int a1, .int a2] I L (qZ Q) := by
  unfold wpX6_takeBack at h
  refine Mf.of pn_RX6 (Nat.le_of_ble_eq_true rfl) ?_
  refine Ev.iload_n (k := 1) (pc' := 1) dX6_takeBack_0 rfl rfl rfl ?_
  refine Ev.if_lt (pc' := 4) (tgt := 22) dX6_takeBack_1 rfl rfl (fun hc => ?_) (fun hc => ?_)
  · have h := h.1 hc
    refine Ev.iconst (pc' := 23) dX6_takeBack_22 rfl ki_0 ?_
    exact Ef.zret (b := false) dX6_takeBack_23 rfl h
  · have h := h.2 hc
    refine Ev.iload_n (k := 1) (pc' := 5) dX6_takeBack_4 rfl rfl rfl ?_
    refine Ev.aload_n (k := 0) (pc' := 6) dX6_takeBack_5 rfl rfl rfl ?_
    refine Ev.getI (pc' := 9) dX6_takeBack_6 rfl fa_RX6_27 ob_85 fk_6_0 ?_
    refine Ev.icmp_ge (pc' := 12) (tgt := 22) dX6_takeBack_9 rfl rfl (fun hc => ?_) (fun hc => ?_)
    · have h := h.1 hc
      refine Ev.iconst (pc' := 23) dX6_takeBack_22 rfl ki_0 ?_
      exact Ef.zret (b := false) dX6_takeBack_23 rfl h
    · have h := h.2 hc
      refine Ev.aload_n (k := 0) (pc' := 13) dX6_takeBack_12 rfl rfl rfl ?_
      refine Ev.getR (pc' := 16) dX6_takeBack_13 rfl fa_RX6_24 ob_85 fk_6_5 rf_85_5 ?_
      refine Ev.iload_n (k := 1) (pc' := 17) dX6_takeBack_16 rfl rfl rfl ?_
      refine Ev.iaload (j := _) (pc' := 18) dX6_takeBack_17 rfl ar_90 h.1 rfl ?_
      have h := h.2
      refine Ev.iconst (pc' := 19) dX6_takeBack_18 rfl ki_m1 ?_
      refine Ev.icmp_eq (pc' := 22) (tgt := 24) dX6_takeBack_19 rfl rfl (fun hc => ?_) (fun hc => ?_)
      · have h := h.1 hc
        refine Ev.aload_n (k := 0) (pc' := 25) dX6_takeBack_24 rfl rfl rfl ?_
        refine Ev.getR (pc' := 28) dX6_takeBack_25 rfl fa_RX6_24 ob_85 fk_6_5 rf_85_5 ?_
        refine Ev.iload_n (k := 1) (pc' := 29) dX6_takeBack_28 rfl rfl rfl ?_
        refine Ev.iload_n (k := 2) (pc' := 30) dX6_takeBack_29 rfl rfl rfl ?_
        refine Ev.iastore (j := _) (pc' := 31) dX6_takeBack_30 rfl ar_90 h.1 rfl (fun I1 eI1 => ?_)
        have h := h.2 I1 eI1
        refine Ev.iconst (pc' := 32) dX6_takeBack_31 rfl ki_1 ?_
        exact Ef.zret (b := true) dX6_takeBack_32 rfl h
      · have h := h.2 hc
        refine Ev.iconst (pc' := 23) dX6_takeBack_22 rfl ki_0 ?_
        exact Ef.zret (b := false) dX6_takeBack_23 rfl h
def wpX11_untell (a1 : Int32) (I : Ix) (L : Lx) (Q : Bool → Ix → Lx → Prop) : Prop := wpX6_takeBack a1 (I 0 11) I L (fun r3 I1 L2 => Q r3 I1 L2)
set_option maxRecDepth 10000 in
theorem okX11_untell {G : Gx} {a1 : Int32} {I : Ix} {L : Lx} {Q : Bool → Ix → Lx → Prop} (h : wpX11_untell a1 I L Q) : Mf G MX11_untell [.ref 0, .int a1] I L (qZ Q) := by
  unfold wpX11_untell at h
  refine Mf.of pn_RX11 (Nat.le_of_ble_eq_true rfl) ?_
  refine Ev.aload_n (k := 0) (pc' := 1) dX11_untell_0 rfl rfl rfl ?_
  refine Ev.getR (pc' := 4) dX11_untell_1 rfl fa_RX11_72 ob_0 fk_11_8 rf_0_8 ?_
  refine Ev.iload_n (k := 1) (pc' := 5) dX11_untell_4 rfl rfl rfl ?_
  refine Ev.aload_n (k := 0) (pc' := 6) dX11_untell_5 rfl rfl rfl ?_
  refine Ev.getI (pc' := 9) dX11_untell_6 rfl fa_RX11_242 ob_0 fk_11_11 ?_
  refine Ef.callVZ [.int _, .int _] [] (pc' := 12) dX11_untell_9 rfl cv_RX11_248_X6_takeBack ⟨Nat.le_of_ble_eq_true rfl, Nat.le_of_ble_eq_true rfl⟩ ob_85 rfl rfl rfl (Nat.le_of_ble_eq_true rfl) (okX6_takeBack h) (fun r3 I1 L2 h => ?_)
  exact Ef.zret dX11_untell_12 rfl h
def wpX11_later (a1 : Int32) (I : Ix) (L : Lx) (Q : Int32 → Ix → Lx → Prop) : Prop := (a1 < 0 → Q (-1) I L) ∧ (¬ a1 < 0 → (1000 < a1 → Q (-1) I L) ∧ (¬ 1000 < a1 → (((I 0 11) + a1) ≤ 100000 → ∀ I1 : Ix, I1 = pu I 0 11 ((I 0 11) + a1) → Q (I1 0 11) I1 L) ∧ (¬ ((I 0 11) + a1) ≤ 100000 → Q (-1) I L)))
set_option maxRecDepth 10000 in
theorem okX11_later {G : Gx} {a1 : Int32} {I : Ix} {L : Lx} {Q : Int32 → Ix → Lx → Prop} (h : wpX11_later a1 I L Q) : Mf G MX11_later [.ref 0, .int a1] I L (qI Q) := by
  unfold wpX11_later at h
  refine Mf.of pn_RX11 (Nat.le_of_ble_eq_true rfl) ?_
  refine Ev.iload_n (k := 1) (pc' := 1) dX11_later_0 rfl rfl rfl ?_
  refine Ev.if_lt (pc' := 4) (tgt := 22) dX11_later_1 rfl rfl (fun hc => ?_) (fun hc => ?_)
  · have h := h.1 hc
    refine Ev.iconst (pc' := 23) dX11_later_22 rfl ki_m1 ?_
    exact Ef.iret dX11_later_23 rfl h
  · have h := h.2 hc
    refine Ev.iload_n (k := 1) (pc' := 5) dX11_later_4 rfl rfl rfl ?_
    refine Ev.sipush (pc' := 8) dX11_later_5 rfl ks_1000 ?_
    refine Ev.icmp_gt (pc' := 11) (tgt := 22) dX11_later_8 rfl rfl (fun hc => ?_) (fun hc => ?_)
    · have h := h.1 hc
      refine Ev.iconst (pc' := 23) dX11_later_22 rfl ki_m1 ?_
      exact Ef.iret dX11_later_23 rfl h
    · have h := h.2 hc
      refine Ev.aload_n (k := 0) (pc' := 12) dX11_later_11 rfl rfl rfl ?_
      refine Ev.getI (pc' := 15) dX11_later_12 rfl fa_RX11_242 ob_0 fk_11_11 ?_
      refine Ev.iload_n (k := 1) (pc' := 16) dX11_later_15 rfl rfl rfl ?_
      refine Ev.iadd (pc' := 17) dX11_later_16 rfl ?_
      refine Ev.ldc (pc' := 19) dX11_later_17 rfl lc_RX11_252 ?_
      refine Ev.icmp_le (pc' := 22) (tgt := 24) dX11_later_19 rfl rfl (fun hc => ?_) (fun hc => ?_)
      · have h := h.1 hc
        refine Ev.aload_n (k := 0) (pc' := 25) dX11_later_24 rfl rfl rfl ?_
        refine Ev.dup (pc' := 26) dX11_later_25 rfl rfl ?_
        refine Ev.getI (pc' := 29) dX11_later_26 rfl fa_RX11_242 ob_0 fk_11_11 ?_
        refine Ev.iload_n (k := 1) (pc' := 30) dX11_later_29 rfl rfl rfl ?_
        refine Ev.iadd (pc' := 31) dX11_later_30 rfl ?_
        refine Ev.putI (pc' := 34) dX11_later_31 rfl fa_RX11_242 ob_0 fk_11_11 rfl rfl (fun I1 eI1 => ?_)
        have h := h I1 eI1
        refine Ev.aload_n (k := 0) (pc' := 35) dX11_later_34 rfl rfl rfl ?_
        refine Ev.getI (pc' := 38) dX11_later_35 rfl fa_RX11_242 ob_0 fk_11_11 ?_
        exact Ef.iret dX11_later_38 rfl h
      · have h := h.2 hc
        refine Ev.iconst (pc' := 23) dX11_later_22 rfl ki_m1 ?_
        exact Ef.iret dX11_later_23 rfl h
def wpX6_counts_b30 (Q : Bool → Ix → Lx → Prop) (I : Ix) (L : Lx) : Prop := Q true I L
def wpX6_counts (a1 : Int32) (a2 : Int32) (I : Ix) (L : Lx) (Q : Bool → Ix → Lx → Prop) : Prop := vp_in a1 40 ∧ (a2 < (I 89 a1.toNatClampNeg) → Q false I L) ∧ (¬ a2 < (I 89 a1.toNatClampNeg) → vp_in a1 40 ∧ ((I 90 a1.toNatClampNeg) = (-1) → wpX6_counts_b30 Q I L) ∧ (¬ (I 90 a1.toNatClampNeg) = (-1) → vp_in a1 40 ∧ ((I 90 a1.toNatClampNeg) ≤ a2 → Q false I L) ∧ (¬ (I 90 a1.toNatClampNeg) ≤ a2 → wpX6_counts_b30 Q I L)))
set_option maxRecDepth 10000 in
theorem okX6_counts_b30 {G : Gx} {Q : Bool → Ix → Lx → Prop} {I : Ix} {L : Lx} (h : wpX6_counts_b30 Q I L) : Ef G MX6_counts (qZ Q) 30 [] [] I L := by
  unfold wpX6_counts_b30 at h
  refine Ev.iconst (pc' := 31) dX6_counts_30 rfl ki_1 ?_
  refine Ev.goto (tgt := 35) dX6_counts_31 rfl ?_
  exact Ef.zret (b := true) dX6_counts_35 rfl h
set_option maxRecDepth 10000 in
theorem okX6_counts {G : Gx} {a1 : Int32} {a2 : Int32} {I : Ix} {L : Lx} {Q : Bool → Ix → Lx → Prop} (h : wpX6_counts a1 a2 I L Q) : Mf G MX6_counts [.ref 85, .int a1, .int a2] I L (qZ Q) := by
  unfold wpX6_counts at h
  refine Mf.of pn_RX6 (Nat.le_of_ble_eq_true rfl) ?_
  refine Ev.aload_n (k := 0) (pc' := 1) dX6_counts_0 rfl rfl rfl ?_
  refine Ev.getR (pc' := 4) dX6_counts_1 rfl fa_RX6_21 ob_85 fk_6_4 rf_85_4 ?_
  refine Ev.iload_n (k := 1) (pc' := 5) dX6_counts_4 rfl rfl rfl ?_
  refine Ev.iaload (j := _) (pc' := 6) dX6_counts_5 rfl ar_89 h.1 rfl ?_
  have h := h.2
  refine Ev.iload_n (k := 2) (pc' := 7) dX6_counts_6 rfl rfl rfl ?_
  refine Ev.icmp_gt (pc' := 10) (tgt := 34) dX6_counts_7 rfl rfl (fun hc => ?_) (fun hc => ?_)
  · have h := h.1 hc
    refine Ev.iconst (pc' := 35) dX6_counts_34 rfl ki_0 ?_
    exact Ef.zret (b := false) dX6_counts_35 rfl h
  · have h := h.2 hc
    refine Ev.aload_n (k := 0) (pc' := 11) dX6_counts_10 rfl rfl rfl ?_
    refine Ev.getR (pc' := 14) dX6_counts_11 rfl fa_RX6_24 ob_85 fk_6_5 rf_85_5 ?_
    refine Ev.iload_n (k := 1) (pc' := 15) dX6_counts_14 rfl rfl rfl ?_
    refine Ev.iaload (j := _) (pc' := 16) dX6_counts_15 rfl ar_90 h.1 rfl ?_
    have h := h.2
    refine Ev.iconst (pc' := 17) dX6_counts_16 rfl ki_m1 ?_
    refine Ev.icmp_eq (pc' := 20) (tgt := 30) dX6_counts_17 rfl rfl (fun hc => ?_) (fun hc => ?_)
    · have h := h.1 hc
      exact Ev.sub [] rfl (okX6_counts_b30 h)
    · have h := h.2 hc
      refine Ev.aload_n (k := 0) (pc' := 21) dX6_counts_20 rfl rfl rfl ?_
      refine Ev.getR (pc' := 24) dX6_counts_21 rfl fa_RX6_24 ob_85 fk_6_5 rf_85_5 ?_
      refine Ev.iload_n (k := 1) (pc' := 25) dX6_counts_24 rfl rfl rfl ?_
      refine Ev.iaload (j := _) (pc' := 26) dX6_counts_25 rfl ar_90 h.1 rfl ?_
      have h := h.2
      refine Ev.iload_n (k := 2) (pc' := 27) dX6_counts_26 rfl rfl rfl ?_
      refine Ev.icmp_le (pc' := 30) (tgt := 34) dX6_counts_27 rfl rfl (fun hc => ?_) (fun hc => ?_)
      · have h := h.1 hc
        refine Ev.iconst (pc' := 35) dX6_counts_34 rfl ki_0 ?_
        exact Ef.zret (b := false) dX6_counts_35 rfl h
      · have h := h.2 hc
        exact Ev.sub [] rfl (okX6_counts_b30 h)
def wpX6_isFalse (o2 : Nat) (a1 : Int32) (I : Ix) (L : Lx) (Q : Bool → Ix → Lx → Prop) : Prop := vp_in a1 40 ∧ ((I o2 0) < (I 86 a1.toNatClampNeg) → Q false I L) ∧ (¬ (I o2 0) < (I 86 a1.toNatClampNeg) → vp_in a1 40 ∧ vp_in a1 40 ∧ wpX2_ownerBehind o2 (I 86 a1.toNatClampNeg) (I 87 a1.toNatClampNeg) I L (fun r3 I1 L2 => vp_in a1 40 ∧ (r3 = (I1 88 a1.toNatClampNeg) → Q false I1 L2) ∧ (¬ r3 = (I1 88 a1.toNatClampNeg) → Q true I1 L2)))
set_option maxRecDepth 10000 in
theorem okX6_isFalse {G : Gx} {o2 : Nat} (ho2 : NowAt o2) {a1 : Int32} {I : Ix} {L : Lx} {Q : Bool → Ix → Lx → Prop} (h : wpX6_isFalse o2 a1 I L Q) : Mf G MX6_isFalse [.ref 85, .int a1, .ref o2] I L (qZ Q) := by
  unfold wpX6_isFalse at h
  refine Mf.of pn_RX6 (Nat.le_of_ble_eq_true rfl) ?_
  refine Ev.aload_n (k := 0) (pc' := 1) dX6_isFalse_0 rfl rfl rfl ?_
  refine Ev.getR (pc' := 4) dX6_isFalse_1 rfl fa_RX6_9 ob_85 fk_6_1 rf_85_1 ?_
  refine Ev.iload_n (k := 1) (pc' := 5) dX6_isFalse_4 rfl rfl rfl ?_
  refine Ev.iaload (j := _) (pc' := 6) dX6_isFalse_5 rfl ar_86 h.1 rfl ?_
  have h := h.2
  refine Ev.aload_n (k := 2) (pc' := 7) dX6_isFalse_6 rfl rfl rfl ?_
  refine Ev.getI (pc' := 10) dX6_isFalse_7 rfl fa_RX6_31 (nowOB ho2) fk_2_0 ?_
  refine Ev.icmp_gt (pc' := 13) (tgt := 42) dX6_isFalse_10 rfl rfl (fun hc => ?_) (fun hc => ?_)
  · have h := h.1 hc
    refine Ev.iconst (pc' := 43) dX6_isFalse_42 rfl ki_0 ?_
    exact Ef.zret (b := false) dX6_isFalse_43 rfl h
  · have h := h.2 hc
    refine Ev.aload_n (k := 2) (pc' := 14) dX6_isFalse_13 rfl rfl rfl ?_
    refine Ev.aload_n (k := 0) (pc' := 15) dX6_isFalse_14 rfl rfl rfl ?_
    refine Ev.getR (pc' := 18) dX6_isFalse_15 rfl fa_RX6_9 ob_85 fk_6_1 rf_85_1 ?_
    refine Ev.iload_n (k := 1) (pc' := 19) dX6_isFalse_18 rfl rfl rfl ?_
    refine Ev.iaload (j := _) (pc' := 20) dX6_isFalse_19 rfl ar_86 h.1 rfl ?_
    have h := h.2
    refine Ev.aload_n (k := 0) (pc' := 21) dX6_isFalse_20 rfl rfl rfl ?_
    refine Ev.getR (pc' := 24) dX6_isFalse_21 rfl fa_RX6_15 ob_85 fk_6_2 rf_85_2 ?_
    refine Ev.iload_n (k := 1) (pc' := 25) dX6_isFalse_24 rfl rfl rfl ?_
    refine Ev.iaload (j := _) (pc' := 26) dX6_isFalse_25 rfl ar_87 h.1 rfl ?_
    have h := h.2
    refine Ef.callVI [.int _, .int _] [] (pc' := 29) dX6_isFalse_26 rfl cv_RX6_36_X2_ownerBehind ⟨Nat.le_of_ble_eq_true rfl, Nat.le_of_ble_eq_true rfl⟩ (nowOB ho2) rfl rfl rfl (Nat.le_of_ble_eq_true rfl) (okX2_ownerBehind ho2 h) (fun r3 I1 L2 h => ?_)
    refine Ev.aload_n (k := 0) (pc' := 30) dX6_isFalse_29 rfl rfl rfl ?_
    refine Ev.getR (pc' := 33) dX6_isFalse_30 rfl fa_RX6_18 ob_85 fk_6_3 rf_85_3 ?_
    refine Ev.iload_n (k := 1) (pc' := 34) dX6_isFalse_33 rfl rfl rfl ?_
    refine Ev.iaload (j := _) (pc' := 35) dX6_isFalse_34 rfl ar_88 h.1 rfl ?_
    have h := h.2
    refine Ev.icmp_eq (pc' := 38) (tgt := 42) dX6_isFalse_35 rfl rfl (fun hc => ?_) (fun hc => ?_)
    · have h := h.1 hc
      refine Ev.iconst (pc' := 43) dX6_isFalse_42 rfl ki_0 ?_
      exact Ef.zret (b := false) dX6_isFalse_43 rfl h
    · have h := h.2 hc
      refine Ev.iconst (pc' := 39) dX6_isFalse_38 rfl ki_1 ?_
      refine Ev.goto (tgt := 43) dX6_isFalse_39 rfl ?_
      exact Ef.zret (b := true) dX6_isFalse_43 rfl h
def wpX6_countFalse_l5 (o1 : Nat) (Q : Int32 → Ix → Lx → Prop) (P5 : Int32 → Int32 → Int32 → Ix → Lx → Prop) (v2 : Int32) (v3 : Int32) (v4 : Int32) (I : Ix) (L : Lx) : Prop := ((I 85 0) ≤ v4 → Q v3 I L) ∧ (¬ (I 85 0) ≤ v4 → wpX6_counts v4 v2 I L (fun r3 I1 L2 => (r3 = false → P5 v2 v3 (v4 + 1) I1 L2) ∧ (r3 = true → wpX6_isFalse o1 v4 I1 L2 (fun r6 I4 L5 => (r6 = false → P5 v2 v3 (v4 + 1) I4 L5) ∧ (r6 = true → P5 v2 (v3 + 1) (v4 + 1) I4 L5)))))
def wpX6_countFalse_h5 (o1 : Nat) (Q : Int32 → Ix → Lx → Prop) (v2 : Int32) (v3 : Int32) (v4 : Int32) (I : Ix) (L : Lx) : Prop := Lfp (X := Int32 × Int32 × Int32 × Ix × Lx) (fun P z => wpX6_countFalse_l5 o1 Q (fun v2 v3 v4 I L => P (v2, v3, v4, I, L)) z.1 z.2.1 z.2.2.1 z.2.2.2.1 z.2.2.2.2) (v2, v3, v4, I, L)
theorem wpX6_countFalse_h5_fold {o1 : Nat} {Q : Int32 → Ix → Lx → Prop} {v2 : Int32} {v3 : Int32} {v4 : Int32} {I : Ix} {L : Lx} (h : wpX6_countFalse_l5 o1 Q (wpX6_countFalse_h5 o1 Q) v2 v3 v4 I L) : wpX6_countFalse_h5 o1 Q v2 v3 v4 I L := Lfp.fold h
def wpX6_countFalse (o1 : Nat) (a2 : Int32) (I : Ix) (L : Lx) (Q : Int32 → Ix → Lx → Prop) : Prop := wpX6_countFalse_h5 o1 Q a2 0 0 I L
set_option maxRecDepth 10000 in
theorem okX6_countFalse_l5 {G : Gx} {o1 : Nat} (ho1 : NowAt o1) {Q : Int32 → Ix → Lx → Prop} {P5 : Int32 → Int32 → Int32 → Ix → Lx → Prop} (hP5 : ∀ (v2 : Int32) (v3 : Int32) (v4 : Int32) (I : Ix) (L : Lx), P5 v2 v3 v4 I L → Ef G MX6_countFalse (qI Q) 5 [(0, .ref 85), (1, .ref o1), (2, .int v2), (3, .int v3), (4, .int v4)] [] I L) {v2 : Int32} {v3 : Int32} {v4 : Int32} {I : Ix} {L : Lx} (h : wpX6_countFalse_l5 o1 Q P5 v2 v3 v4 I L) : Ef G MX6_countFalse (qI Q) 5 [(0, .ref 85), (1, .ref o1), (2, .int v2), (3, .int v3), (4, .int v4)] [] I L := by
  unfold wpX6_countFalse_l5 at h
  refine Ev.iload (k := 4) (pc' := 7) dX6_countFalse_5 rfl rfl ?_
  refine Ev.aload_n (k := 0) (pc' := 8) dX6_countFalse_7 rfl rfl rfl ?_
  refine Ev.getI (pc' := 11) dX6_countFalse_8 rfl fa_RX6_27 ob_85 fk_6_0 ?_
  refine Ev.icmp_ge (pc' := 14) (tgt := 43) dX6_countFalse_11 rfl rfl (fun hc => ?_) (fun hc => ?_)
  · have h := h.1 hc
    refine Ev.iload_n (k := 3) (pc' := 44) dX6_countFalse_43 rfl rfl rfl ?_
    exact Ef.iret dX6_countFalse_44 rfl h
  · have h := h.2 hc
    refine Ev.aload_n (k := 0) (pc' := 15) dX6_countFalse_14 rfl rfl rfl ?_
    refine Ev.iload (k := 4) (pc' := 17) dX6_countFalse_15 rfl rfl ?_
    refine Ev.iload_n (k := 2) (pc' := 18) dX6_countFalse_17 rfl rfl rfl ?_
    refine Ef.callVZ [.int _, .int _] [] (pc' := 21) dX6_countFalse_18 rfl cv_RX6_40_X6_counts ⟨Nat.le_of_ble_eq_true rfl, Nat.le_of_ble_eq_true rfl⟩ ob_85 rfl rfl rfl (Nat.le_of_ble_eq_true rfl) (okX6_counts h) (fun r3 I1 L2 h => ?_)
    refine Ef.ifz_eq (pc' := 24) (tgt := 37) dX6_countFalse_21 rfl rfl (fun hc => ?_) (fun hc => ?_)
    · have h := h.1 hc
      refine Ev.iinc (k := 4) (v := _) (ls' := [(4, .int _), (0, .ref _), (1, .ref _), (2, .int _), (3, .int _)]) (pc' := 40) dX6_countFalse_37 rfl rfl (congrArg (_ + ·) ki_1) (Nat.le_of_ble_eq_true rfl) rfl ?_
      refine Ev.goto (tgt := 5) dX6_countFalse_40 rfl ?_
      exact Ev.sub [1, 2, 3, 4, 0] rfl (hP5 _ _ _ _ _ h)
    · have h := h.2 hc
      refine Ev.aload_n (k := 0) (pc' := 25) dX6_countFalse_24 rfl rfl rfl ?_
      refine Ev.iload (k := 4) (pc' := 27) dX6_countFalse_25 rfl rfl ?_
      refine Ev.aload_n (k := 1) (pc' := 28) dX6_countFalse_27 rfl rfl rfl ?_
      refine Ef.callVZ [.int _, .ref _] [] (pc' := 31) dX6_countFalse_28 rfl cv_RX6_44_X6_isFalse ⟨Nat.le_of_ble_eq_true rfl, Nat.le_of_ble_eq_true rfl⟩ ob_85 rfl rfl rfl (Nat.le_of_ble_eq_true rfl) (okX6_isFalse ho1 h) (fun r6 I4 L5 h => ?_)
      refine Ef.ifz_eq (pc' := 34) (tgt := 37) dX6_countFalse_31 rfl rfl (fun hc => ?_) (fun hc => ?_)
      · have h := h.1 hc
        refine Ev.iinc (k := 4) (v := _) (ls' := [(4, .int _), (0, .ref _), (1, .ref _), (2, .int _), (3, .int _)]) (pc' := 40) dX6_countFalse_37 rfl rfl (congrArg (_ + ·) ki_1) (Nat.le_of_ble_eq_true rfl) rfl ?_
        refine Ev.goto (tgt := 5) dX6_countFalse_40 rfl ?_
        exact Ev.sub [1, 2, 3, 4, 0] rfl (hP5 _ _ _ _ _ h)
      · have h := h.2 hc
        refine Ev.iinc (k := 3) (v := _) (ls' := [(3, .int _), (0, .ref _), (1, .ref _), (2, .int _), (4, .int _)]) (pc' := 37) dX6_countFalse_34 rfl rfl (congrArg (_ + ·) ki_1) (Nat.le_of_ble_eq_true rfl) rfl ?_
        refine Ev.iinc (k := 4) (v := _) (ls' := [(4, .int _), (3, .int _), (0, .ref _), (1, .ref _), (2, .int _)]) (pc' := 40) dX6_countFalse_37 rfl rfl (congrArg (_ + ·) ki_1) (Nat.le_of_ble_eq_true rfl) rfl ?_
        refine Ev.goto (tgt := 5) dX6_countFalse_40 rfl ?_
        exact Ev.sub [2, 3, 4, 1, 0] rfl (hP5 _ _ _ _ _ h)
set_option maxRecDepth 10000 in
theorem okX6_countFalse_h5 {G : Gx} {o1 : Nat} (ho1 : NowAt o1) {Q : Int32 → Ix → Lx → Prop} {v2 : Int32} {v3 : Int32} {v4 : Int32} {I : Ix} {L : Lx} (h : wpX6_countFalse_h5 o1 Q v2 v3 v4 I L) : Ef G MX6_countFalse (qI Q) 5 [(0, .ref 85), (1, .ref o1), (2, .int v2), (3, .int v3), (4, .int v4)] [] I L := by
  unfold wpX6_countFalse_h5 at h
  refine Lfp.ind (P := fun z => Ef G MX6_countFalse (qI Q) 5 [(0, .ref 85), (1, .ref o1), (2, .int z.1), (3, .int z.2.1), (4, .int z.2.2.1)] [] z.2.2.2.1 z.2.2.2.2) ?_ h
  intro z P' hP' h
  obtain ⟨v2, v3, v4, I, L⟩ := z
  exact okX6_countFalse_l5 ho1 (fun v2 v3 v4 I L h9 => hP' (v2, v3, v4, I, L) h9) h
set_option maxRecDepth 10000 in
theorem okX6_countFalse {G : Gx} {o1 : Nat} (ho1 : NowAt o1) {a2 : Int32} {I : Ix} {L : Lx} {Q : Int32 → Ix → Lx → Prop} (h : wpX6_countFalse o1 a2 I L Q) : Mf G MX6_countFalse [.ref 85, .ref o1, .int a2] I L (qI Q) := by
  unfold wpX6_countFalse at h
  refine Mf.of pn_RX6 (Nat.le_of_ble_eq_true rfl) ?_
  refine Ev.iconst (pc' := 1) dX6_countFalse_0 rfl ki_0 ?_
  refine Ev.istore_n (ls' := [(3, .int _), (0, .ref _), (1, .ref _), (2, .int _)]) (pc' := 2) dX6_countFalse_1 rfl rfl (Nat.le_of_ble_eq_true rfl) rfl ?_
  refine Ev.iconst (pc' := 3) dX6_countFalse_2 rfl ki_0 ?_
  refine Ev.istore (ls' := [(4, .int _), (3, .int _), (0, .ref _), (1, .ref _), (2, .int _)]) (pc' := 5) dX6_countFalse_3 rfl (Nat.le_of_ble_eq_true rfl) rfl ?_
  exact Ev.sub [2, 3, 4, 1, 0] rfl (okX6_countFalse_h5 ho1 h)
def wpX6_countOpen_l5 (o1 : Nat) (Q : Int32 → Ix → Lx → Prop) (P5 : Int32 → Int32 → Int32 → Ix → Lx → Prop) (v2 : Int32) (v3 : Int32) (v4 : Int32) (I : Ix) (L : Lx) : Prop := ((I 85 0) ≤ v4 → Q v3 I L) ∧ (¬ (I 85 0) ≤ v4 → wpX6_counts v4 v2 I L (fun r3 I1 L2 => (r3 = false → P5 v2 v3 (v4 + 1) I1 L2) ∧ (r3 = true → vp_in v4 40 ∧ ((I1 86 v4.toNatClampNeg) ≤ (I1 o1 0) → P5 v2 v3 (v4 + 1) I1 L2) ∧ (¬ (I1 86 v4.toNatClampNeg) ≤ (I1 o1 0) → P5 v2 (v3 + 1) (v4 + 1) I1 L2))))
def wpX6_countOpen_h5 (o1 : Nat) (Q : Int32 → Ix → Lx → Prop) (v2 : Int32) (v3 : Int32) (v4 : Int32) (I : Ix) (L : Lx) : Prop := Lfp (X := Int32 × Int32 × Int32 × Ix × Lx) (fun P z => wpX6_countOpen_l5 o1 Q (fun v2 v3 v4 I L => P (v2, v3, v4, I, L)) z.1 z.2.1 z.2.2.1 z.2.2.2.1 z.2.2.2.2) (v2, v3, v4, I, L)
theorem wpX6_countOpen_h5_fold {o1 : Nat} {Q : Int32 → Ix → Lx → Prop} {v2 : Int32} {v3 : Int32} {v4 : Int32} {I : Ix} {L : Lx} (h : wpX6_countOpen_l5 o1 Q (wpX6_countOpen_h5 o1 Q) v2 v3 v4 I L) : wpX6_countOpen_h5 o1 Q v2 v3 v4 I L := Lfp.fold h
def wpX6_countOpen (o1 : Nat) (a2 : Int32) (I : Ix) (L : Lx) (Q : Int32 → Ix → Lx → Prop) : Prop := wpX6_countOpen_h5 o1 Q a2 0 0 I L
set_option maxRecDepth 10000 in
theorem okX6_countOpen_l5 {G : Gx} {o1 : Nat} (ho1 : NowAt o1) {Q : Int32 → Ix → Lx → Prop} {P5 : Int32 → Int32 → Int32 → Ix → Lx → Prop} (hP5 : ∀ (v2 : Int32) (v3 : Int32) (v4 : Int32) (I : Ix) (L : Lx), P5 v2 v3 v4 I L → Ef G MX6_countOpen (qI Q) 5 [(0, .ref 85), (1, .ref o1), (2, .int v2), (3, .int v3), (4, .int v4)] [] I L) {v2 : Int32} {v3 : Int32} {v4 : Int32} {I : Ix} {L : Lx} (h : wpX6_countOpen_l5 o1 Q P5 v2 v3 v4 I L) : Ef G MX6_countOpen (qI Q) 5 [(0, .ref 85), (1, .ref o1), (2, .int v2), (3, .int v3), (4, .int v4)] [] I L := by
  unfold wpX6_countOpen_l5 at h
  refine Ev.iload (k := 4) (pc' := 7) dX6_countOpen_5 rfl rfl ?_
  refine Ev.aload_n (k := 0) (pc' := 8) dX6_countOpen_7 rfl rfl rfl ?_
  refine Ev.getI (pc' := 11) dX6_countOpen_8 rfl fa_RX6_27 ob_85 fk_6_0 ?_
  refine Ev.icmp_ge (pc' := 14) (tgt := 47) dX6_countOpen_11 rfl rfl (fun hc => ?_) (fun hc => ?_)
  · have h := h.1 hc
    refine Ev.iload_n (k := 3) (pc' := 48) dX6_countOpen_47 rfl rfl rfl ?_
    exact Ef.iret dX6_countOpen_48 rfl h
  · have h := h.2 hc
    refine Ev.aload_n (k := 0) (pc' := 15) dX6_countOpen_14 rfl rfl rfl ?_
    refine Ev.iload (k := 4) (pc' := 17) dX6_countOpen_15 rfl rfl ?_
    refine Ev.iload_n (k := 2) (pc' := 18) dX6_countOpen_17 rfl rfl rfl ?_
    refine Ef.callVZ [.int _, .int _] [] (pc' := 21) dX6_countOpen_18 rfl cv_RX6_40_X6_counts ⟨Nat.le_of_ble_eq_true rfl, Nat.le_of_ble_eq_true rfl⟩ ob_85 rfl rfl rfl (Nat.le_of_ble_eq_true rfl) (okX6_counts h) (fun r3 I1 L2 h => ?_)
    refine Ef.ifz_eq (pc' := 24) (tgt := 41) dX6_countOpen_21 rfl rfl (fun hc => ?_) (fun hc => ?_)
    · have h := h.1 hc
      refine Ev.iinc (k := 4) (v := _) (ls' := [(4, .int _), (0, .ref _), (1, .ref _), (2, .int _), (3, .int _)]) (pc' := 44) dX6_countOpen_41 rfl rfl (congrArg (_ + ·) ki_1) (Nat.le_of_ble_eq_true rfl) rfl ?_
      refine Ev.goto (tgt := 5) dX6_countOpen_44 rfl ?_
      exact Ev.sub [1, 2, 3, 4, 0] rfl (hP5 _ _ _ _ _ h)
    · have h := h.2 hc
      refine Ev.aload_n (k := 0) (pc' := 25) dX6_countOpen_24 rfl rfl rfl ?_
      refine Ev.getR (pc' := 28) dX6_countOpen_25 rfl fa_RX6_9 ob_85 fk_6_1 rf_85_1 ?_
      refine Ev.iload (k := 4) (pc' := 30) dX6_countOpen_28 rfl rfl ?_
      refine Ev.iaload (j := _) (pc' := 31) dX6_countOpen_30 rfl ar_86 h.1 rfl ?_
      have h := h.2
      refine Ev.aload_n (k := 1) (pc' := 32) dX6_countOpen_31 rfl rfl rfl ?_
      refine Ev.getI (pc' := 35) dX6_countOpen_32 rfl fa_RX6_31 (nowOB ho1) fk_2_0 ?_
      refine Ev.icmp_le (pc' := 38) (tgt := 41) dX6_countOpen_35 rfl rfl (fun hc => ?_) (fun hc => ?_)
      · have h := h.1 hc
        refine Ev.iinc (k := 4) (v := _) (ls' := [(4, .int _), (0, .ref _), (1, .ref _), (2, .int _), (3, .int _)]) (pc' := 44) dX6_countOpen_41 rfl rfl (congrArg (_ + ·) ki_1) (Nat.le_of_ble_eq_true rfl) rfl ?_
        refine Ev.goto (tgt := 5) dX6_countOpen_44 rfl ?_
        exact Ev.sub [1, 2, 3, 4, 0] rfl (hP5 _ _ _ _ _ h)
      · have h := h.2 hc
        refine Ev.iinc (k := 3) (v := _) (ls' := [(3, .int _), (0, .ref _), (1, .ref _), (2, .int _), (4, .int _)]) (pc' := 41) dX6_countOpen_38 rfl rfl (congrArg (_ + ·) ki_1) (Nat.le_of_ble_eq_true rfl) rfl ?_
        refine Ev.iinc (k := 4) (v := _) (ls' := [(4, .int _), (3, .int _), (0, .ref _), (1, .ref _), (2, .int _)]) (pc' := 44) dX6_countOpen_41 rfl rfl (congrArg (_ + ·) ki_1) (Nat.le_of_ble_eq_true rfl) rfl ?_
        refine Ev.goto (tgt := 5) dX6_countOpen_44 rfl ?_
        exact Ev.sub [2, 3, 4, 1, 0] rfl (hP5 _ _ _ _ _ h)
set_option maxRecDepth 10000 in
theorem okX6_countOpen_h5 {G : Gx} {o1 : Nat} (ho1 : NowAt o1) {Q : Int32 → Ix → Lx → Prop} {v2 : Int32} {v3 : Int32} {v4 : Int32} {I : Ix} {L : Lx} (h : wpX6_countOpen_h5 o1 Q v2 v3 v4 I L) : Ef G MX6_countOpen (qI Q) 5 [(0, .ref 85), (1, .ref o1), (2, .int v2), (3, .int v3), (4, .int v4)] [] I L := by
  unfold wpX6_countOpen_h5 at h
  refine Lfp.ind (P := fun z => Ef G MX6_countOpen (qI Q) 5 [(0, .ref 85), (1, .ref o1), (2, .int z.1), (3, .int z.2.1), (4, .int z.2.2.1)] [] z.2.2.2.1 z.2.2.2.2) ?_ h
  intro z P' hP' h
  obtain ⟨v2, v3, v4, I, L⟩ := z
  exact okX6_countOpen_l5 ho1 (fun v2 v3 v4 I L h9 => hP' (v2, v3, v4, I, L) h9) h
set_option maxRecDepth 10000 in
theorem okX6_countOpen {G : Gx} {o1 : Nat} (ho1 : NowAt o1) {a2 : Int32} {I : Ix} {L : Lx} {Q : Int32 → Ix → Lx → Prop} (h : wpX6_countOpen o1 a2 I L Q) : Mf G MX6_countOpen [.ref 85, .ref o1, .int a2] I L (qI Q) := by
  unfold wpX6_countOpen at h
  refine Mf.of pn_RX6 (Nat.le_of_ble_eq_true rfl) ?_
  refine Ev.iconst (pc' := 1) dX6_countOpen_0 rfl ki_0 ?_
  refine Ev.istore_n (ls' := [(3, .int _), (0, .ref _), (1, .ref _), (2, .int _)]) (pc' := 2) dX6_countOpen_1 rfl rfl (Nat.le_of_ble_eq_true rfl) rfl ?_
  refine Ev.iconst (pc' := 3) dX6_countOpen_2 rfl ki_0 ?_
  refine Ev.istore (ls' := [(4, .int _), (3, .int _), (0, .ref _), (1, .ref _), (2, .int _)]) (pc' := 5) dX6_countOpen_3 rfl (Nat.le_of_ble_eq_true rfl) rfl ?_
  exact Ev.sub [2, 3, 4, 1, 0] rfl (okX6_countOpen_h5 ho1 h)
def wpX6_firstFalse_l2 (o1 : Nat) (Q : Int32 → Ix → Lx → Prop) (P2 : Int32 → Int32 → Ix → Lx → Prop) (v2 : Int32) (v3 : Int32) (I : Ix) (L : Lx) : Prop := ((I 85 0) ≤ v3 → Q (-1) I L) ∧ (¬ (I 85 0) ≤ v3 → wpX6_counts v3 v2 I L (fun r3 I1 L2 => (r3 = false → P2 v2 (v3 + 1) I1 L2) ∧ (r3 = true → wpX6_isFalse o1 v3 I1 L2 (fun r6 I4 L5 => (r6 = false → P2 v2 (v3 + 1) I4 L5) ∧ (r6 = true → Q v3 I4 L5)))))
def wpX6_firstFalse_h2 (o1 : Nat) (Q : Int32 → Ix → Lx → Prop) (v2 : Int32) (v3 : Int32) (I : Ix) (L : Lx) : Prop := Lfp (X := Int32 × Int32 × Ix × Lx) (fun P z => wpX6_firstFalse_l2 o1 Q (fun v2 v3 I L => P (v2, v3, I, L)) z.1 z.2.1 z.2.2.1 z.2.2.2) (v2, v3, I, L)
theorem wpX6_firstFalse_h2_fold {o1 : Nat} {Q : Int32 → Ix → Lx → Prop} {v2 : Int32} {v3 : Int32} {I : Ix} {L : Lx} (h : wpX6_firstFalse_l2 o1 Q (wpX6_firstFalse_h2 o1 Q) v2 v3 I L) : wpX6_firstFalse_h2 o1 Q v2 v3 I L := Lfp.fold h
def wpX6_firstFalse (o1 : Nat) (a2 : Int32) (I : Ix) (L : Lx) (Q : Int32 → Ix → Lx → Prop) : Prop := wpX6_firstFalse_h2 o1 Q a2 0 I L
set_option maxRecDepth 10000 in
theorem okX6_firstFalse_l2 {G : Gx} {o1 : Nat} (ho1 : NowAt o1) {Q : Int32 → Ix → Lx → Prop} {P2 : Int32 → Int32 → Ix → Lx → Prop} (hP2 : ∀ (v2 : Int32) (v3 : Int32) (I : Ix) (L : Lx), P2 v2 v3 I L → Ef G MX6_firstFalse (qI Q) 2 [(0, .ref 85), (1, .ref o1), (2, .int v2), (3, .int v3)] [] I L) {v2 : Int32} {v3 : Int32} {I : Ix} {L : Lx} (h : wpX6_firstFalse_l2 o1 Q P2 v2 v3 I L) : Ef G MX6_firstFalse (qI Q) 2 [(0, .ref 85), (1, .ref o1), (2, .int v2), (3, .int v3)] [] I L := by
  unfold wpX6_firstFalse_l2 at h
  refine Ev.iload_n (k := 3) (pc' := 3) dX6_firstFalse_2 rfl rfl rfl ?_
  refine Ev.aload_n (k := 0) (pc' := 4) dX6_firstFalse_3 rfl rfl rfl ?_
  refine Ev.getI (pc' := 7) dX6_firstFalse_4 rfl fa_RX6_27 ob_85 fk_6_0 ?_
  refine Ev.icmp_ge (pc' := 10) (tgt := 36) dX6_firstFalse_7 rfl rfl (fun hc => ?_) (fun hc => ?_)
  · have h := h.1 hc
    refine Ev.iconst (pc' := 37) dX6_firstFalse_36 rfl ki_m1 ?_
    exact Ef.iret dX6_firstFalse_37 rfl h
  · have h := h.2 hc
    refine Ev.aload_n (k := 0) (pc' := 11) dX6_firstFalse_10 rfl rfl rfl ?_
    refine Ev.iload_n (k := 3) (pc' := 12) dX6_firstFalse_11 rfl rfl rfl ?_
    refine Ev.iload_n (k := 2) (pc' := 13) dX6_firstFalse_12 rfl rfl rfl ?_
    refine Ef.callVZ [.int _, .int _] [] (pc' := 16) dX6_firstFalse_13 rfl cv_RX6_40_X6_counts ⟨Nat.le_of_ble_eq_true rfl, Nat.le_of_ble_eq_true rfl⟩ ob_85 rfl rfl rfl (Nat.le_of_ble_eq_true rfl) (okX6_counts h) (fun r3 I1 L2 h => ?_)
    refine Ef.ifz_eq (pc' := 19) (tgt := 30) dX6_firstFalse_16 rfl rfl (fun hc => ?_) (fun hc => ?_)
    · have h := h.1 hc
      refine Ev.iinc (k := 3) (v := _) (ls' := [(3, .int _), (0, .ref _), (1, .ref _), (2, .int _)]) (pc' := 33) dX6_firstFalse_30 rfl rfl (congrArg (_ + ·) ki_1) (Nat.le_of_ble_eq_true rfl) rfl ?_
      refine Ev.goto (tgt := 2) dX6_firstFalse_33 rfl ?_
      exact Ev.sub [1, 2, 3, 0] rfl (hP2 _ _ _ _ h)
    · have h := h.2 hc
      refine Ev.aload_n (k := 0) (pc' := 20) dX6_firstFalse_19 rfl rfl rfl ?_
      refine Ev.iload_n (k := 3) (pc' := 21) dX6_firstFalse_20 rfl rfl rfl ?_
      refine Ev.aload_n (k := 1) (pc' := 22) dX6_firstFalse_21 rfl rfl rfl ?_
      refine Ef.callVZ [.int _, .ref _] [] (pc' := 25) dX6_firstFalse_22 rfl cv_RX6_44_X6_isFalse ⟨Nat.le_of_ble_eq_true rfl, Nat.le_of_ble_eq_true rfl⟩ ob_85 rfl rfl rfl (Nat.le_of_ble_eq_true rfl) (okX6_isFalse ho1 h) (fun r6 I4 L5 h => ?_)
      refine Ef.ifz_eq (pc' := 28) (tgt := 30) dX6_firstFalse_25 rfl rfl (fun hc => ?_) (fun hc => ?_)
      · have h := h.1 hc
        refine Ev.iinc (k := 3) (v := _) (ls' := [(3, .int _), (0, .ref _), (1, .ref _), (2, .int _)]) (pc' := 33) dX6_firstFalse_30 rfl rfl (congrArg (_ + ·) ki_1) (Nat.le_of_ble_eq_true rfl) rfl ?_
        refine Ev.goto (tgt := 2) dX6_firstFalse_33 rfl ?_
        exact Ev.sub [1, 2, 3, 0] rfl (hP2 _ _ _ _ h)
      · have h := h.2 hc
        refine Ev.iload_n (k := 3) (pc' := 29) dX6_firstFalse_28 rfl rfl rfl ?_
        exact Ef.iret dX6_firstFalse_29 rfl h
set_option maxRecDepth 10000 in
theorem okX6_firstFalse_h2 {G : Gx} {o1 : Nat} (ho1 : NowAt o1) {Q : Int32 → Ix → Lx → Prop} {v2 : Int32} {v3 : Int32} {I : Ix} {L : Lx} (h : wpX6_firstFalse_h2 o1 Q v2 v3 I L) : Ef G MX6_firstFalse (qI Q) 2 [(0, .ref 85), (1, .ref o1), (2, .int v2), (3, .int v3)] [] I L := by
  unfold wpX6_firstFalse_h2 at h
  refine Lfp.ind (P := fun z => Ef G MX6_firstFalse (qI Q) 2 [(0, .ref 85), (1, .ref o1), (2, .int z.1), (3, .int z.2.1)] [] z.2.2.1 z.2.2.2) ?_ h
  intro z P' hP' h
  obtain ⟨v2, v3, I, L⟩ := z
  exact okX6_firstFalse_l2 ho1 (fun v2 v3 I L h9 => hP' (v2, v3, I, L) h9) h
set_option maxRecDepth 10000 in
theorem okX6_firstFalse {G : Gx} {o1 : Nat} (ho1 : NowAt o1) {a2 : Int32} {I : Ix} {L : Lx} {Q : Int32 → Ix → Lx → Prop} (h : wpX6_firstFalse o1 a2 I L Q) : Mf G MX6_firstFalse [.ref 85, .ref o1, .int a2] I L (qI Q) := by
  unfold wpX6_firstFalse at h
  refine Mf.of pn_RX6 (Nat.le_of_ble_eq_true rfl) ?_
  refine Ev.iconst (pc' := 1) dX6_firstFalse_0 rfl ki_0 ?_
  refine Ev.istore_n (ls' := [(3, .int _), (0, .ref _), (1, .ref _), (2, .int _)]) (pc' := 2) dX6_firstFalse_1 rfl rfl (Nat.le_of_ble_eq_true rfl) rfl ?_
  exact Ev.sub [1, 2, 3, 0] rfl (okX6_firstFalse_h2 ho1 h)
def wpX6_contradictsEarlier_b42 (Q : Bool → Ix → Lx → Prop) (P2 : Int32 → Int32 → Int32 → Ix → Lx → Prop) (v1 : Int32) (v2 : Int32) (v3 : Int32) (t0 : Int32) (I : Ix) (L : Lx) : Prop := (t0 = 0 → P2 v1 v2 (v3 + 1) I L) ∧ (¬ t0 = 0 → wpX6_counts v3 v2 I L (fun r3 I1 L2 => (r3 = false → P2 v1 v2 (v3 + 1) I1 L2) ∧ (r3 = true → vp_in v3 40 ∧ vp_in v1 40 ∧ ((I1 88 v3.toNatClampNeg) = (I1 88 v1.toNatClampNeg) → P2 v1 v2 (v3 + 1) I1 L2) ∧ (¬ (I1 88 v3.toNatClampNeg) = (I1 88 v1.toNatClampNeg) → Q true I1 L2))))
def wpX6_contradictsEarlier_b41 (Q : Bool → Ix → Lx → Prop) (P2 : Int32 → Int32 → Int32 → Ix → Lx → Prop) (v1 : Int32) (v2 : Int32) (v3 : Int32) (I : Ix) (L : Lx) : Prop := wpX6_contradictsEarlier_b42 Q P2 v1 v2 v3 0 I L
def wpX6_contradictsEarlier_l2 (Q : Bool → Ix → Lx → Prop) (P2 : Int32 → Int32 → Int32 → Ix → Lx → Prop) (v1 : Int32) (v2 : Int32) (v3 : Int32) (I : Ix) (L : Lx) : Prop := (v1 ≤ v3 → Q false I L) ∧ (¬ v1 ≤ v3 → vp_in v3 40 ∧ vp_in v1 40 ∧ (¬ (I 86 v3.toNatClampNeg) = (I 86 v1.toNatClampNeg) → wpX6_contradictsEarlier_b41 Q P2 v1 v2 v3 I L) ∧ ((I 86 v3.toNatClampNeg) = (I 86 v1.toNatClampNeg) → vp_in v3 40 ∧ vp_in v1 40 ∧ (¬ (I 87 v3.toNatClampNeg) = (I 87 v1.toNatClampNeg) → wpX6_contradictsEarlier_b41 Q P2 v1 v2 v3 I L) ∧ ((I 87 v3.toNatClampNeg) = (I 87 v1.toNatClampNeg) → wpX6_contradictsEarlier_b42 Q P2 v1 v2 v3 1 I L)))
def wpX6_contradictsEarlier_h2 (Q : Bool → Ix → Lx → Prop) (v1 : Int32) (v2 : Int32) (v3 : Int32) (I : Ix) (L : Lx) : Prop := Lfp (X := Int32 × Int32 × Int32 × Ix × Lx) (fun P z => wpX6_contradictsEarlier_l2 Q (fun v1 v2 v3 I L => P (v1, v2, v3, I, L)) z.1 z.2.1 z.2.2.1 z.2.2.2.1 z.2.2.2.2) (v1, v2, v3, I, L)
theorem wpX6_contradictsEarlier_h2_fold {Q : Bool → Ix → Lx → Prop} {v1 : Int32} {v2 : Int32} {v3 : Int32} {I : Ix} {L : Lx} (h : wpX6_contradictsEarlier_l2 Q (wpX6_contradictsEarlier_h2 Q) v1 v2 v3 I L) : wpX6_contradictsEarlier_h2 Q v1 v2 v3 I L := Lfp.fold h
def wpX6_contradictsEarlier (a1 : Int32) (a2 : Int32) (I : Ix) (L : Lx) (Q : Bool → Ix → Lx → Prop) : Prop := wpX6_contradictsEarlier_h2 Q a1 a2 0 I L
set_option maxRecDepth 10000 in
theorem okX6_contradictsEarlier_b42 {G : Gx} {Q : Bool → Ix → Lx → Prop} {P2 : Int32 → Int32 → Int32 → Ix → Lx → Prop} (hP2 : ∀ (v1 : Int32) (v2 : Int32) (v3 : Int32) (I : Ix) (L : Lx), P2 v1 v2 v3 I L → Ef G MX6_contradictsEarlier (qZ Q) 2 [(0, .ref 85), (1, .int v1), (2, .int v2), (3, .int v3)] [] I L) {v1 : Int32} {v2 : Int32} {v3 : Int32} {t0 : Int32} {I : Ix} {L : Lx} (h : wpX6_contradictsEarlier_b42 Q P2 v1 v2 v3 t0 I L) : Ef G MX6_contradictsEarlier (qZ Q) 42 [(0, .ref 85), (1, .int v1), (2, .int v2), (3, .int v3)] [.int t0] I L := by
  unfold wpX6_contradictsEarlier_b42 at h
  refine Ev.istore (ls' := [(4, .int _), (0, .ref _), (1, .int _), (2, .int _), (3, .int _)]) (pc' := 44) dX6_contradictsEarlier_42 rfl (Nat.le_of_ble_eq_true rfl) rfl ?_
  refine Ev.iload (k := 0) (pc' := 46) dX6_contradictsEarlier_44 rfl rfl ?_
  refine Ev.if_eq (pc' := 49) (tgt := 75) dX6_contradictsEarlier_46 rfl rfl (fun hc => ?_) (fun hc => ?_)
  · have h := h.1 hc
    refine Ev.iinc (k := 4) (v := _) (ls' := [(3, .int _), (4, .int _), (0, .ref _), (1, .int _), (2, .int _)]) (pc' := 78) dX6_contradictsEarlier_75 rfl rfl (congrArg (_ + ·) ki_1) (Nat.le_of_ble_eq_true rfl) rfl ?_
    refine Ev.goto (tgt := 2) dX6_contradictsEarlier_78 rfl ?_
    exact Ev.sub [2, 3, 4, 0] rfl (hP2 _ _ _ _ _ h)
  · have h := h.2 hc
    refine Ev.aload_n (k := 1) (pc' := 50) dX6_contradictsEarlier_49 rfl rfl rfl ?_
    refine Ev.iload_n (k := 4) (pc' := 51) dX6_contradictsEarlier_50 rfl rfl rfl ?_
    refine Ev.iload_n (k := 3) (pc' := 52) dX6_contradictsEarlier_51 rfl rfl rfl ?_
    refine Ef.callVZ [.int _, .int _] [] (pc' := 55) dX6_contradictsEarlier_52 rfl cv_RX6_40_X6_counts ⟨Nat.le_of_ble_eq_true rfl, Nat.le_of_ble_eq_true rfl⟩ ob_85 rfl rfl rfl (Nat.le_of_ble_eq_true rfl) (okX6_counts h) (fun r3 I1 L2 h => ?_)
    refine Ef.ifz_eq (pc' := 58) (tgt := 75) dX6_contradictsEarlier_55 rfl rfl (fun hc => ?_) (fun hc => ?_)
    · have h := h.1 hc
      refine Ev.iinc (k := 4) (v := _) (ls' := [(3, .int _), (4, .int _), (0, .ref _), (1, .int _), (2, .int _)]) (pc' := 78) dX6_contradictsEarlier_75 rfl rfl (congrArg (_ + ·) ki_1) (Nat.le_of_ble_eq_true rfl) rfl ?_
      refine Ev.goto (tgt := 2) dX6_contradictsEarlier_78 rfl ?_
      exact Ev.sub [2, 3, 4, 0] rfl (hP2 _ _ _ _ _ h)
    · have h := h.2 hc
      refine Ev.aload_n (k := 1) (pc' := 59) dX6_contradictsEarlier_58 rfl rfl rfl ?_
      refine Ev.getR (pc' := 62) dX6_contradictsEarlier_59 rfl fa_RX6_18 ob_85 fk_6_3 rf_85_3 ?_
      refine Ev.iload_n (k := 4) (pc' := 63) dX6_contradictsEarlier_62 rfl rfl rfl ?_
      refine Ev.iaload (j := _) (pc' := 64) dX6_contradictsEarlier_63 rfl ar_88 h.1 rfl ?_
      have h := h.2
      refine Ev.aload_n (k := 1) (pc' := 65) dX6_contradictsEarlier_64 rfl rfl rfl ?_
      refine Ev.getR (pc' := 68) dX6_contradictsEarlier_65 rfl fa_RX6_18 ob_85 fk_6_3 rf_85_3 ?_
      refine Ev.iload_n (k := 2) (pc' := 69) dX6_contradictsEarlier_68 rfl rfl rfl ?_
      refine Ev.iaload (j := _) (pc' := 70) dX6_contradictsEarlier_69 rfl ar_88 h.1 rfl ?_
      have h := h.2
      refine Ev.icmp_eq (pc' := 73) (tgt := 75) dX6_contradictsEarlier_70 rfl rfl (fun hc => ?_) (fun hc => ?_)
      · have h := h.1 hc
        refine Ev.iinc (k := 4) (v := _) (ls' := [(3, .int _), (4, .int _), (0, .ref _), (1, .int _), (2, .int _)]) (pc' := 78) dX6_contradictsEarlier_75 rfl rfl (congrArg (_ + ·) ki_1) (Nat.le_of_ble_eq_true rfl) rfl ?_
        refine Ev.goto (tgt := 2) dX6_contradictsEarlier_78 rfl ?_
        exact Ev.sub [2, 3, 4, 0] rfl (hP2 _ _ _ _ _ h)
      · have h := h.2 hc
        refine Ev.iconst (pc' := 74) dX6_contradictsEarlier_73 rfl ki_1 ?_
        exact Ef.zret (b := true) dX6_contradictsEarlier_74 rfl h
set_option maxRecDepth 10000 in
theorem okX6_contradictsEarlier_b41 {G : Gx} {Q : Bool → Ix → Lx → Prop} {P2 : Int32 → Int32 → Int32 → Ix → Lx → Prop} (hP2 : ∀ (v1 : Int32) (v2 : Int32) (v3 : Int32) (I : Ix) (L : Lx), P2 v1 v2 v3 I L → Ef G MX6_contradictsEarlier (qZ Q) 2 [(0, .ref 85), (1, .int v1), (2, .int v2), (3, .int v3)] [] I L) {v1 : Int32} {v2 : Int32} {v3 : Int32} {I : Ix} {L : Lx} (h : wpX6_contradictsEarlier_b41 Q P2 v1 v2 v3 I L) : Ef G MX6_contradictsEarlier (qZ Q) 41 [(0, .ref 85), (1, .int v1), (2, .int v2), (3, .int v3)] [] I L := by
  unfold wpX6_contradictsEarlier_b41 at h
  refine Ev.iconst (pc' := 42) dX6_contradictsEarlier_41 rfl ki_0 ?_
  exact okX6_contradictsEarlier_b42 hP2 h
set_option maxRecDepth 10000 in
theorem okX6_contradictsEarlier_l2 {G : Gx} {Q : Bool → Ix → Lx → Prop} {P2 : Int32 → Int32 → Int32 → Ix → Lx → Prop} (hP2 : ∀ (v1 : Int32) (v2 : Int32) (v3 : Int32) (I : Ix) (L : Lx), P2 v1 v2 v3 I L → Ef G MX6_contradictsEarlier (qZ Q) 2 [(0, .ref 85), (1, .int v1), (2, .int v2), (3, .int v3)] [] I L) {v1 : Int32} {v2 : Int32} {v3 : Int32} {I : Ix} {L : Lx} (h : wpX6_contradictsEarlier_l2 Q P2 v1 v2 v3 I L) : Ef G MX6_contradictsEarlier (qZ Q) 2 [(0, .ref 85), (1, .int v1), (2, .int v2), (3, .int v3)] [] I L := by
  unfold wpX6_contradictsEarlier_l2 at h
  refine Ev.iload_n (k := 3) (pc' := 3) dX6_contradictsEarlier_2 rfl rfl rfl ?_
  refine Ev.iload_n (k := 1) (pc' := 4) dX6_contradictsEarlier_3 rfl rfl rfl ?_
  refine Ev.icmp_ge (pc' := 7) (tgt := 81) dX6_contradictsEarlier_4 rfl rfl (fun hc => ?_) (fun hc => ?_)
  · have h := h.1 hc
    refine Ev.iconst (pc' := 82) dX6_contradictsEarlier_81 rfl ki_0 ?_
    exact Ef.zret (b := false) dX6_contradictsEarlier_82 rfl h
  · have h := h.2 hc
    refine Ev.aload_n (k := 0) (pc' := 8) dX6_contradictsEarlier_7 rfl rfl rfl ?_
    refine Ev.getR (pc' := 11) dX6_contradictsEarlier_8 rfl fa_RX6_9 ob_85 fk_6_1 rf_85_1 ?_
    refine Ev.iload_n (k := 3) (pc' := 12) dX6_contradictsEarlier_11 rfl rfl rfl ?_
    refine Ev.iaload (j := _) (pc' := 13) dX6_contradictsEarlier_12 rfl ar_86 h.1 rfl ?_
    have h := h.2
    refine Ev.aload_n (k := 0) (pc' := 14) dX6_contradictsEarlier_13 rfl rfl rfl ?_
    refine Ev.getR (pc' := 17) dX6_contradictsEarlier_14 rfl fa_RX6_9 ob_85 fk_6_1 rf_85_1 ?_
    refine Ev.iload_n (k := 1) (pc' := 18) dX6_contradictsEarlier_17 rfl rfl rfl ?_
    refine Ev.iaload (j := _) (pc' := 19) dX6_contradictsEarlier_18 rfl ar_86 h.1 rfl ?_
    have h := h.2
    refine Ev.icmp_ne (pc' := 22) (tgt := 41) dX6_contradictsEarlier_19 rfl rfl (fun hc => ?_) (fun hc => ?_)
    · have h := h.1 hc
      exact okX6_contradictsEarlier_b41 hP2 h
    · have h := h.2 hc
      refine Ev.aload_n (k := 0) (pc' := 23) dX6_contradictsEarlier_22 rfl rfl rfl ?_
      refine Ev.getR (pc' := 26) dX6_contradictsEarlier_23 rfl fa_RX6_15 ob_85 fk_6_2 rf_85_2 ?_
      refine Ev.iload_n (k := 3) (pc' := 27) dX6_contradictsEarlier_26 rfl rfl rfl ?_
      refine Ev.iaload (j := _) (pc' := 28) dX6_contradictsEarlier_27 rfl ar_87 h.1 rfl ?_
      have h := h.2
      refine Ev.aload_n (k := 0) (pc' := 29) dX6_contradictsEarlier_28 rfl rfl rfl ?_
      refine Ev.getR (pc' := 32) dX6_contradictsEarlier_29 rfl fa_RX6_15 ob_85 fk_6_2 rf_85_2 ?_
      refine Ev.iload_n (k := 1) (pc' := 33) dX6_contradictsEarlier_32 rfl rfl rfl ?_
      refine Ev.iaload (j := _) (pc' := 34) dX6_contradictsEarlier_33 rfl ar_87 h.1 rfl ?_
      have h := h.2
      refine Ev.icmp_ne (pc' := 37) (tgt := 41) dX6_contradictsEarlier_34 rfl rfl (fun hc => ?_) (fun hc => ?_)
      · have h := h.1 hc
        exact okX6_contradictsEarlier_b41 hP2 h
      · have h := h.2 hc
        refine Ev.iconst (pc' := 38) dX6_contradictsEarlier_37 rfl ki_1 ?_
        refine Ev.goto (tgt := 42) dX6_contradictsEarlier_38 rfl ?_
        exact okX6_contradictsEarlier_b42 hP2 h
set_option maxRecDepth 10000 in
theorem okX6_contradictsEarlier_h2 {G : Gx} {Q : Bool → Ix → Lx → Prop} {v1 : Int32} {v2 : Int32} {v3 : Int32} {I : Ix} {L : Lx} (h : wpX6_contradictsEarlier_h2 Q v1 v2 v3 I L) : Ef G MX6_contradictsEarlier (qZ Q) 2 [(0, .ref 85), (1, .int v1), (2, .int v2), (3, .int v3)] [] I L := by
  unfold wpX6_contradictsEarlier_h2 at h
  refine Lfp.ind (P := fun z => Ef G MX6_contradictsEarlier (qZ Q) 2 [(0, .ref 85), (1, .int z.1), (2, .int z.2.1), (3, .int z.2.2.1)] [] z.2.2.2.1 z.2.2.2.2) ?_ h
  intro z P' hP' h
  obtain ⟨v1, v2, v3, I, L⟩ := z
  exact okX6_contradictsEarlier_l2 (fun v1 v2 v3 I L h9 => hP' (v1, v2, v3, I, L) h9) h
set_option maxRecDepth 10000 in
theorem okX6_contradictsEarlier {G : Gx} {a1 : Int32} {a2 : Int32} {I : Ix} {L : Lx} {Q : Bool → Ix → Lx → Prop} (h : wpX6_contradictsEarlier a1 a2 I L Q) : Mf G MX6_contradictsEarlier [.ref 85, .int a1, .int a2] I L (qZ Q) := by
  unfold wpX6_contradictsEarlier at h
  refine Mf.of pn_RX6 (Nat.le_of_ble_eq_true rfl) ?_
  refine Ev.iconst (pc' := 1) dX6_contradictsEarlier_0 rfl ki_0 ?_
  refine Ev.istore_n (ls' := [(3, .int _), (0, .ref _), (1, .int _), (2, .int _)]) (pc' := 2) dX6_contradictsEarlier_1 rfl rfl (Nat.le_of_ble_eq_true rfl) rfl ?_
  exact Ev.sub [1, 2, 3, 0] rfl (okX6_contradictsEarlier_h2 h)
def wpX6_firstDouble_l2 (Q : Int32 → Ix → Lx → Prop) (P2 : Int32 → Int32 → Ix → Lx → Prop) (v1 : Int32) (v2 : Int32) (I : Ix) (L : Lx) : Prop := ((I 85 0) ≤ v2 → Q (-1) I L) ∧ (¬ (I 85 0) ≤ v2 → wpX6_counts v2 v1 I L (fun r3 I1 L2 => (r3 = false → P2 v1 (v2 + 1) I1 L2) ∧ (r3 = true → wpX6_contradictsEarlier v2 v1 I1 L2 (fun r6 I4 L5 => (r6 = false → P2 v1 (v2 + 1) I4 L5) ∧ (r6 = true → Q v2 I4 L5)))))
def wpX6_firstDouble_h2 (Q : Int32 → Ix → Lx → Prop) (v1 : Int32) (v2 : Int32) (I : Ix) (L : Lx) : Prop := Lfp (X := Int32 × Int32 × Ix × Lx) (fun P z => wpX6_firstDouble_l2 Q (fun v1 v2 I L => P (v1, v2, I, L)) z.1 z.2.1 z.2.2.1 z.2.2.2) (v1, v2, I, L)
theorem wpX6_firstDouble_h2_fold {Q : Int32 → Ix → Lx → Prop} {v1 : Int32} {v2 : Int32} {I : Ix} {L : Lx} (h : wpX6_firstDouble_l2 Q (wpX6_firstDouble_h2 Q) v1 v2 I L) : wpX6_firstDouble_h2 Q v1 v2 I L := Lfp.fold h
def wpX6_firstDouble (a1 : Int32) (I : Ix) (L : Lx) (Q : Int32 → Ix → Lx → Prop) : Prop := wpX6_firstDouble_h2 Q a1 0 I L
set_option maxRecDepth 10000 in
theorem okX6_firstDouble_l2 {G : Gx} {Q : Int32 → Ix → Lx → Prop} {P2 : Int32 → Int32 → Ix → Lx → Prop} (hP2 : ∀ (v1 : Int32) (v2 : Int32) (I : Ix) (L : Lx), P2 v1 v2 I L → Ef G MX6_firstDouble (qI Q) 2 [(0, .ref 85), (1, .int v1), (2, .int v2)] [] I L) {v1 : Int32} {v2 : Int32} {I : Ix} {L : Lx} (h : wpX6_firstDouble_l2 Q P2 v1 v2 I L) : Ef G MX6_firstDouble (qI Q) 2 [(0, .ref 85), (1, .int v1), (2, .int v2)] [] I L := by
  unfold wpX6_firstDouble_l2 at h
  refine Ev.iload_n (k := 2) (pc' := 3) dX6_firstDouble_2 rfl rfl rfl ?_
  refine Ev.aload_n (k := 0) (pc' := 4) dX6_firstDouble_3 rfl rfl rfl ?_
  refine Ev.getI (pc' := 7) dX6_firstDouble_4 rfl fa_RX6_27 ob_85 fk_6_0 ?_
  refine Ev.icmp_ge (pc' := 10) (tgt := 36) dX6_firstDouble_7 rfl rfl (fun hc => ?_) (fun hc => ?_)
  · have h := h.1 hc
    refine Ev.iconst (pc' := 37) dX6_firstDouble_36 rfl ki_m1 ?_
    exact Ef.iret dX6_firstDouble_37 rfl h
  · have h := h.2 hc
    refine Ev.aload_n (k := 0) (pc' := 11) dX6_firstDouble_10 rfl rfl rfl ?_
    refine Ev.iload_n (k := 2) (pc' := 12) dX6_firstDouble_11 rfl rfl rfl ?_
    refine Ev.iload_n (k := 1) (pc' := 13) dX6_firstDouble_12 rfl rfl rfl ?_
    refine Ef.callVZ [.int _, .int _] [] (pc' := 16) dX6_firstDouble_13 rfl cv_RX6_40_X6_counts ⟨Nat.le_of_ble_eq_true rfl, Nat.le_of_ble_eq_true rfl⟩ ob_85 rfl rfl rfl (Nat.le_of_ble_eq_true rfl) (okX6_counts h) (fun r3 I1 L2 h => ?_)
    refine Ef.ifz_eq (pc' := 19) (tgt := 30) dX6_firstDouble_16 rfl rfl (fun hc => ?_) (fun hc => ?_)
    · have h := h.1 hc
      refine Ev.iinc (k := 2) (v := _) (ls' := [(2, .int _), (0, .ref _), (1, .int _)]) (pc' := 33) dX6_firstDouble_30 rfl rfl (congrArg (_ + ·) ki_1) (Nat.le_of_ble_eq_true rfl) rfl ?_
      refine Ev.goto (tgt := 2) dX6_firstDouble_33 rfl ?_
      exact Ev.sub [1, 2, 0] rfl (hP2 _ _ _ _ h)
    · have h := h.2 hc
      refine Ev.aload_n (k := 0) (pc' := 20) dX6_firstDouble_19 rfl rfl rfl ?_
      refine Ev.iload_n (k := 2) (pc' := 21) dX6_firstDouble_20 rfl rfl rfl ?_
      refine Ev.iload_n (k := 1) (pc' := 22) dX6_firstDouble_21 rfl rfl rfl ?_
      refine Ef.callVZ [.int _, .int _] [] (pc' := 25) dX6_firstDouble_22 rfl cv_RX6_48_X6_contradictsEarlier ⟨Nat.le_of_ble_eq_true rfl, Nat.le_of_ble_eq_true rfl⟩ ob_85 rfl rfl rfl (Nat.le_of_ble_eq_true rfl) (okX6_contradictsEarlier h) (fun r6 I4 L5 h => ?_)
      refine Ef.ifz_eq (pc' := 28) (tgt := 30) dX6_firstDouble_25 rfl rfl (fun hc => ?_) (fun hc => ?_)
      · have h := h.1 hc
        refine Ev.iinc (k := 2) (v := _) (ls' := [(2, .int _), (0, .ref _), (1, .int _)]) (pc' := 33) dX6_firstDouble_30 rfl rfl (congrArg (_ + ·) ki_1) (Nat.le_of_ble_eq_true rfl) rfl ?_
        refine Ev.goto (tgt := 2) dX6_firstDouble_33 rfl ?_
        exact Ev.sub [1, 2, 0] rfl (hP2 _ _ _ _ h)
      · have h := h.2 hc
        refine Ev.iload_n (k := 2) (pc' := 29) dX6_firstDouble_28 rfl rfl rfl ?_
        exact Ef.iret dX6_firstDouble_29 rfl h
set_option maxRecDepth 10000 in
theorem okX6_firstDouble_h2 {G : Gx} {Q : Int32 → Ix → Lx → Prop} {v1 : Int32} {v2 : Int32} {I : Ix} {L : Lx} (h : wpX6_firstDouble_h2 Q v1 v2 I L) : Ef G MX6_firstDouble (qI Q) 2 [(0, .ref 85), (1, .int v1), (2, .int v2)] [] I L := by
  unfold wpX6_firstDouble_h2 at h
  refine Lfp.ind (P := fun z => Ef G MX6_firstDouble (qI Q) 2 [(0, .ref 85), (1, .int z.1), (2, .int z.2.1)] [] z.2.2.1 z.2.2.2) ?_ h
  intro z P' hP' h
  obtain ⟨v1, v2, I, L⟩ := z
  exact okX6_firstDouble_l2 (fun v1 v2 I L h9 => hP' (v1, v2, I, L) h9) h
set_option maxRecDepth 10000 in
theorem okX6_firstDouble {G : Gx} {a1 : Int32} {I : Ix} {L : Lx} {Q : Int32 → Ix → Lx → Prop} (h : wpX6_firstDouble a1 I L Q) : Mf G MX6_firstDouble [.ref 85, .int a1] I L (qI Q) := by
  unfold wpX6_firstDouble at h
  refine Mf.of pn_RX6 (Nat.le_of_ble_eq_true rfl) ?_
  refine Ev.iconst (pc' := 1) dX6_firstDouble_0 rfl ki_0 ?_
  refine Ev.istore_n (ls' := [(2, .int _), (0, .ref _), (1, .int _)]) (pc' := 2) dX6_firstDouble_1 rfl rfl (Nat.le_of_ble_eq_true rfl) rfl ?_
  exact Ev.sub [1, 2, 0] rfl (okX6_firstDouble_h2 h)
def wpX11_judge (a1 : Int32) (a2 : Int32) (I : Ix) (L : Lx) (Q : Int32 → Ix → Lx → Prop) : Prop := (a1 = 0 → wpX6_countFalse 53 a2 I L (fun r3 I1 L2 => Q r3 I1 L2)) ∧ (a1 = 1 → wpX6_countOpen 53 a2 I L (fun r6 I4 L5 => Q r6 I4 L5)) ∧ (a1 = 2 → wpX6_firstFalse 53 a2 I L (fun r9 I7 L8 => Q r9 I7 L8)) ∧ (a1 = 3 → wpX6_firstDouble a2 I L (fun r12 I10 L11 => Q r12 I10 L11)) ∧ (¬ a1 = 0 → ¬ a1 = 1 → ¬ a1 = 2 → ¬ a1 = 3 → Q (-1) I L)
set_option maxRecDepth 10000 in
theorem okX11_judge {G : Gx} {a1 : Int32} {a2 : Int32} {I : Ix} {L : Lx} {Q : Int32 → Ix → Lx → Prop} (h : wpX11_judge a1 a2 I L Q) : Mf G MX11_judge [.ref 0, .int a1, .int a2] I L (qI Q) := by
  unfold wpX11_judge at h
  refine Mf.of pn_RX11 (Nat.le_of_ble_eq_true rfl) ?_
  refine Ev.iload_n (k := 1) (pc' := 1) dX11_judge_0 rfl rfl rfl ?_
  by_cases e0 : a1 = 0
  · refine Ev.tableIn (off := 31) (tgt := 32) dX11_judge_1 (by rw [e0]; decide) (by rw [e0]; decide) (by rw [e0]; decide) rfl ?_
    have h := h.1 e0
    refine Ev.aload_n (k := 0) (pc' := 33) dX11_judge_32 rfl rfl rfl ?_
    refine Ev.getR (pc' := 36) dX11_judge_33 rfl fa_RX11_72 ob_0 fk_11_8 rf_0_8 ?_
    refine Ev.aload_n (k := 0) (pc' := 37) dX11_judge_36 rfl rfl rfl ?_
    refine Ev.getR (pc' := 40) dX11_judge_37 rfl fa_RX11_38 ob_0 fk_11_4 rf_0_4 ?_
    refine Ev.iload_n (k := 2) (pc' := 41) dX11_judge_40 rfl rfl rfl ?_
    refine Ef.callVI [.ref _, .int _] [] (pc' := 44) dX11_judge_41 rfl cv_RX11_253_X6_countFalse ⟨Nat.le_of_ble_eq_true rfl, Nat.le_of_ble_eq_true rfl⟩ ob_85 rfl rfl rfl (Nat.le_of_ble_eq_true rfl) (okX6_countFalse nowAt_53 h) (fun r3 I1 L2 h => ?_)
    exact Ef.iret dX11_judge_44 rfl h
  by_cases e1 : a1 = 1
  · refine Ev.tableIn (off := 44) (tgt := 45) dX11_judge_1 (by rw [e1]; decide) (by rw [e1]; decide) (by rw [e1]; decide) rfl ?_
    have h := h.2.1 e1
    refine Ev.aload_n (k := 0) (pc' := 46) dX11_judge_45 rfl rfl rfl ?_
    refine Ev.getR (pc' := 49) dX11_judge_46 rfl fa_RX11_72 ob_0 fk_11_8 rf_0_8 ?_
    refine Ev.aload_n (k := 0) (pc' := 50) dX11_judge_49 rfl rfl rfl ?_
    refine Ev.getR (pc' := 53) dX11_judge_50 rfl fa_RX11_38 ob_0 fk_11_4 rf_0_4 ?_
    refine Ev.iload_n (k := 2) (pc' := 54) dX11_judge_53 rfl rfl rfl ?_
    refine Ef.callVI [.ref _, .int _] [] (pc' := 57) dX11_judge_54 rfl cv_RX11_256_X6_countOpen ⟨Nat.le_of_ble_eq_true rfl, Nat.le_of_ble_eq_true rfl⟩ ob_85 rfl rfl rfl (Nat.le_of_ble_eq_true rfl) (okX6_countOpen nowAt_53 h) (fun r6 I4 L5 h => ?_)
    exact Ef.iret dX11_judge_57 rfl h
  by_cases e2 : a1 = 2
  · refine Ev.tableIn (off := 57) (tgt := 58) dX11_judge_1 (by rw [e2]; decide) (by rw [e2]; decide) (by rw [e2]; decide) rfl ?_
    have h := h.2.2.1 e2
    refine Ev.aload_n (k := 0) (pc' := 59) dX11_judge_58 rfl rfl rfl ?_
    refine Ev.getR (pc' := 62) dX11_judge_59 rfl fa_RX11_72 ob_0 fk_11_8 rf_0_8 ?_
    refine Ev.aload_n (k := 0) (pc' := 63) dX11_judge_62 rfl rfl rfl ?_
    refine Ev.getR (pc' := 66) dX11_judge_63 rfl fa_RX11_38 ob_0 fk_11_4 rf_0_4 ?_
    refine Ev.iload_n (k := 2) (pc' := 67) dX11_judge_66 rfl rfl rfl ?_
    refine Ef.callVI [.ref _, .int _] [] (pc' := 70) dX11_judge_67 rfl cv_RX11_259_X6_firstFalse ⟨Nat.le_of_ble_eq_true rfl, Nat.le_of_ble_eq_true rfl⟩ ob_85 rfl rfl rfl (Nat.le_of_ble_eq_true rfl) (okX6_firstFalse nowAt_53 h) (fun r9 I7 L8 h => ?_)
    exact Ef.iret dX11_judge_70 rfl h
  by_cases e3 : a1 = 3
  · refine Ev.tableIn (off := 70) (tgt := 71) dX11_judge_1 (by rw [e3]; decide) (by rw [e3]; decide) (by rw [e3]; decide) rfl ?_
    have h := h.2.2.2.1 e3
    refine Ev.aload_n (k := 0) (pc' := 72) dX11_judge_71 rfl rfl rfl ?_
    refine Ev.getR (pc' := 75) dX11_judge_72 rfl fa_RX11_72 ob_0 fk_11_8 rf_0_8 ?_
    refine Ev.iload_n (k := 2) (pc' := 76) dX11_judge_75 rfl rfl rfl ?_
    refine Ef.callVI [.int _] [] (pc' := 79) dX11_judge_76 rfl cv_RX11_262_X6_firstDouble ⟨Nat.le_of_ble_eq_true rfl, Nat.le_of_ble_eq_true rfl⟩ ob_85 rfl rfl rfl (Nat.le_of_ble_eq_true rfl) (okX6_firstDouble h) (fun r12 I10 L11 h => ?_)
    exact Ef.iret dX11_judge_79 rfl h
  have h := h.2.2.2.2 e0 e1 e2 e3
  refine Ev.tableOut (tgt := 80) dX11_judge_1 (sw_out fun v h1 h2 => ?_) rfl ?_
  · have h3 : v = 0 ∨ v = 1 ∨ v = 2 ∨ v = 3 := by omega
    rcases h3 with rfl | rfl | rfl | rfl
    · exact fun q => e0 (q.trans (by decide))
    · exact fun q => e1 (q.trans (by decide))
    · exact fun q => e2 (q.trans (by decide))
    · exact fun q => e3 (q.trans (by decide))
  · refine Ev.iconst (pc' := 81) dX11_judge_80 rfl ki_m1 ?_
    exact Ef.iret dX11_judge_81 rfl h
def wpX11_seed (a1 : Int32) (I : Ix) (L : Lx) (Q : Int32 → Ix → Lx → Prop) : Prop := ∀ I1 : Ix, I1 = pu I 53 2 a1 → Q (I 53 2) I1 L
set_option maxRecDepth 10000 in
theorem okX11_seed {G : Gx} {a1 : Int32} {I : Ix} {L : Lx} {Q : Int32 → Ix → Lx → Prop} (h : wpX11_seed a1 I L Q) : Mf G MX11_seed [.ref 0, .int a1] I L (qI Q) := by
  unfold wpX11_seed at h
  refine Mf.of pn_RX11 (Nat.le_of_ble_eq_true rfl) ?_
  refine Ev.aload_n (k := 0) (pc' := 1) dX11_seed_0 rfl rfl rfl ?_
  refine Ev.getR (pc' := 4) dX11_seed_1 rfl fa_RX11_38 ob_0 fk_11_4 rf_0_4 ?_
  refine Ev.getI (pc' := 7) dX11_seed_4 rfl fa_RX11_265 ob_53 fk_2_2 ?_
  refine Ev.istore_n (ls' := [(2, .int _), (0, .ref _), (1, .int _)]) (pc' := 8) dX11_seed_7 rfl rfl (Nat.le_of_ble_eq_true rfl) rfl ?_
  refine Ev.aload_n (k := 1) (pc' := 9) dX11_seed_8 rfl rfl rfl ?_
  refine Ev.getR (pc' := 12) dX11_seed_9 rfl fa_RX11_38 ob_0 fk_11_4 rf_0_4 ?_
  refine Ev.iload_n (k := 2) (pc' := 13) dX11_seed_12 rfl rfl rfl ?_
  refine Ev.putI (pc' := 16) dX11_seed_13 rfl fa_RX11_265 ob_53 fk_2_2 rfl rfl (fun I1 eI1 => ?_)
  have h := h I1 eI1
  refine Ev.iload_n (k := 0) (pc' := 17) dX11_seed_16 rfl rfl rfl ?_
  exact Ef.iret dX11_seed_17 rfl h
def wpX11_image (a1 : Int32) (I : Ix) (L : Lx) (Q : Int32 → Ix → Lx → Prop) : Prop := (a1 < 0 → Q (-1) I L) ∧ (¬ a1 < 0 → (a1 < 3 → vp_in a1 3 ∧ wpX2_copyFrom (93 + 9 * a1.toNatClampNeg) 53 I L (fun I2 L3 => vp_in a1 3 ∧ ∀ I4 : Ix, I4 = pu I2 92 a1.toNatClampNeg 1 → Q (I4 53 0) I4 L3)) ∧ (¬ a1 < 3 → Q (-1) I L))
set_option maxRecDepth 10000 in
theorem okX11_image {G : Gx} {a1 : Int32} {I : Ix} {L : Lx} {Q : Int32 → Ix → Lx → Prop} (h : wpX11_image a1 I L Q) : Mf G MX11_image [.ref 0, .int a1] I L (qI Q) := by
  unfold wpX11_image at h
  refine Mf.of pn_RX11 (Nat.le_of_ble_eq_true rfl) ?_
  refine Ev.iload_n (k := 1) (pc' := 1) dX11_image_0 rfl rfl rfl ?_
  refine Ev.if_lt (pc' := 4) (tgt := 9) dX11_image_1 rfl rfl (fun hc => ?_) (fun hc => ?_)
  · have h := h.1 hc
    refine Ev.iconst (pc' := 10) dX11_image_9 rfl ki_m1 ?_
    exact Ef.iret dX11_image_10 rfl h
  · have h := h.2 hc
    refine Ev.iload_n (k := 1) (pc' := 5) dX11_image_4 rfl rfl rfl ?_
    refine Ev.iconst (pc' := 6) dX11_image_5 rfl ki_3 ?_
    refine Ev.icmp_lt (pc' := 9) (tgt := 11) dX11_image_6 rfl rfl (fun hc => ?_) (fun hc => ?_)
    · have h := h.1 hc
      refine Ev.aload_n (k := 0) (pc' := 12) dX11_image_11 rfl rfl rfl ?_
      refine Ev.getR (pc' := 15) dX11_image_12 rfl fa_RX11_76 ob_0 fk_11_9 rf_0_9 ?_
      refine Ev.iload_n (k := 1) (pc' := 16) dX11_image_15 rfl rfl rfl ?_
      have hb1 := boxAt h.1
      refine Ev.aaload (pc' := 17) dX11_image_16 rfl ar_91 h.1 rfl hb1.1 ?_
      have h := h.2
      refine Ev.aload_n (k := 0) (pc' := 18) dX11_image_17 rfl rfl rfl ?_
      refine Ev.getR (pc' := 21) dX11_image_18 rfl fa_RX11_38 ob_0 fk_11_4 rf_0_4 ?_
      refine Ef.callVV [.ref _] [] (pc' := 24) dX11_image_21 rfl cv_RX11_268_X2_copyFrom ⟨Nat.le_of_ble_eq_true rfl, Nat.le_of_ble_eq_true rfl⟩ (nowOB hb1.2) rfl rfl rfl (Nat.le_of_ble_eq_true rfl) (okX2_copyFrom hb1.2 nowAt_53 h) (fun I2 L3 h => ?_)
      refine Ev.aload_n (k := 0) (pc' := 25) dX11_image_24 rfl rfl rfl ?_
      refine Ev.getR (pc' := 28) dX11_image_25 rfl fa_RX11_80 ob_0 fk_11_10 rf_0_10 ?_
      refine Ev.iload_n (k := 1) (pc' := 29) dX11_image_28 rfl rfl rfl ?_
      refine Ev.iconst (pc' := 30) dX11_image_29 rfl ki_1 ?_
      refine Ev.zastore (j := _) (y := 1) (pc' := 31) dX11_image_30 rfl ar_92 h.1 rfl (by decide) (fun I4 eI4 => ?_)
      have h := h.2 I4 eI4
      refine Ev.aload_n (k := 0) (pc' := 32) dX11_image_31 rfl rfl rfl ?_
      refine Ev.getR (pc' := 35) dX11_image_32 rfl fa_RX11_38 ob_0 fk_11_4 rf_0_4 ?_
      refine Ev.getI (pc' := 38) dX11_image_35 rfl fa_RX11_114 ob_53 fk_2_0 ?_
      exact Ef.iret dX11_image_38 rfl h
    · have h := h.2 hc
      refine Ev.iconst (pc' := 10) dX11_image_9 rfl ki_m1 ?_
      exact Ef.iret dX11_image_10 rfl h
def wpX11_back (a1 : Int32) (I : Ix) (L : Lx) (Q : Int32 → Ix → Lx → Prop) : Prop := (a1 < 0 → Q (-1) I L) ∧ (¬ a1 < 0 → (3 ≤ a1 → Q (-1) I L) ∧ (¬ 3 ≤ a1 → vp_in a1 3 ∧ (¬ (I 92 a1.toNatClampNeg) = 0 → vp_in a1 3 ∧ wpX2_copyFrom 53 (93 + 9 * a1.toNatClampNeg) I L (fun I2 L3 => Q (I2 53 0) I2 L3)) ∧ ((I 92 a1.toNatClampNeg) = 0 → Q (-1) I L)))
set_option maxRecDepth 10000 in
theorem okX11_back {G : Gx} {a1 : Int32} {I : Ix} {L : Lx} {Q : Int32 → Ix → Lx → Prop} (h : wpX11_back a1 I L Q) : Mf G MX11_back [.ref 0, .int a1] I L (qI Q) := by
  unfold wpX11_back at h
  refine Mf.of pn_RX11 (Nat.le_of_ble_eq_true rfl) ?_
  refine Ev.iload_n (k := 1) (pc' := 1) dX11_back_0 rfl rfl rfl ?_
  refine Ev.if_lt (pc' := 4) (tgt := 18) dX11_back_1 rfl rfl (fun hc => ?_) (fun hc => ?_)
  · have h := h.1 hc
    refine Ev.iconst (pc' := 19) dX11_back_18 rfl ki_m1 ?_
    exact Ef.iret dX11_back_19 rfl h
  · have h := h.2 hc
    refine Ev.iload_n (k := 1) (pc' := 5) dX11_back_4 rfl rfl rfl ?_
    refine Ev.iconst (pc' := 6) dX11_back_5 rfl ki_3 ?_
    refine Ev.icmp_ge (pc' := 9) (tgt := 18) dX11_back_6 rfl rfl (fun hc => ?_) (fun hc => ?_)
    · have h := h.1 hc
      refine Ev.iconst (pc' := 19) dX11_back_18 rfl ki_m1 ?_
      exact Ef.iret dX11_back_19 rfl h
    · have h := h.2 hc
      refine Ev.aload_n (k := 0) (pc' := 10) dX11_back_9 rfl rfl rfl ?_
      refine Ev.getR (pc' := 13) dX11_back_10 rfl fa_RX11_80 ob_0 fk_11_10 rf_0_10 ?_
      refine Ev.iload_n (k := 1) (pc' := 14) dX11_back_13 rfl rfl rfl ?_
      refine Ev.zaload (j := _) (pc' := 15) dX11_back_14 rfl ar_92 h.1 rfl ?_
      have h := h.2
      refine Ev.if_ne (pc' := 18) (tgt := 20) dX11_back_15 rfl rfl (fun hc => ?_) (fun hc => ?_)
      · have h := h.1 hc
        refine Ev.aload_n (k := 0) (pc' := 21) dX11_back_20 rfl rfl rfl ?_
        refine Ev.getR (pc' := 24) dX11_back_21 rfl fa_RX11_38 ob_0 fk_11_4 rf_0_4 ?_
        refine Ev.aload_n (k := 0) (pc' := 25) dX11_back_24 rfl rfl rfl ?_
        refine Ev.getR (pc' := 28) dX11_back_25 rfl fa_RX11_76 ob_0 fk_11_9 rf_0_9 ?_
        refine Ev.iload_n (k := 1) (pc' := 29) dX11_back_28 rfl rfl rfl ?_
        have hb1 := boxAt h.1
        refine Ev.aaload (pc' := 30) dX11_back_29 rfl ar_91 h.1 rfl hb1.1 ?_
        have h := h.2
        refine Ef.callVV [.ref _] [] (pc' := 33) dX11_back_30 rfl cv_RX11_268_X2_copyFrom ⟨Nat.le_of_ble_eq_true rfl, Nat.le_of_ble_eq_true rfl⟩ ob_53 rfl rfl rfl (Nat.le_of_ble_eq_true rfl) (okX2_copyFrom nowAt_53 hb1.2 h) (fun I2 L3 h => ?_)
        refine Ev.aload_n (k := 0) (pc' := 34) dX11_back_33 rfl rfl rfl ?_
        refine Ev.getR (pc' := 37) dX11_back_34 rfl fa_RX11_38 ob_0 fk_11_4 rf_0_4 ?_
        refine Ev.getI (pc' := 40) dX11_back_37 rfl fa_RX11_114 ob_53 fk_2_0 ?_
        exact Ef.iret dX11_back_40 rfl h
      · have h := h.2 hc
        refine Ev.iconst (pc' := 19) dX11_back_18 rfl ki_m1 ?_
        exact Ef.iret dX11_back_19 rfl h
def wpX11_about (a1 : Int32) (I : Ix) (L : Lx) (Q : Int32 → Ix → Lx → Prop) : Prop := (a1 = 0 → Q (I 4 0) I L) ∧ (a1 = 1 → Q (I 4 1) I L) ∧ (a1 = 2 → Q (I 3 2) I L) ∧ (a1 = 3 → Q (I 3 3) I L) ∧ (a1 = 4 → Q (I 53 0) I L) ∧ (a1 = 5 → Q (I 85 0) I L) ∧ (a1 = 6 → Q (I 0 11) I L) ∧ (a1 = 7 → Q (I 1 1) I L) ∧ (a1 = 8 → Q (I 53 2) I L) ∧ (a1 = 9 → Q (I 10 0) I L) ∧ (a1 = 10 → Q (I 53 1) I L) ∧ (¬ a1 = 0 → ¬ a1 = 1 → ¬ a1 = 2 → ¬ a1 = 3 → ¬ a1 = 4 → ¬ a1 = 5 → ¬ a1 = 6 → ¬ a1 = 7 → ¬ a1 = 8 → ¬ a1 = 9 → ¬ a1 = 10 → Q (-1) I L)
set_option maxRecDepth 10000 in
theorem okX11_about {G : Gx} {a1 : Int32} {I : Ix} {L : Lx} {Q : Int32 → Ix → Lx → Prop} (h : wpX11_about a1 I L Q) : Mf G MX11_about [.ref 0, .int a1] I L (qI Q) := by
  unfold wpX11_about at h
  refine Mf.of pn_RX11 (Nat.le_of_ble_eq_true rfl) ?_
  refine Ev.iload_n (k := 1) (pc' := 1) dX11_about_0 rfl rfl rfl ?_
  by_cases e0 : a1 = 0
  · refine Ev.tableIn (off := 59) (tgt := 60) dX11_about_1 (by rw [e0]; decide) (by rw [e0]; decide) (by rw [e0]; decide) rfl ?_
    have h := h.1 e0
    refine Ev.aload_n (k := 0) (pc' := 61) dX11_about_60 rfl rfl rfl ?_
    refine Ev.getR (pc' := 64) dX11_about_61 rfl fa_RX11_19 ob_0 fk_11_1 rf_0_1 ?_
    refine Ev.getR (pc' := 67) dX11_about_64 rfl fa_RX11_171 ob_3 fk_10_0 rf_3_0 ?_
    refine Ev.getI (pc' := 70) dX11_about_67 rfl fa_RX11_270 ob_4 fk_1_0 ?_
    exact Ef.iret dX11_about_70 rfl h
  by_cases e1 : a1 = 1
  · refine Ev.tableIn (off := 70) (tgt := 71) dX11_about_1 (by rw [e1]; decide) (by rw [e1]; decide) (by rw [e1]; decide) rfl ?_
    have h := h.2.1 e1
    refine Ev.aload_n (k := 0) (pc' := 72) dX11_about_71 rfl rfl rfl ?_
    refine Ev.getR (pc' := 75) dX11_about_72 rfl fa_RX11_19 ob_0 fk_11_1 rf_0_1 ?_
    refine Ev.getR (pc' := 78) dX11_about_75 rfl fa_RX11_171 ob_3 fk_10_0 rf_3_0 ?_
    refine Ev.getI (pc' := 81) dX11_about_78 rfl fa_RX11_273 ob_4 fk_1_1 ?_
    exact Ef.iret dX11_about_81 rfl h
  by_cases e2 : a1 = 2
  · refine Ev.tableIn (off := 81) (tgt := 82) dX11_about_1 (by rw [e2]; decide) (by rw [e2]; decide) (by rw [e2]; decide) rfl ?_
    have h := h.2.2.1 e2
    refine Ev.aload_n (k := 0) (pc' := 83) dX11_about_82 rfl rfl rfl ?_
    refine Ev.getR (pc' := 86) dX11_about_83 rfl fa_RX11_19 ob_0 fk_11_1 rf_0_1 ?_
    refine Ev.getI (pc' := 89) dX11_about_86 rfl fa_RX11_227 ob_3 fk_10_2 ?_
    exact Ef.iret dX11_about_89 rfl h
  by_cases e3 : a1 = 3
  · refine Ev.tableIn (off := 89) (tgt := 90) dX11_about_1 (by rw [e3]; decide) (by rw [e3]; decide) (by rw [e3]; decide) rfl ?_
    have h := h.2.2.2.1 e3
    refine Ev.aload_n (k := 0) (pc' := 91) dX11_about_90 rfl rfl rfl ?_
    refine Ev.getR (pc' := 94) dX11_about_91 rfl fa_RX11_19 ob_0 fk_11_1 rf_0_1 ?_
    refine Ev.getI (pc' := 97) dX11_about_94 rfl fa_RX11_105 ob_3 fk_10_3 ?_
    exact Ef.iret dX11_about_97 rfl h
  by_cases e4 : a1 = 4
  · refine Ev.tableIn (off := 97) (tgt := 98) dX11_about_1 (by rw [e4]; decide) (by rw [e4]; decide) (by rw [e4]; decide) rfl ?_
    have h := h.2.2.2.2.1 e4
    refine Ev.aload_n (k := 0) (pc' := 99) dX11_about_98 rfl rfl rfl ?_
    refine Ev.getR (pc' := 102) dX11_about_99 rfl fa_RX11_38 ob_0 fk_11_4 rf_0_4 ?_
    refine Ev.getI (pc' := 105) dX11_about_102 rfl fa_RX11_114 ob_53 fk_2_0 ?_
    exact Ef.iret dX11_about_105 rfl h
  by_cases e5 : a1 = 5
  · refine Ev.tableIn (off := 105) (tgt := 106) dX11_about_1 (by rw [e5]; decide) (by rw [e5]; decide) (by rw [e5]; decide) rfl ?_
    have h := h.2.2.2.2.2.1 e5
    refine Ev.aload_n (k := 0) (pc' := 107) dX11_about_106 rfl rfl rfl ?_
    refine Ev.getR (pc' := 110) dX11_about_107 rfl fa_RX11_72 ob_0 fk_11_8 rf_0_8 ?_
    refine Ev.getI (pc' := 113) dX11_about_110 rfl fa_RX11_102 ob_85 fk_6_0 ?_
    exact Ef.iret dX11_about_113 rfl h
  by_cases e6 : a1 = 6
  · refine Ev.tableIn (off := 113) (tgt := 114) dX11_about_1 (by rw [e6]; decide) (by rw [e6]; decide) (by rw [e6]; decide) rfl ?_
    have h := h.2.2.2.2.2.2.1 e6
    refine Ev.aload_n (k := 0) (pc' := 115) dX11_about_114 rfl rfl rfl ?_
    refine Ev.getI (pc' := 118) dX11_about_115 rfl fa_RX11_242 ob_0 fk_11_11 ?_
    exact Ef.iret dX11_about_118 rfl h
  by_cases e7 : a1 = 7
  · refine Ev.tableIn (off := 118) (tgt := 119) dX11_about_1 (by rw [e7]; decide) (by rw [e7]; decide) (by rw [e7]; decide) rfl ?_
    have h := h.2.2.2.2.2.2.2.1 e7
    refine Ev.aload_n (k := 0) (pc' := 120) dX11_about_119 rfl rfl rfl ?_
    refine Ev.getR (pc' := 123) dX11_about_120 rfl fa_RX11_10 ob_0 fk_11_0 rf_0_0 ?_
    refine Ev.getI (pc' := 126) dX11_about_123 rfl fa_RX11_84 ob_1 fk_7_1 ?_
    exact Ef.iret dX11_about_126 rfl h
  by_cases e8 : a1 = 8
  · refine Ev.tableIn (off := 126) (tgt := 127) dX11_about_1 (by rw [e8]; decide) (by rw [e8]; decide) (by rw [e8]; decide) rfl ?_
    have h := h.2.2.2.2.2.2.2.2.1 e8
    refine Ev.aload_n (k := 0) (pc' := 128) dX11_about_127 rfl rfl rfl ?_
    refine Ev.getR (pc' := 131) dX11_about_128 rfl fa_RX11_38 ob_0 fk_11_4 rf_0_4 ?_
    refine Ev.getI (pc' := 134) dX11_about_131 rfl fa_RX11_265 ob_53 fk_2_2 ?_
    exact Ef.iret dX11_about_134 rfl h
  by_cases e9 : a1 = 9
  · refine Ev.tableIn (off := 134) (tgt := 135) dX11_about_1 (by rw [e9]; decide) (by rw [e9]; decide) (by rw [e9]; decide) rfl ?_
    have h := h.2.2.2.2.2.2.2.2.2.1 e9
    refine Ev.aload_n (k := 0) (pc' := 136) dX11_about_135 rfl rfl rfl ?_
    refine Ev.getR (pc' := 139) dX11_about_136 rfl fa_RX11_19 ob_0 fk_11_1 rf_0_1 ?_
    refine Ev.getR (pc' := 142) dX11_about_139 rfl fa_RX11_276 ob_3 fk_10_1 rf_3_1 ?_
    refine Ev.getI (pc' := 145) dX11_about_142 rfl fa_RX11_280 ob_10 fk_4_0 ?_
    exact Ef.iret dX11_about_145 rfl h
  by_cases e10 : a1 = 10
  · refine Ev.tableIn (off := 145) (tgt := 146) dX11_about_1 (by rw [e10]; decide) (by rw [e10]; decide) (by rw [e10]; decide) rfl ?_
    have h := h.2.2.2.2.2.2.2.2.2.2.1 e10
    refine Ev.aload_n (k := 0) (pc' := 147) dX11_about_146 rfl rfl rfl ?_
    refine Ev.getR (pc' := 150) dX11_about_147 rfl fa_RX11_38 ob_0 fk_11_4 rf_0_4 ?_
    refine Ev.getI (pc' := 153) dX11_about_150 rfl fa_RX11_285 ob_53 fk_2_1 ?_
    exact Ef.iret dX11_about_153 rfl h
  have h := h.2.2.2.2.2.2.2.2.2.2.2 e0 e1 e2 e3 e4 e5 e6 e7 e8 e9 e10
  refine Ev.tableOut (tgt := 154) dX11_about_1 (sw_out fun v h1 h2 => ?_) rfl ?_
  · have h3 : v = 0 ∨ v = 1 ∨ v = 2 ∨ v = 3 ∨ v = 4 ∨ v = 5 ∨ v = 6 ∨ v = 7 ∨ v = 8 ∨ v = 9 ∨ v = 10 := by omega
    rcases h3 with rfl | rfl | rfl | rfl | rfl | rfl | rfl | rfl | rfl | rfl | rfl
    · exact fun q => e0 (q.trans (by decide))
    · exact fun q => e1 (q.trans (by decide))
    · exact fun q => e2 (q.trans (by decide))
    · exact fun q => e3 (q.trans (by decide))
    · exact fun q => e4 (q.trans (by decide))
    · exact fun q => e5 (q.trans (by decide))
    · exact fun q => e6 (q.trans (by decide))
    · exact fun q => e7 (q.trans (by decide))
    · exact fun q => e8 (q.trans (by decide))
    · exact fun q => e9 (q.trans (by decide))
    · exact fun q => e10 (q.trans (by decide))
  · refine Ev.iconst (pc' := 155) dX11_about_154 rfl ki_m1 ?_
    exact Ef.iret dX11_about_155 rfl h
def wpX12_four_l3 (Q : Ix → Lx → Prop) (P3 : Int32 → Int32 → Ix → Lx → Prop) (v1 : Int32) (v2 : Int32) (I : Ix) (L : Lx) : Prop := (v2 < 0 → Q I L) ∧ (¬ v2 < 0 → vp_in (I 120 1) 1700 ∧ ∀ I1 : Ix, I1 = pu I 121 (I 120 1).toNatClampNeg ((jshr v1 v2) &&& 255) → ∀ I2 : Ix, I2 = pu I1 120 1 ((I1 120 1) + 1) → P3 v1 (v2 + (-8)) I2 L)
def wpX12_four_h3 (Q : Ix → Lx → Prop) (v1 : Int32) (v2 : Int32) (I : Ix) (L : Lx) : Prop := Lfp (X := Int32 × Int32 × Ix × Lx) (fun P z => wpX12_four_l3 Q (fun v1 v2 I L => P (v1, v2, I, L)) z.1 z.2.1 z.2.2.1 z.2.2.2) (v1, v2, I, L)
theorem wpX12_four_h3_fold {Q : Ix → Lx → Prop} {v1 : Int32} {v2 : Int32} {I : Ix} {L : Lx} (h : wpX12_four_l3 Q (wpX12_four_h3 Q) v1 v2 I L) : wpX12_four_h3 Q v1 v2 I L := Lfp.fold h
def wpX12_four (a1 : Int32) (I : Ix) (L : Lx) (Q : Ix → Lx → Prop) : Prop := wpX12_four_h3 Q a1 24 I L
set_option maxRecDepth 10000 in
theorem okX12_four_l3 {G : Gx} {Q : Ix → Lx → Prop} {P3 : Int32 → Int32 → Ix → Lx → Prop} (hP3 : ∀ (v1 : Int32) (v2 : Int32) (I : Ix) (L : Lx), P3 v1 v2 I L → Ef G MX12_four (qV Q) 3 [(0, .ref 120), (1, .int v1), (2, .int v2)] [] I L) {v1 : Int32} {v2 : Int32} {I : Ix} {L : Lx} (h : wpX12_four_l3 Q P3 v1 v2 I L) : Ef G MX12_four (qV Q) 3 [(0, .ref 120), (1, .int v1), (2, .int v2)] [] I L := by
  unfold wpX12_four_l3 at h
  refine Ev.iload_n (k := 2) (pc' := 4) dX12_four_3 rfl rfl rfl ?_
  refine Ev.if_lt (pc' := 7) (tgt := 39) dX12_four_4 rfl rfl (fun hc => ?_) (fun hc => ?_)
  · have h := h.1 hc
    exact Ef.vret dX12_four_39 rfl h
  · have h := h.2 hc
    refine Ev.aload_n (k := 0) (pc' := 8) dX12_four_7 rfl rfl rfl ?_
    refine Ev.getR (pc' := 11) dX12_four_8 rfl fa_RX12_7 ob_120 fk_12_0 rf_120_0 ?_
    refine Ev.aload_n (k := 0) (pc' := 12) dX12_four_11 rfl rfl rfl ?_
    refine Ev.getI (pc' := 15) dX12_four_12 rfl fa_RX12_196 ob_120 fk_12_1 ?_
    refine Ev.iload_n (k := 1) (pc' := 16) dX12_four_15 rfl rfl rfl ?_
    refine Ev.iload_n (k := 2) (pc' := 17) dX12_four_16 rfl rfl rfl ?_
    refine Ev.ishr (pc' := 18) dX12_four_17 rfl ?_
    refine Ev.sipush (pc' := 21) dX12_four_18 rfl ks_255 ?_
    refine Ev.iand (pc' := 22) dX12_four_21 rfl ?_
    refine Ev.iastore (j := _) (pc' := 23) dX12_four_22 rfl ar_121 h.1 rfl (fun I1 eI1 => ?_)
    have h := h.2 I1 eI1
    refine Ev.aload_n (k := 0) (pc' := 24) dX12_four_23 rfl rfl rfl ?_
    refine Ev.dup (pc' := 25) dX12_four_24 rfl rfl ?_
    refine Ev.getI (pc' := 28) dX12_four_25 rfl fa_RX12_196 ob_120 fk_12_1 ?_
    refine Ev.iconst (pc' := 29) dX12_four_28 rfl ki_1 ?_
    refine Ev.iadd (pc' := 30) dX12_four_29 rfl ?_
    refine Ev.putI (pc' := 33) dX12_four_30 rfl fa_RX12_196 ob_120 fk_12_1 rfl rfl (fun I2 eI2 => ?_)
    have h := h I2 eI2
    refine Ev.iinc (k := 2) (v := _) (ls' := [(2, .int _), (0, .ref _), (1, .int _)]) (pc' := 36) dX12_four_33 rfl rfl (congrArg (_ + ·) ki_m8) (Nat.le_of_ble_eq_true rfl) rfl ?_
    refine Ev.goto (tgt := 3) dX12_four_36 rfl ?_
    exact Ev.sub [1, 2, 0] rfl (hP3 _ _ _ _ h)
set_option maxRecDepth 10000 in
theorem okX12_four_h3 {G : Gx} {Q : Ix → Lx → Prop} {v1 : Int32} {v2 : Int32} {I : Ix} {L : Lx} (h : wpX12_four_h3 Q v1 v2 I L) : Ef G MX12_four (qV Q) 3 [(0, .ref 120), (1, .int v1), (2, .int v2)] [] I L := by
  unfold wpX12_four_h3 at h
  refine Lfp.ind (P := fun z => Ef G MX12_four (qV Q) 3 [(0, .ref 120), (1, .int z.1), (2, .int z.2.1)] [] z.2.2.1 z.2.2.2) ?_ h
  intro z P' hP' h
  obtain ⟨v1, v2, I, L⟩ := z
  exact okX12_four_l3 (fun v1 v2 I L h9 => hP' (v1, v2, I, L) h9) h
set_option maxRecDepth 10000 in
theorem okX12_four {G : Gx} {a1 : Int32} {I : Ix} {L : Lx} {Q : Ix → Lx → Prop} (h : wpX12_four a1 I L Q) : Mf G MX12_four [.ref 120, .int a1] I L (qV Q) := by
  unfold wpX12_four at h
  refine Mf.of pn_RX12 (Nat.le_of_ble_eq_true rfl) ?_
  refine Ev.bipush (pc' := 2) dX12_four_0 rfl kb_24 ?_
  refine Ev.istore_n (ls' := [(2, .int _), (0, .ref _), (1, .int _)]) (pc' := 3) dX12_four_2 rfl rfl (Nat.le_of_ble_eq_true rfl) rfl ?_
  exact Ev.sub [1, 2, 0] rfl (okX12_four_h3 h)
def wpX12_feed (a1 : Int32) (a2 : Int32) (a3 : Int32) (a4 : Int32) (a5 : Int32) (I : Ix) (L : Lx) (Q : Int32 → Ix → Lx → Prop) : Prop := (((I 120 1) + 20) ≤ 1700 → wpX12_four a1 I L (fun I1 L2 => wpX12_four a2 I1 L2 (fun I3 L4 => wpX12_four a3 I3 L4 (fun I5 L6 => wpX12_four a4 I5 L6 (fun I7 L8 => wpX12_four a5 I7 L8 (fun I9 L10 => Q (I9 120 1) I9 L10)))))) ∧ (¬ ((I 120 1) + 20) ≤ 1700 → Q (-1) I L)
set_option maxRecDepth 10000 in
theorem okX12_feed {G : Gx} {a1 : Int32} {a2 : Int32} {a3 : Int32} {a4 : Int32} {a5 : Int32} {I : Ix} {L : Lx} {Q : Int32 → Ix → Lx → Prop} (h : wpX12_feed a1 a2 a3 a4 a5 I L Q) : Mf G MX12_feed [.ref 120, .int a1, .int a2, .int a3, .int a4, .int a5] I L (qI Q) := by
  unfold wpX12_feed at h
  refine Mf.of pn_RX12 (Nat.le_of_ble_eq_true rfl) ?_
  refine Ev.aload_n (k := 0) (pc' := 1) dX12_feed_0 rfl rfl rfl ?_
  refine Ev.getI (pc' := 4) dX12_feed_1 rfl fa_RX12_196 ob_120 fk_12_1 ?_
  refine Ev.bipush (pc' := 6) dX12_feed_4 rfl kb_20 ?_
  refine Ev.iadd (pc' := 7) dX12_feed_6 rfl ?_
  refine Ev.sipush (pc' := 10) dX12_feed_7 rfl ks_1700 ?_
  refine Ev.icmp_le (pc' := 13) (tgt := 15) dX12_feed_10 rfl rfl (fun hc => ?_) (fun hc => ?_)
  · have h := h.1 hc
    refine Ev.aload_n (k := 0) (pc' := 16) dX12_feed_15 rfl rfl rfl ?_
    refine Ev.iload_n (k := 1) (pc' := 17) dX12_feed_16 rfl rfl rfl ?_
    refine Ef.callVV [.int _] [] (pc' := 20) dX12_feed_17 rfl cv_RX12_199_X12_four ⟨Nat.le_of_ble_eq_true rfl, Nat.le_of_ble_eq_true rfl⟩ ob_120 rfl rfl rfl (Nat.le_of_ble_eq_true rfl) (okX12_four h) (fun I1 L2 h => ?_)
    refine Ev.aload_n (k := 0) (pc' := 21) dX12_feed_20 rfl rfl rfl ?_
    refine Ev.iload_n (k := 2) (pc' := 22) dX12_feed_21 rfl rfl rfl ?_
    refine Ef.callVV [.int _] [] (pc' := 25) dX12_feed_22 rfl cv_RX12_199_X12_four ⟨Nat.le_of_ble_eq_true rfl, Nat.le_of_ble_eq_true rfl⟩ ob_120 rfl rfl rfl (Nat.le_of_ble_eq_true rfl) (okX12_four h) (fun I3 L4 h => ?_)
    refine Ev.aload_n (k := 0) (pc' := 26) dX12_feed_25 rfl rfl rfl ?_
    refine Ev.iload_n (k := 3) (pc' := 27) dX12_feed_26 rfl rfl rfl ?_
    refine Ef.callVV [.int _] [] (pc' := 30) dX12_feed_27 rfl cv_RX12_199_X12_four ⟨Nat.le_of_ble_eq_true rfl, Nat.le_of_ble_eq_true rfl⟩ ob_120 rfl rfl rfl (Nat.le_of_ble_eq_true rfl) (okX12_four h) (fun I5 L6 h => ?_)
    refine Ev.aload_n (k := 0) (pc' := 31) dX12_feed_30 rfl rfl rfl ?_
    refine Ev.iload (k := 4) (pc' := 33) dX12_feed_31 rfl rfl ?_
    refine Ef.callVV [.int _] [] (pc' := 36) dX12_feed_33 rfl cv_RX12_199_X12_four ⟨Nat.le_of_ble_eq_true rfl, Nat.le_of_ble_eq_true rfl⟩ ob_120 rfl rfl rfl (Nat.le_of_ble_eq_true rfl) (okX12_four h) (fun I7 L8 h => ?_)
    refine Ev.aload_n (k := 0) (pc' := 37) dX12_feed_36 rfl rfl rfl ?_
    refine Ev.iload (k := 5) (pc' := 39) dX12_feed_37 rfl rfl ?_
    refine Ef.callVV [.int _] [] (pc' := 42) dX12_feed_39 rfl cv_RX12_199_X12_four ⟨Nat.le_of_ble_eq_true rfl, Nat.le_of_ble_eq_true rfl⟩ ob_120 rfl rfl rfl (Nat.le_of_ble_eq_true rfl) (okX12_four h) (fun I9 L10 h => ?_)
    refine Ev.aload_n (k := 0) (pc' := 43) dX12_feed_42 rfl rfl rfl ?_
    refine Ev.getI (pc' := 46) dX12_feed_43 rfl fa_RX12_196 ob_120 fk_12_1 ?_
    exact Ef.iret dX12_feed_46 rfl h
  · have h := h.2 hc
    refine Ev.iconst (pc' := 14) dX12_feed_13 rfl ki_m1 ?_
    exact Ef.iret dX12_feed_14 rfl h
def wpX12_end (a1 : Int32) (I : Ix) (L : Lx) (Q : Int32 → Ix → Lx → Prop) : Prop := (a1 < 0 → Q (-1) I L) ∧ (¬ a1 < 0 → (a1 ≤ (I 120 1) → ∀ I1 : Ix, I1 = pu I 120 1 a1 → Q a1 I1 L) ∧ (¬ a1 ≤ (I 120 1) → Q (-1) I L))
set_option maxRecDepth 10000 in
theorem okX12_end {G : Gx} {a1 : Int32} {I : Ix} {L : Lx} {Q : Int32 → Ix → Lx → Prop} (h : wpX12_end a1 I L Q) : Mf G MX12_end [.ref 120, .int a1] I L (qI Q) := by
  unfold wpX12_end at h
  refine Mf.of pn_RX12 (Nat.le_of_ble_eq_true rfl) ?_
  refine Ev.iload_n (k := 1) (pc' := 1) dX12_end_0 rfl rfl rfl ?_
  refine Ev.if_lt (pc' := 4) (tgt := 12) dX12_end_1 rfl rfl (fun hc => ?_) (fun hc => ?_)
  · have h := h.1 hc
    refine Ev.iconst (pc' := 13) dX12_end_12 rfl ki_m1 ?_
    exact Ef.iret dX12_end_13 rfl h
  · have h := h.2 hc
    refine Ev.iload_n (k := 1) (pc' := 5) dX12_end_4 rfl rfl rfl ?_
    refine Ev.aload_n (k := 0) (pc' := 6) dX12_end_5 rfl rfl rfl ?_
    refine Ev.getI (pc' := 9) dX12_end_6 rfl fa_RX12_196 ob_120 fk_12_1 ?_
    refine Ev.icmp_le (pc' := 12) (tgt := 14) dX12_end_9 rfl rfl (fun hc => ?_) (fun hc => ?_)
    · have h := h.1 hc
      refine Ev.aload_n (k := 0) (pc' := 15) dX12_end_14 rfl rfl rfl ?_
      refine Ev.iload_n (k := 1) (pc' := 16) dX12_end_15 rfl rfl rfl ?_
      refine Ev.putI (pc' := 19) dX12_end_16 rfl fa_RX12_196 ob_120 fk_12_1 rfl rfl (fun I1 eI1 => ?_)
      have h := h I1 eI1
      refine Ev.iload_n (k := 1) (pc' := 20) dX12_end_19 rfl rfl rfl ?_
      exact Ef.iret dX12_end_20 rfl h
    · have h := h.2 hc
      refine Ev.iconst (pc' := 13) dX12_end_12 rfl ki_m1 ?_
      exact Ef.iret dX12_end_13 rfl h
def wpX12_layFar_l76 (Q : Ix → Lx → Prop) (P56 : Int32 → Ix → Lx → Prop) (P66 : Int32 → Int32 → Ix → Lx → Prop) (P76 : Int32 → Int32 → Int32 → Ix → Lx → Prop) (v1 : Int32) (v2 : Int32) (v3 : Int32) (I : Ix) (L : Lx) : Prop := ((I 120 42) ≤ v3 → P66 v1 (v2 + 1) I L) ∧ (¬ (I 120 42) ≤ v3 → vp_in ((8 * v2) + v1) 64 ∧ vp_in ((8 * v1) + v3) 64 ∧ vp_in ((8 * v2) + v3) 64 ∧ ((I 140 ((8 * v2) + v3).toNatClampNeg) ≤ ((I 140 ((8 * v2) + v1).toNatClampNeg) + (I 140 ((8 * v1) + v3).toNatClampNeg)) → P76 v1 v2 (v3 + 1) I L) ∧ (¬ (I 140 ((8 * v2) + v3).toNatClampNeg) ≤ ((I 140 ((8 * v2) + v1).toNatClampNeg) + (I 140 ((8 * v1) + v3).toNatClampNeg)) → vp_in ((8 * v2) + v3) 64 ∧ ∀ I1 : Ix, I1 = pu I 140 ((8 * v2) + v3).toNatClampNeg ((I 140 ((8 * v2) + v1).toNatClampNeg) + (I 140 ((8 * v1) + v3).toNatClampNeg)) → P76 v1 v2 (v3 + 1) I1 L))
def wpX12_layFar_h76 (Q : Ix → Lx → Prop) (P56 : Int32 → Ix → Lx → Prop) (P66 : Int32 → Int32 → Ix → Lx → Prop) (v1 : Int32) (v2 : Int32) (v3 : Int32) (I : Ix) (L : Lx) : Prop := Lfp (X := Int32 × Int32 × Int32 × Ix × Lx) (fun P z => wpX12_layFar_l76 Q P56 P66 (fun v1 v2 v3 I L => P (v1, v2, v3, I, L)) z.1 z.2.1 z.2.2.1 z.2.2.2.1 z.2.2.2.2) (v1, v2, v3, I, L)
theorem wpX12_layFar_h76_fold {Q : Ix → Lx → Prop} {P56 : Int32 → Ix → Lx → Prop} {P66 : Int32 → Int32 → Ix → Lx → Prop} {v1 : Int32} {v2 : Int32} {v3 : Int32} {I : Ix} {L : Lx} (h : wpX12_layFar_l76 Q P56 P66 (wpX12_layFar_h76 Q P56 P66) v1 v2 v3 I L) : wpX12_layFar_h76 Q P56 P66 v1 v2 v3 I L := Lfp.fold h
def wpX12_layFar_l66 (Q : Ix → Lx → Prop) (P56 : Int32 → Ix → Lx → Prop) (P66 : Int32 → Int32 → Ix → Lx → Prop) (v1 : Int32) (v2 : Int32) (I : Ix) (L : Lx) : Prop := ((I 120 42) ≤ v2 → P56 (v1 + 1) I L) ∧ (¬ (I 120 42) ≤ v2 → wpX12_layFar_h76 Q P56 P66 v1 v2 0 I L)
def wpX12_layFar_h66 (Q : Ix → Lx → Prop) (P56 : Int32 → Ix → Lx → Prop) (v1 : Int32) (v2 : Int32) (I : Ix) (L : Lx) : Prop := Lfp (X := Int32 × Int32 × Ix × Lx) (fun P z => wpX12_layFar_l66 Q P56 (fun v1 v2 I L => P (v1, v2, I, L)) z.1 z.2.1 z.2.2.1 z.2.2.2) (v1, v2, I, L)
theorem wpX12_layFar_h66_fold {Q : Ix → Lx → Prop} {P56 : Int32 → Ix → Lx → Prop} {v1 : Int32} {v2 : Int32} {I : Ix} {L : Lx} (h : wpX12_layFar_l66 Q P56 (wpX12_layFar_h66 Q P56) v1 v2 I L) : wpX12_layFar_h66 Q P56 v1 v2 I L := Lfp.fold h
def wpX12_layFar_l56 (Q : Ix → Lx → Prop) (P56 : Int32 → Ix → Lx → Prop) (v1 : Int32) (I : Ix) (L : Lx) : Prop := ((I 120 42) ≤ v1 → Q I L) ∧ (¬ (I 120 42) ≤ v1 → wpX12_layFar_h66 Q P56 v1 0 I L)
def wpX12_layFar_h56 (Q : Ix → Lx → Prop) (v1 : Int32) (I : Ix) (L : Lx) : Prop := Lfp (X := Int32 × Ix × Lx) (fun P z => wpX12_layFar_l56 Q (fun v1 I L => P (v1, I, L)) z.1 z.2.1 z.2.2) (v1, I, L)
theorem wpX12_layFar_h56_fold {Q : Ix → Lx → Prop} {v1 : Int32} {I : Ix} {L : Lx} (h : wpX12_layFar_l56 Q (wpX12_layFar_h56 Q) v1 I L) : wpX12_layFar_h56 Q v1 I L := Lfp.fold h
def wpX12_layFar_b47 (Q : Ix → Lx → Prop) (P2 : Int32 → Ix → Lx → Prop) (v1 : Int32) (t1 : Int32) (t2 : Int32) (I : Ix) (L : Lx) : Prop := vp_in t1 64 ∧ ∀ I1 : Ix, I1 = pu I 140 t1.toNatClampNeg t2 → P2 (v1 + 1) I1 L
def wpX12_layFar_l2 (Q : Ix → Lx → Prop) (P2 : Int32 → Ix → Lx → Prop) (v1 : Int32) (I : Ix) (L : Lx) : Prop := (64 ≤ v1 → wpX12_layFar_h56 Q 0 I L) ∧ (¬ 64 ≤ v1 → (¬ (v1 / 8) = (jrem v1 8) → (¬ (I 120 42) = 0 → vp_in v1 64 ∧ wpX12_layFar_b47 Q P2 v1 v1 (I 139 v1.toNatClampNeg) I L) ∧ ((I 120 42) = 0 → wpX12_layFar_b47 Q P2 v1 v1 999 I L)) ∧ ((v1 / 8) = (jrem v1 8) → wpX12_layFar_b47 Q P2 v1 v1 0 I L))
def wpX12_layFar_h2 (Q : Ix → Lx → Prop) (v1 : Int32) (I : Ix) (L : Lx) : Prop := Lfp (X := Int32 × Ix × Lx) (fun P z => wpX12_layFar_l2 Q (fun v1 I L => P (v1, I, L)) z.1 z.2.1 z.2.2) (v1, I, L)
theorem wpX12_layFar_h2_fold {Q : Ix → Lx → Prop} {v1 : Int32} {I : Ix} {L : Lx} (h : wpX12_layFar_l2 Q (wpX12_layFar_h2 Q) v1 I L) : wpX12_layFar_h2 Q v1 I L := Lfp.fold h
def wpX12_layFar (I : Ix) (L : Lx) (Q : Ix → Lx → Prop) : Prop := wpX12_layFar_h2 Q 0 I L
set_option maxRecDepth 10000 in
theorem okX12_layFar_l76 {G : Gx} {Q : Ix → Lx → Prop} {P56 : Int32 → Ix → Lx → Prop} {P66 : Int32 → Int32 → Ix → Lx → Prop} {P76 : Int32 → Int32 → Int32 → Ix → Lx → Prop} (hP56 : ∀ (v1 : Int32) (I : Ix) (L : Lx), P56 v1 I L → Ef G MX12_layFar (qV Q) 56 [(0, .ref 120), (1, .int v1)] [] I L) (hP66 : ∀ (v1 : Int32) (v2 : Int32) (I : Ix) (L : Lx), P66 v1 v2 I L → Ef G MX12_layFar (qV Q) 66 [(0, .ref 120), (1, .int v1), (2, .int v2)] [] I L) (hP76 : ∀ (v1 : Int32) (v2 : Int32) (v3 : Int32) (I : Ix) (L : Lx), P76 v1 v2 v3 I L → Ef G MX12_layFar (qV Q) 76 [(0, .ref 120), (1, .int v1), (2, .int v2), (3, .int v3)] [] I L) {v1 : Int32} {v2 : Int32} {v3 : Int32} {I : Ix} {L : Lx} (h : wpX12_layFar_l76 Q P56 P66 P76 v1 v2 v3 I L) : Ef G MX12_layFar (qV Q) 76 [(0, .ref 120), (1, .int v1), (2, .int v2), (3, .int v3)] [] I L := by
  unfold wpX12_layFar_l76 at h
  refine Ev.iload_n (k := 3) (pc' := 77) dX12_layFar_76 rfl rfl rfl ?_
  refine Ev.aload_n (k := 0) (pc' := 78) dX12_layFar_77 rfl rfl rfl ?_
  refine Ev.getI (pc' := 81) dX12_layFar_78 rfl fa_RX12_431 ob_120 fk_12_42 ?_
  refine Ev.icmp_ge (pc' := 84) (tgt := 144) dX12_layFar_81 rfl rfl (fun hc => ?_) (fun hc => ?_)
  · have h := h.1 hc
    refine Ev.iinc (k := 2) (v := _) (ls' := [(2, .int _), (0, .ref _), (1, .int _), (3, .int _)]) (pc' := 147) dX12_layFar_144 rfl rfl (congrArg (_ + ·) ki_1) (Nat.le_of_ble_eq_true rfl) rfl ?_
    refine Ev.goto (tgt := 66) dX12_layFar_147 rfl ?_
    exact Ev.sub [1, 2, 0] rfl (hP66 _ _ _ _ h)
  · have h := h.2 hc
    refine Ev.aload_n (k := 0) (pc' := 85) dX12_layFar_84 rfl rfl rfl ?_
    refine Ev.getR (pc' := 88) dX12_layFar_85 rfl fa_RX12_72 ob_120 fk_12_33 rf_120_33 ?_
    refine Ev.bipush (pc' := 90) dX12_layFar_88 rfl kb_8 ?_
    refine Ev.iload_n (k := 2) (pc' := 91) dX12_layFar_90 rfl rfl rfl ?_
    refine Ev.imul (pc' := 92) dX12_layFar_91 rfl ?_
    refine Ev.iload_n (k := 1) (pc' := 93) dX12_layFar_92 rfl rfl rfl ?_
    refine Ev.iadd (pc' := 94) dX12_layFar_93 rfl ?_
    refine Ev.iaload (j := _) (pc' := 95) dX12_layFar_94 rfl ar_140 h.1 rfl ?_
    have h := h.2
    refine Ev.aload_n (k := 0) (pc' := 96) dX12_layFar_95 rfl rfl rfl ?_
    refine Ev.getR (pc' := 99) dX12_layFar_96 rfl fa_RX12_72 ob_120 fk_12_33 rf_120_33 ?_
    refine Ev.bipush (pc' := 101) dX12_layFar_99 rfl kb_8 ?_
    refine Ev.iload_n (k := 1) (pc' := 102) dX12_layFar_101 rfl rfl rfl ?_
    refine Ev.imul (pc' := 103) dX12_layFar_102 rfl ?_
    refine Ev.iload_n (k := 3) (pc' := 104) dX12_layFar_103 rfl rfl rfl ?_
    refine Ev.iadd (pc' := 105) dX12_layFar_104 rfl ?_
    refine Ev.iaload (j := _) (pc' := 106) dX12_layFar_105 rfl ar_140 h.1 rfl ?_
    have h := h.2
    refine Ev.iadd (pc' := 107) dX12_layFar_106 rfl ?_
    refine Ev.istore (ls' := [(4, .int _), (0, .ref _), (1, .int _), (2, .int _), (3, .int _)]) (pc' := 109) dX12_layFar_107 rfl (Nat.le_of_ble_eq_true rfl) rfl ?_
    refine Ev.iload (k := 0) (pc' := 111) dX12_layFar_109 rfl rfl ?_
    refine Ev.aload_n (k := 1) (pc' := 112) dX12_layFar_111 rfl rfl rfl ?_
    refine Ev.getR (pc' := 115) dX12_layFar_112 rfl fa_RX12_72 ob_120 fk_12_33 rf_120_33 ?_
    refine Ev.bipush (pc' := 117) dX12_layFar_115 rfl kb_8 ?_
    refine Ev.iload_n (k := 3) (pc' := 118) dX12_layFar_117 rfl rfl rfl ?_
    refine Ev.imul (pc' := 119) dX12_layFar_118 rfl ?_
    refine Ev.iload_n (k := 4) (pc' := 120) dX12_layFar_119 rfl rfl rfl ?_
    refine Ev.iadd (pc' := 121) dX12_layFar_120 rfl ?_
    refine Ev.iaload (j := _) (pc' := 122) dX12_layFar_121 rfl ar_140 h.1 rfl ?_
    have h := h.2
    refine Ev.icmp_ge (pc' := 125) (tgt := 138) dX12_layFar_122 rfl rfl (fun hc => ?_) (fun hc => ?_)
    · have h := h.1 hc
      refine Ev.iinc (k := 4) (v := _) (ls' := [(3, .int _), (4, .int _), (0, .ref _), (1, .int _), (2, .int _)]) (pc' := 141) dX12_layFar_138 rfl rfl (congrArg (_ + ·) ki_1) (Nat.le_of_ble_eq_true rfl) rfl ?_
      refine Ev.goto (tgt := 76) dX12_layFar_141 rfl ?_
      exact Ev.sub [2, 3, 4, 0] rfl (hP76 _ _ _ _ _ h)
    · have h := h.2 hc
      refine Ev.aload_n (k := 1) (pc' := 126) dX12_layFar_125 rfl rfl rfl ?_
      refine Ev.getR (pc' := 129) dX12_layFar_126 rfl fa_RX12_72 ob_120 fk_12_33 rf_120_33 ?_
      refine Ev.bipush (pc' := 131) dX12_layFar_129 rfl kb_8 ?_
      refine Ev.iload_n (k := 3) (pc' := 132) dX12_layFar_131 rfl rfl rfl ?_
      refine Ev.imul (pc' := 133) dX12_layFar_132 rfl ?_
      refine Ev.iload_n (k := 4) (pc' := 134) dX12_layFar_133 rfl rfl rfl ?_
      refine Ev.iadd (pc' := 135) dX12_layFar_134 rfl ?_
      refine Ev.iload (k := 0) (pc' := 137) dX12_layFar_135 rfl rfl ?_
      refine Ev.iastore (j := _) (pc' := 138) dX12_layFar_137 rfl ar_140 h.1 rfl (fun I1 eI1 => ?_)
      have h := h.2 I1 eI1
      refine Ev.iinc (k := 4) (v := _) (ls' := [(3, .int _), (4, .int _), (0, .ref _), (1, .int _), (2, .int _)]) (pc' := 141) dX12_layFar_138 rfl rfl (congrArg (_ + ·) ki_1) (Nat.le_of_ble_eq_true rfl) rfl ?_
      refine Ev.goto (tgt := 76) dX12_layFar_141 rfl ?_
      exact Ev.sub [2, 3, 4, 0] rfl (hP76 _ _ _ _ _ h)
set_option maxRecDepth 10000 in
theorem okX12_layFar_h76 {G : Gx} {Q : Ix → Lx → Prop} {P56 : Int32 → Ix → Lx → Prop} {P66 : Int32 → Int32 → Ix → Lx → Prop} (hP56 : ∀ (v1 : Int32) (I : Ix) (L : Lx), P56 v1 I L → Ef G MX12_layFar (qV Q) 56 [(0, .ref 120), (1, .int v1)] [] I L) (hP66 : ∀ (v1 : Int32) (v2 : Int32) (I : Ix) (L : Lx), P66 v1 v2 I L → Ef G MX12_layFar (qV Q) 66 [(0, .ref 120), (1, .int v1), (2, .int v2)] [] I L) {v1 : Int32} {v2 : Int32} {v3 : Int32} {I : Ix} {L : Lx} (h : wpX12_layFar_h76 Q P56 P66 v1 v2 v3 I L) : Ef G MX12_layFar (qV Q) 76 [(0, .ref 120), (1, .int v1), (2, .int v2), (3, .int v3)] [] I L := by
  unfold wpX12_layFar_h76 at h
  refine Lfp.ind (P := fun z => Ef G MX12_layFar (qV Q) 76 [(0, .ref 120), (1, .int z.1), (2, .int z.2.1), (3, .int z.2.2.1)] [] z.2.2.2.1 z.2.2.2.2) ?_ h
  intro z P' hP' h
  obtain ⟨v1, v2, v3, I, L⟩ := z
  exact okX12_layFar_l76 hP56 hP66 (fun v1 v2 v3 I L h9 => hP' (v1, v2, v3, I, L) h9) h
set_option maxRecDepth 10000 in
theorem okX12_layFar_l66 {G : Gx} {Q : Ix → Lx → Prop} {P56 : Int32 → Ix → Lx → Prop} {P66 : Int32 → Int32 → Ix → Lx → Prop} (hP56 : ∀ (v1 : Int32) (I : Ix) (L : Lx), P56 v1 I L → Ef G MX12_layFar (qV Q) 56 [(0, .ref 120), (1, .int v1)] [] I L) (hP66 : ∀ (v1 : Int32) (v2 : Int32) (I : Ix) (L : Lx), P66 v1 v2 I L → Ef G MX12_layFar (qV Q) 66 [(0, .ref 120), (1, .int v1), (2, .int v2)] [] I L) {v1 : Int32} {v2 : Int32} {I : Ix} {L : Lx} (h : wpX12_layFar_l66 Q P56 P66 v1 v2 I L) : Ef G MX12_layFar (qV Q) 66 [(0, .ref 120), (1, .int v1), (2, .int v2)] [] I L := by
  unfold wpX12_layFar_l66 at h
  refine Ev.iload_n (k := 2) (pc' := 67) dX12_layFar_66 rfl rfl rfl ?_
  refine Ev.aload_n (k := 0) (pc' := 68) dX12_layFar_67 rfl rfl rfl ?_
  refine Ev.getI (pc' := 71) dX12_layFar_68 rfl fa_RX12_431 ob_120 fk_12_42 ?_
  refine Ev.icmp_ge (pc' := 74) (tgt := 150) dX12_layFar_71 rfl rfl (fun hc => ?_) (fun hc => ?_)
  · have h := h.1 hc
    refine Ev.iinc (k := 1) (v := _) (ls' := [(1, .int _), (0, .ref _), (2, .int _)]) (pc' := 153) dX12_layFar_150 rfl rfl (congrArg (_ + ·) ki_1) (Nat.le_of_ble_eq_true rfl) rfl ?_
    refine Ev.goto (tgt := 56) dX12_layFar_153 rfl ?_
    exact Ev.sub [1, 0] rfl (hP56 _ _ _ h)
  · have h := h.2 hc
    refine Ev.iconst (pc' := 75) dX12_layFar_74 rfl ki_0 ?_
    refine Ev.istore_n (ls' := [(3, .int _), (0, .ref _), (1, .int _), (2, .int _)]) (pc' := 76) dX12_layFar_75 rfl rfl (Nat.le_of_ble_eq_true rfl) rfl ?_
    exact Ev.sub [1, 2, 3, 0] rfl (okX12_layFar_h76 hP56 hP66 h)
set_option maxRecDepth 10000 in
theorem okX12_layFar_h66 {G : Gx} {Q : Ix → Lx → Prop} {P56 : Int32 → Ix → Lx → Prop} (hP56 : ∀ (v1 : Int32) (I : Ix) (L : Lx), P56 v1 I L → Ef G MX12_layFar (qV Q) 56 [(0, .ref 120), (1, .int v1)] [] I L) {v1 : Int32} {v2 : Int32} {I : Ix} {L : Lx} (h : wpX12_layFar_h66 Q P56 v1 v2 I L) : Ef G MX12_layFar (qV Q) 66 [(0, .ref 120), (1, .int v1), (2, .int v2)] [] I L := by
  unfold wpX12_layFar_h66 at h
  refine Lfp.ind (P := fun z => Ef G MX12_layFar (qV Q) 66 [(0, .ref 120), (1, .int z.1), (2, .int z.2.1)] [] z.2.2.1 z.2.2.2) ?_ h
  intro z P' hP' h
  obtain ⟨v1, v2, I, L⟩ := z
  exact okX12_layFar_l66 hP56 (fun v1 v2 I L h9 => hP' (v1, v2, I, L) h9) h
set_option maxRecDepth 10000 in
theorem okX12_layFar_l56 {G : Gx} {Q : Ix → Lx → Prop} {P56 : Int32 → Ix → Lx → Prop} (hP56 : ∀ (v1 : Int32) (I : Ix) (L : Lx), P56 v1 I L → Ef G MX12_layFar (qV Q) 56 [(0, .ref 120), (1, .int v1)] [] I L) {v1 : Int32} {I : Ix} {L : Lx} (h : wpX12_layFar_l56 Q P56 v1 I L) : Ef G MX12_layFar (qV Q) 56 [(0, .ref 120), (1, .int v1)] [] I L := by
  unfold wpX12_layFar_l56 at h
  refine Ev.iload_n (k := 1) (pc' := 57) dX12_layFar_56 rfl rfl rfl ?_
  refine Ev.aload_n (k := 0) (pc' := 58) dX12_layFar_57 rfl rfl rfl ?_
  refine Ev.getI (pc' := 61) dX12_layFar_58 rfl fa_RX12_431 ob_120 fk_12_42 ?_
  refine Ev.icmp_ge (pc' := 64) (tgt := 156) dX12_layFar_61 rfl rfl (fun hc => ?_) (fun hc => ?_)
  · have h := h.1 hc
    exact Ef.vret dX12_layFar_156 rfl h
  · have h := h.2 hc
    refine Ev.iconst (pc' := 65) dX12_layFar_64 rfl ki_0 ?_
    refine Ev.istore_n (ls' := [(2, .int _), (0, .ref _), (1, .int _)]) (pc' := 66) dX12_layFar_65 rfl rfl (Nat.le_of_ble_eq_true rfl) rfl ?_
    exact Ev.sub [1, 2, 0] rfl (okX12_layFar_h66 hP56 h)
set_option maxRecDepth 10000 in
theorem okX12_layFar_h56 {G : Gx} {Q : Ix → Lx → Prop} {v1 : Int32} {I : Ix} {L : Lx} (h : wpX12_layFar_h56 Q v1 I L) : Ef G MX12_layFar (qV Q) 56 [(0, .ref 120), (1, .int v1)] [] I L := by
  unfold wpX12_layFar_h56 at h
  refine Lfp.ind (P := fun z => Ef G MX12_layFar (qV Q) 56 [(0, .ref 120), (1, .int z.1)] [] z.2.1 z.2.2) ?_ h
  intro z P' hP' h
  obtain ⟨v1, I, L⟩ := z
  exact okX12_layFar_l56 (fun v1 I L h9 => hP' (v1, I, L) h9) h
set_option maxRecDepth 10000 in
theorem okX12_layFar_b47 {G : Gx} {Q : Ix → Lx → Prop} {P2 : Int32 → Ix → Lx → Prop} (hP2 : ∀ (v1 : Int32) (I : Ix) (L : Lx), P2 v1 I L → Ef G MX12_layFar (qV Q) 2 [(0, .ref 120), (1, .int v1)] [] I L) {v1 : Int32} {t1 : Int32} {t2 : Int32} {I : Ix} {L : Lx} (h : wpX12_layFar_b47 Q P2 v1 t1 t2 I L) : Ef G MX12_layFar (qV Q) 47 [(0, .ref 120), (1, .int v1)] [.int t2, .int t1, .ref 140] I L := by
  unfold wpX12_layFar_b47 at h
  refine Ev.iastore (j := _) (pc' := 48) dX12_layFar_47 rfl ar_140 h.1 rfl (fun I1 eI1 => ?_)
  have h := h.2 I1 eI1
  refine Ev.iinc (k := 1) (v := _) (ls' := [(1, .int _), (0, .ref _)]) (pc' := 51) dX12_layFar_48 rfl rfl (congrArg (_ + ·) ki_1) (Nat.le_of_ble_eq_true rfl) rfl ?_
  refine Ev.goto (tgt := 2) dX12_layFar_51 rfl ?_
  exact Ev.sub [1, 0] rfl (hP2 _ _ _ h)
set_option maxRecDepth 10000 in
theorem okX12_layFar_l2 {G : Gx} {Q : Ix → Lx → Prop} {P2 : Int32 → Ix → Lx → Prop} (hP2 : ∀ (v1 : Int32) (I : Ix) (L : Lx), P2 v1 I L → Ef G MX12_layFar (qV Q) 2 [(0, .ref 120), (1, .int v1)] [] I L) {v1 : Int32} {I : Ix} {L : Lx} (h : wpX12_layFar_l2 Q P2 v1 I L) : Ef G MX12_layFar (qV Q) 2 [(0, .ref 120), (1, .int v1)] [] I L := by
  unfold wpX12_layFar_l2 at h
  refine Ev.iload_n (k := 1) (pc' := 3) dX12_layFar_2 rfl rfl rfl ?_
  refine Ev.bipush (pc' := 5) dX12_layFar_3 rfl kb_64 ?_
  refine Ev.icmp_ge (pc' := 8) (tgt := 54) dX12_layFar_5 rfl rfl (fun hc => ?_) (fun hc => ?_)
  · have h := h.1 hc
    refine Ev.iconst (pc' := 55) dX12_layFar_54 rfl ki_0 ?_
    refine Ev.istore_n (ls' := [(1, .int _), (0, .ref _)]) (pc' := 56) dX12_layFar_55 rfl rfl (Nat.le_of_ble_eq_true rfl) rfl ?_
    exact Ev.sub [1, 0] rfl (okX12_layFar_h56 h)
  · have h := h.2 hc
    refine Ev.aload_n (k := 0) (pc' := 9) dX12_layFar_8 rfl rfl rfl ?_
    refine Ev.getR (pc' := 12) dX12_layFar_9 rfl fa_RX12_72 ob_120 fk_12_33 rf_120_33 ?_
    refine Ev.iload_n (k := 1) (pc' := 13) dX12_layFar_12 rfl rfl rfl ?_
    refine Ev.iload_n (k := 1) (pc' := 14) dX12_layFar_13 rfl rfl rfl ?_
    refine Ev.bipush (pc' := 16) dX12_layFar_14 rfl kb_8 ?_
    refine Ev.idiv (pc' := 17) dX12_layFar_16 rfl (by decide) ?_
    refine Ev.iload_n (k := 1) (pc' := 18) dX12_layFar_17 rfl rfl rfl ?_
    refine Ev.bipush (pc' := 20) dX12_layFar_18 rfl kb_8 ?_
    refine Ev.irem (pc' := 21) dX12_layFar_20 rfl (by decide) ?_
    refine Ev.icmp_ne (pc' := 24) (tgt := 28) dX12_layFar_21 rfl rfl (fun hc => ?_) (fun hc => ?_)
    · have h := h.1 hc
      refine Ev.aload_n (k := 0) (pc' := 29) dX12_layFar_28 rfl rfl rfl ?_
      refine Ev.getI (pc' := 32) dX12_layFar_29 rfl fa_RX12_431 ob_120 fk_12_42 ?_
      refine Ev.if_ne (pc' := 35) (tgt := 41) dX12_layFar_32 rfl rfl (fun hc => ?_) (fun hc => ?_)
      · have h := h.1 hc
        refine Ev.aload_n (k := 0) (pc' := 42) dX12_layFar_41 rfl rfl rfl ?_
        refine Ev.getR (pc' := 45) dX12_layFar_42 rfl fa_RX12_69 ob_120 fk_12_32 rf_120_32 ?_
        refine Ev.iload_n (k := 1) (pc' := 46) dX12_layFar_45 rfl rfl rfl ?_
        refine Ev.iaload (j := _) (pc' := 47) dX12_layFar_46 rfl ar_139 h.1 rfl ?_
        have h := h.2
        exact okX12_layFar_b47 hP2 h
      · have h := h.2 hc
        refine Ev.sipush (pc' := 38) dX12_layFar_35 rfl ks_999 ?_
        refine Ev.goto (tgt := 47) dX12_layFar_38 rfl ?_
        exact okX12_layFar_b47 hP2 h
    · have h := h.2 hc
      refine Ev.iconst (pc' := 25) dX12_layFar_24 rfl ki_0 ?_
      refine Ev.goto (tgt := 47) dX12_layFar_25 rfl ?_
      exact okX12_layFar_b47 hP2 h
set_option maxRecDepth 10000 in
theorem okX12_layFar_h2 {G : Gx} {Q : Ix → Lx → Prop} {v1 : Int32} {I : Ix} {L : Lx} (h : wpX12_layFar_h2 Q v1 I L) : Ef G MX12_layFar (qV Q) 2 [(0, .ref 120), (1, .int v1)] [] I L := by
  unfold wpX12_layFar_h2 at h
  refine Lfp.ind (P := fun z => Ef G MX12_layFar (qV Q) 2 [(0, .ref 120), (1, .int z.1)] [] z.2.1 z.2.2) ?_ h
  intro z P' hP' h
  obtain ⟨v1, I, L⟩ := z
  exact okX12_layFar_l2 (fun v1 I L h9 => hP' (v1, I, L) h9) h
set_option maxRecDepth 10000 in
theorem okX12_layFar {G : Gx} {I : Ix} {L : Lx} {Q : Ix → Lx → Prop} (h : wpX12_layFar I L Q) : Mf G MX12_layFar [.ref 120] I L (qV Q) := by
  unfold wpX12_layFar at h
  refine Mf.of pn_RX12 (Nat.le_of_ble_eq_true rfl) ?_
  refine Ev.iconst (pc' := 1) dX12_layFar_0 rfl ki_0 ?_
  refine Ev.istore_n (ls' := [(1, .int _), (0, .ref _)]) (pc' := 2) dX12_layFar_1 rfl rfl (Nat.le_of_ble_eq_true rfl) rfl ?_
  exact Ev.sub [1, 0] rfl (okX12_layFar_h2 h)
def wpX12_fresh_l61 (Q : Ix → Lx → Prop) (P61 : Int32 → Ix → Lx → Prop) (v1 : Int32) (I : Ix) (L : Lx) : Prop := (6 ≤ v1 → ∀ I1 : Ix, I1 = pu I 120 57 0 → ∀ I2 : Ix, I2 = pu I1 120 59 0 → Q I2 L) ∧ (¬ 6 ≤ v1 → vp_in (4 * v1) 24 ∧ vp_in v1 6 ∧ ∀ I3 : Ix, I3 = pu I 147 v1.toNatClampNeg (I 142 (4 * v1).toNatClampNeg) → vp_in v1 6 ∧ ∀ I4 : Ix, I4 = pu I3 148 v1.toNatClampNeg 0 → P61 (v1 + 1) I4 L)
def wpX12_fresh_h61 (Q : Ix → Lx → Prop) (v1 : Int32) (I : Ix) (L : Lx) : Prop := Lfp (X := Int32 × Ix × Lx) (fun P z => wpX12_fresh_l61 Q (fun v1 I L => P (v1, I, L)) z.1 z.2.1 z.2.2) (v1, I, L)
theorem wpX12_fresh_h61_fold {Q : Ix → Lx → Prop} {v1 : Int32} {I : Ix} {L : Lx} (h : wpX12_fresh_l61 Q (wpX12_fresh_h61 Q) v1 I L) : wpX12_fresh_h61 Q v1 I L := Lfp.fold h
def wpX12_fresh_l2 (Q : Ix → Lx → Prop) (P2 : Int32 → Ix → Lx → Prop) (v1 : Int32) (I : Ix) (L : Lx) : Prop := (10 ≤ v1 → wpX12_fresh_h61 Q 0 I L) ∧ (¬ 10 ≤ v1 → vp_in v1 10 ∧ ∀ I1 : Ix, I1 = pu I 143 v1.toNatClampNeg (-1) → vp_in v1 10 ∧ ∀ I2 : Ix, I2 = pu I1 144 v1.toNatClampNeg 100 → vp_in v1 10 ∧ ∀ I3 : Ix, I3 = pu I2 145 v1.toNatClampNeg 0 → vp_in v1 10 ∧ ∀ I4 : Ix, I4 = pu I3 149 v1.toNatClampNeg 0 → vp_in ((5 * v1) + 1) 50 ∧ vp_in v1 10 ∧ ∀ I5 : Ix, I5 = pu I4 146 v1.toNatClampNeg (I4 141 ((5 * v1) + 1).toNatClampNeg) → P2 (v1 + 1) I5 L)
def wpX12_fresh_h2 (Q : Ix → Lx → Prop) (v1 : Int32) (I : Ix) (L : Lx) : Prop := Lfp (X := Int32 × Ix × Lx) (fun P z => wpX12_fresh_l2 Q (fun v1 I L => P (v1, I, L)) z.1 z.2.1 z.2.2) (v1, I, L)
theorem wpX12_fresh_h2_fold {Q : Ix → Lx → Prop} {v1 : Int32} {I : Ix} {L : Lx} (h : wpX12_fresh_l2 Q (wpX12_fresh_h2 Q) v1 I L) : wpX12_fresh_h2 Q v1 I L := Lfp.fold h
def wpX12_fresh (I : Ix) (L : Lx) (Q : Ix → Lx → Prop) : Prop := wpX12_fresh_h2 Q 0 I L
set_option maxRecDepth 10000 in
theorem okX12_fresh_l61 {G : Gx} {Q : Ix → Lx → Prop} {P61 : Int32 → Ix → Lx → Prop} (hP61 : ∀ (v1 : Int32) (I : Ix) (L : Lx), P61 v1 I L → Ef G MX12_fresh (qV Q) 61 [(0, .ref 120), (1, .int v1)] [] I L) {v1 : Int32} {I : Ix} {L : Lx} (h : wpX12_fresh_l61 Q P61 v1 I L) : Ef G MX12_fresh (qV Q) 61 [(0, .ref 120), (1, .int v1)] [] I L := by
  unfold wpX12_fresh_l61 at h
  refine Ev.iload_n (k := 1) (pc' := 62) dX12_fresh_61 rfl rfl rfl ?_
  refine Ev.bipush (pc' := 64) dX12_fresh_62 rfl kb_6 ?_
  refine Ev.icmp_ge (pc' := 67) (tgt := 94) dX12_fresh_64 rfl rfl (fun hc => ?_) (fun hc => ?_)
  · have h := h.1 hc
    refine Ev.aload_n (k := 0) (pc' := 95) dX12_fresh_94 rfl rfl rfl ?_
    refine Ev.iconst (pc' := 96) dX12_fresh_95 rfl ki_0 ?_
    refine Ev.putI (pc' := 99) dX12_fresh_96 rfl fa_RX12_464 ob_120 fk_12_57 rfl rfl (fun I1 eI1 => ?_)
    have h := h I1 eI1
    refine Ev.aload_n (k := 0) (pc' := 100) dX12_fresh_99 rfl rfl rfl ?_
    refine Ev.iconst (pc' := 101) dX12_fresh_100 rfl ki_0 ?_
    refine Ev.putI (pc' := 104) dX12_fresh_101 rfl fa_RX12_467 ob_120 fk_12_59 rfl rfl (fun I2 eI2 => ?_)
    have h := h I2 eI2
    exact Ef.vret dX12_fresh_104 rfl h
  · have h := h.2 hc
    refine Ev.aload_n (k := 0) (pc' := 68) dX12_fresh_67 rfl rfl rfl ?_
    refine Ev.getR (pc' := 71) dX12_fresh_68 rfl fa_RX12_93 ob_120 fk_12_54 rf_120_54 ?_
    refine Ev.iload_n (k := 1) (pc' := 72) dX12_fresh_71 rfl rfl rfl ?_
    refine Ev.aload_n (k := 0) (pc' := 73) dX12_fresh_72 rfl rfl rfl ?_
    refine Ev.getR (pc' := 76) dX12_fresh_73 rfl fa_RX12_78 ob_120 fk_12_35 rf_120_35 ?_
    refine Ev.iconst (pc' := 77) dX12_fresh_76 rfl ki_4 ?_
    refine Ev.iload_n (k := 1) (pc' := 78) dX12_fresh_77 rfl rfl rfl ?_
    refine Ev.imul (pc' := 79) dX12_fresh_78 rfl ?_
    refine Ev.iaload (j := _) (pc' := 80) dX12_fresh_79 rfl ar_142 h.1 rfl ?_
    have h := h.2
    refine Ev.iastore (j := _) (pc' := 81) dX12_fresh_80 rfl ar_147 h.1 rfl (fun I3 eI3 => ?_)
    have h := h.2 I3 eI3
    refine Ev.aload_n (k := 0) (pc' := 82) dX12_fresh_81 rfl rfl rfl ?_
    refine Ev.getR (pc' := 85) dX12_fresh_82 rfl fa_RX12_96 ob_120 fk_12_55 rf_120_55 ?_
    refine Ev.iload_n (k := 1) (pc' := 86) dX12_fresh_85 rfl rfl rfl ?_
    refine Ev.iconst (pc' := 87) dX12_fresh_86 rfl ki_0 ?_
    refine Ev.iastore (j := _) (pc' := 88) dX12_fresh_87 rfl ar_148 h.1 rfl (fun I4 eI4 => ?_)
    have h := h.2 I4 eI4
    refine Ev.iinc (k := 1) (v := _) (ls' := [(1, .int _), (0, .ref _)]) (pc' := 91) dX12_fresh_88 rfl rfl (congrArg (_ + ·) ki_1) (Nat.le_of_ble_eq_true rfl) rfl ?_
    refine Ev.goto (tgt := 61) dX12_fresh_91 rfl ?_
    exact Ev.sub [1, 0] rfl (hP61 _ _ _ h)
set_option maxRecDepth 10000 in
theorem okX12_fresh_h61 {G : Gx} {Q : Ix → Lx → Prop} {v1 : Int32} {I : Ix} {L : Lx} (h : wpX12_fresh_h61 Q v1 I L) : Ef G MX12_fresh (qV Q) 61 [(0, .ref 120), (1, .int v1)] [] I L := by
  unfold wpX12_fresh_h61 at h
  refine Lfp.ind (P := fun z => Ef G MX12_fresh (qV Q) 61 [(0, .ref 120), (1, .int z.1)] [] z.2.1 z.2.2) ?_ h
  intro z P' hP' h
  obtain ⟨v1, I, L⟩ := z
  exact okX12_fresh_l61 (fun v1 I L h9 => hP' (v1, I, L) h9) h
set_option maxRecDepth 10000 in
theorem okX12_fresh_l2 {G : Gx} {Q : Ix → Lx → Prop} {P2 : Int32 → Ix → Lx → Prop} (hP2 : ∀ (v1 : Int32) (I : Ix) (L : Lx), P2 v1 I L → Ef G MX12_fresh (qV Q) 2 [(0, .ref 120), (1, .int v1)] [] I L) {v1 : Int32} {I : Ix} {L : Lx} (h : wpX12_fresh_l2 Q P2 v1 I L) : Ef G MX12_fresh (qV Q) 2 [(0, .ref 120), (1, .int v1)] [] I L := by
  unfold wpX12_fresh_l2 at h
  refine Ev.iload_n (k := 1) (pc' := 3) dX12_fresh_2 rfl rfl rfl ?_
  refine Ev.bipush (pc' := 5) dX12_fresh_3 rfl kb_10 ?_
  refine Ev.icmp_ge (pc' := 8) (tgt := 59) dX12_fresh_5 rfl rfl (fun hc => ?_) (fun hc => ?_)
  · have h := h.1 hc
    refine Ev.iconst (pc' := 60) dX12_fresh_59 rfl ki_0 ?_
    refine Ev.istore_n (ls' := [(1, .int _), (0, .ref _)]) (pc' := 61) dX12_fresh_60 rfl rfl (Nat.le_of_ble_eq_true rfl) rfl ?_
    exact Ev.sub [1, 0] rfl (okX12_fresh_h61 h)
  · have h := h.2 hc
    refine Ev.aload_n (k := 0) (pc' := 9) dX12_fresh_8 rfl rfl rfl ?_
    refine Ev.getR (pc' := 12) dX12_fresh_9 rfl fa_RX12_81 ob_120 fk_12_50 rf_120_50 ?_
    refine Ev.iload_n (k := 1) (pc' := 13) dX12_fresh_12 rfl rfl rfl ?_
    refine Ev.iconst (pc' := 14) dX12_fresh_13 rfl ki_m1 ?_
    refine Ev.iastore (j := _) (pc' := 15) dX12_fresh_14 rfl ar_143 h.1 rfl (fun I1 eI1 => ?_)
    have h := h.2 I1 eI1
    refine Ev.aload_n (k := 0) (pc' := 16) dX12_fresh_15 rfl rfl rfl ?_
    refine Ev.getR (pc' := 19) dX12_fresh_16 rfl fa_RX12_84 ob_120 fk_12_51 rf_120_51 ?_
    refine Ev.iload_n (k := 1) (pc' := 20) dX12_fresh_19 rfl rfl rfl ?_
    refine Ev.bipush (pc' := 22) dX12_fresh_20 rfl kb_100 ?_
    refine Ev.iastore (j := _) (pc' := 23) dX12_fresh_22 rfl ar_144 h.1 rfl (fun I2 eI2 => ?_)
    have h := h.2 I2 eI2
    refine Ev.aload_n (k := 0) (pc' := 24) dX12_fresh_23 rfl rfl rfl ?_
    refine Ev.getR (pc' := 27) dX12_fresh_24 rfl fa_RX12_87 ob_120 fk_12_52 rf_120_52 ?_
    refine Ev.iload_n (k := 1) (pc' := 28) dX12_fresh_27 rfl rfl rfl ?_
    refine Ev.iconst (pc' := 29) dX12_fresh_28 rfl ki_0 ?_
    refine Ev.iastore (j := _) (pc' := 30) dX12_fresh_29 rfl ar_145 h.1 rfl (fun I3 eI3 => ?_)
    have h := h.2 I3 eI3
    refine Ev.aload_n (k := 0) (pc' := 31) dX12_fresh_30 rfl rfl rfl ?_
    refine Ev.getR (pc' := 34) dX12_fresh_31 rfl fa_RX12_99 ob_120 fk_12_56 rf_120_56 ?_
    refine Ev.iload_n (k := 1) (pc' := 35) dX12_fresh_34 rfl rfl rfl ?_
    refine Ev.iconst (pc' := 36) dX12_fresh_35 rfl ki_0 ?_
    refine Ev.zastore (j := _) (y := 0) (pc' := 37) dX12_fresh_36 rfl ar_149 h.1 rfl (by decide) (fun I4 eI4 => ?_)
    have h := h.2 I4 eI4
    refine Ev.aload_n (k := 0) (pc' := 38) dX12_fresh_37 rfl rfl rfl ?_
    refine Ev.getR (pc' := 41) dX12_fresh_38 rfl fa_RX12_90 ob_120 fk_12_53 rf_120_53 ?_
    refine Ev.iload_n (k := 1) (pc' := 42) dX12_fresh_41 rfl rfl rfl ?_
    refine Ev.aload_n (k := 0) (pc' := 43) dX12_fresh_42 rfl rfl rfl ?_
    refine Ev.getR (pc' := 46) dX12_fresh_43 rfl fa_RX12_75 ob_120 fk_12_34 rf_120_34 ?_
    refine Ev.iconst (pc' := 47) dX12_fresh_46 rfl ki_5 ?_
    refine Ev.iload_n (k := 1) (pc' := 48) dX12_fresh_47 rfl rfl rfl ?_
    refine Ev.imul (pc' := 49) dX12_fresh_48 rfl ?_
    refine Ev.iconst (pc' := 50) dX12_fresh_49 rfl ki_1 ?_
    refine Ev.iadd (pc' := 51) dX12_fresh_50 rfl ?_
    refine Ev.iaload (j := _) (pc' := 52) dX12_fresh_51 rfl ar_141 h.1 rfl ?_
    have h := h.2
    refine Ev.iastore (j := _) (pc' := 53) dX12_fresh_52 rfl ar_146 h.1 rfl (fun I5 eI5 => ?_)
    have h := h.2 I5 eI5
    refine Ev.iinc (k := 1) (v := _) (ls' := [(1, .int _), (0, .ref _)]) (pc' := 56) dX12_fresh_53 rfl rfl (congrArg (_ + ·) ki_1) (Nat.le_of_ble_eq_true rfl) rfl ?_
    refine Ev.goto (tgt := 2) dX12_fresh_56 rfl ?_
    exact Ev.sub [1, 0] rfl (hP2 _ _ _ h)
set_option maxRecDepth 10000 in
theorem okX12_fresh_h2 {G : Gx} {Q : Ix → Lx → Prop} {v1 : Int32} {I : Ix} {L : Lx} (h : wpX12_fresh_h2 Q v1 I L) : Ef G MX12_fresh (qV Q) 2 [(0, .ref 120), (1, .int v1)] [] I L := by
  unfold wpX12_fresh_h2 at h
  refine Lfp.ind (P := fun z => Ef G MX12_fresh (qV Q) 2 [(0, .ref 120), (1, .int z.1)] [] z.2.1 z.2.2) ?_ h
  intro z P' hP' h
  obtain ⟨v1, I, L⟩ := z
  exact okX12_fresh_l2 (fun v1 I L h9 => hP' (v1, I, L) h9) h
set_option maxRecDepth 10000 in
theorem okX12_fresh {G : Gx} {I : Ix} {L : Lx} {Q : Ix → Lx → Prop} (h : wpX12_fresh I L Q) : Mf G MX12_fresh [.ref 120] I L (qV Q) := by
  unfold wpX12_fresh at h
  refine Mf.of pn_RX12 (Nat.le_of_ble_eq_true rfl) ?_
  refine Ev.iconst (pc' := 1) dX12_fresh_0 rfl ki_0 ?_
  refine Ev.istore_n (ls' := [(1, .int _), (0, .ref _)]) (pc' := 2) dX12_fresh_1 rfl rfl (Nat.le_of_ble_eq_true rfl) rfl ?_
  exact Ev.sub [1, 0] rfl (okX12_fresh_h2 h)
