def wpX0_wearDown (o1 : Nat) (a2 : Int32) (a3 : Int32) (I : Ix) (L : Lx) (Q : Ix → Lx → Prop) : Prop := vp_in a2 10 ∧ vp_in a2 10 ∧ vp_in a2 10 ∧ ∀ I1 : Ix, I1 = pu I (o1 + 2) a2.toNatClampNeg (imax 0 ((I (o1 + 2) a2.toNatClampNeg) - (((I 18 a2.toNatClampNeg) * a3) / 10))) → vp_in a2 10 ∧ ((I1 20 a2.toNatClampNeg) = 0 → Q I1 L) ∧ (¬ (I1 20 a2.toNatClampNeg) = 0 → (a3 = 0 → Q I1 L) ∧ (¬ a3 = 0 → vp_in a2 10 ∧ ∀ I2 : Ix, I2 = pu I1 (o1 + 5) a2.toNatClampNeg 1 → vp_in a2 10 ∧ ∀ I3 : Ix, I3 = pu I2 (o1 + 1) a2.toNatClampNeg (-1) → Q I3 L))
set_option maxRecDepth 10000 in
theorem okX0_wearDown {G : Gx} {o1 : Nat} (ho1 : NowAt o1) {a2 : Int32} {a3 : Int32} {I : Ix} {L : Lx} {Q : Ix → Lx → Prop} (h : wpX0_wearDown o1 a2 a3 I L Q) : Mf G MX0_wearDown [.ref 62, .ref o1, .int a2, .int a3] I L (qV Q) := by
  unfold wpX0_wearDown at h
  refine Mf.of pn_RX0 (Nat.le_of_ble_eq_true rfl) ?_
  refine Ev.aload_n (k := 1) (pc' := 1) dX0_wearDown_0 rfl rfl rfl ?_
  refine Ev.getR (pc' := 4) dX0_wearDown_1 rfl fa_RX0_79 (nowOB ho1) fk_2_4 (nowR2 ho1) ?_
  refine Ev.iload_n (k := 2) (pc' := 5) dX0_wearDown_4 rfl rfl rfl ?_
  refine Ev.iconst (pc' := 6) dX0_wearDown_5 rfl ki_0 ?_
  refine Ev.aload_n (k := 1) (pc' := 7) dX0_wearDown_6 rfl rfl rfl ?_
  refine Ev.getR (pc' := 10) dX0_wearDown_7 rfl fa_RX0_79 (nowOB ho1) fk_2_4 (nowR2 ho1) ?_
  refine Ev.iload_n (k := 2) (pc' := 11) dX0_wearDown_10 rfl rfl rfl ?_
  refine Ev.iaload (j := _) (pc' := 12) dX0_wearDown_11 rfl (nowA2 ho1) h.1 rfl ?_
  have h := h.2
  refine Ev.aload_n (k := 0) (pc' := 13) dX0_wearDown_12 rfl rfl rfl ?_
  refine Ev.getR (pc' := 16) dX0_wearDown_13 rfl fa_RX0_30 ob_62 fk_0_0 rf_62_0 ?_
  refine Ev.getR (pc' := 19) dX0_wearDown_16 rfl fa_RX0_89 ob_3 fk_10_9 rf_3_9 ?_
  refine Ev.iload_n (k := 2) (pc' := 20) dX0_wearDown_19 rfl rfl rfl ?_
  refine Ev.iaload (j := _) (pc' := 21) dX0_wearDown_20 rfl ar_18 h.1 rfl ?_
  have h := h.2
  refine Ev.iload_n (k := 3) (pc' := 22) dX0_wearDown_21 rfl rfl rfl ?_
  refine Ev.imul (pc' := 23) dX0_wearDown_22 rfl ?_
  refine Ev.bipush (pc' := 25) dX0_wearDown_23 rfl kb_10 ?_
  refine Ev.idiv (pc' := 26) dX0_wearDown_25 rfl (by decide) ?_
  refine Ev.isub (pc' := 27) dX0_wearDown_26 rfl ?_
  refine Ev.mmax (pc' := 30) dX0_wearDown_27 rfl ml_RX0_92 mmax_w (Nat.le_of_ble_eq_true rfl) (Nat.le_of_ble_eq_true rfl) ?_
  refine Ev.iastore (j := _) (pc' := 31) dX0_wearDown_30 rfl (nowA2 ho1) h.1 rfl (fun I1 eI1 => ?_)
  have h := h.2 I1 eI1
  refine Ev.aload_n (k := 0) (pc' := 32) dX0_wearDown_31 rfl rfl rfl ?_
  refine Ev.getR (pc' := 35) dX0_wearDown_32 rfl fa_RX0_30 ob_62 fk_0_0 rf_62_0 ?_
  refine Ev.getR (pc' := 38) dX0_wearDown_35 rfl fa_RX0_98 ob_3 fk_10_11 rf_3_11 ?_
  refine Ev.iload_n (k := 2) (pc' := 39) dX0_wearDown_38 rfl rfl rfl ?_
  refine Ev.zaload (j := _) (pc' := 40) dX0_wearDown_39 rfl ar_20 h.1 rfl ?_
  have h := h.2
  refine Ev.if_eq (pc' := 43) (tgt := 61) dX0_wearDown_40 rfl rfl (fun hc => ?_) (fun hc => ?_)
  · have h := h.1 hc
    exact Ef.vret dX0_wearDown_61 rfl h
  · have h := h.2 hc
    refine Ev.iload_n (k := 3) (pc' := 44) dX0_wearDown_43 rfl rfl rfl ?_
    refine Ev.if_eq (pc' := 47) (tgt := 61) dX0_wearDown_44 rfl rfl (fun hc => ?_) (fun hc => ?_)
    · have h := h.1 hc
      exact Ef.vret dX0_wearDown_61 rfl h
    · have h := h.2 hc
      refine Ev.aload_n (k := 1) (pc' := 48) dX0_wearDown_47 rfl rfl rfl ?_
      refine Ev.getR (pc' := 51) dX0_wearDown_48 rfl fa_RX0_102 (nowOB ho1) fk_2_7 (nowR5 ho1) ?_
      refine Ev.iload_n (k := 2) (pc' := 52) dX0_wearDown_51 rfl rfl rfl ?_
      refine Ev.iconst (pc' := 53) dX0_wearDown_52 rfl ki_1 ?_
      refine Ev.zastore (j := _) (y := 1) (pc' := 54) dX0_wearDown_53 rfl (nowA5 ho1) h.1 rfl (by decide) (fun I2 eI2 => ?_)
      have h := h.2 I2 eI2
      refine Ev.aload_n (k := 1) (pc' := 55) dX0_wearDown_54 rfl rfl rfl ?_
      refine Ev.getR (pc' := 58) dX0_wearDown_55 rfl fa_RX0_73 (nowOB ho1) fk_2_3 (nowR1 ho1) ?_
      refine Ev.iload_n (k := 2) (pc' := 59) dX0_wearDown_58 rfl rfl rfl ?_
      refine Ev.iconst (pc' := 60) dX0_wearDown_59 rfl ki_m1 ?_
      refine Ev.iastore (j := _) (pc' := 61) dX0_wearDown_60 rfl (nowA1 ho1) h.1 rfl (fun I3 eI3 => ?_)
      have h := h.2 I3 eI3
      exact Ef.vret dX0_wearDown_61 rfl h
def wpX0_use_l29 (o1 : Nat) (Q : Int32 → Ix → Lx → Prop) (P4 : Int32 → Int32 → Ix → Lx → Prop) (P29 : Int32 → Int32 → Int32 → Int32 → Ix → Lx → Prop) (v2 : Int32) (v3 : Int32) (v4 : Int32) (v5 : Int32) (I : Ix) (L : Lx) : Prop := ((I 3 2) ≤ v5 → P4 v2 (v3 + 1) I L) ∧ (¬ (I 3 2) ≤ v5 → vp_in v5 10 ∧ (¬ (I (o1 + 1) v5.toNatClampNeg) = v3 → P29 v2 v3 v4 (v5 + 1) I L) ∧ ((I (o1 + 1) v5.toNatClampNeg) = v3 → vp_in v5 10 ∧ vp_in v5 10 ∧ vp_in v3 6 ∧ vp_in v3 6 ∧ ∀ I1 : Ix, I1 = pu I (o1 + 7) v3.toNatClampNeg ((I (o1 + 7) v3.toNatClampNeg) + ((((I (o1 + 4) v5.toNatClampNeg) * (I (o1 + 2) v5.toNatClampNeg)) * v4) / 100)) → wpX0_wearDown o1 v5 v4 I1 L (fun I2 L3 => P29 (v2 + ((((I (o1 + 4) v5.toNatClampNeg) * (I (o1 + 2) v5.toNatClampNeg)) * v4) / 100)) v3 v4 (v5 + 1) I2 L3)))
def wpX0_use_h29 (o1 : Nat) (Q : Int32 → Ix → Lx → Prop) (P4 : Int32 → Int32 → Ix → Lx → Prop) (v2 : Int32) (v3 : Int32) (v4 : Int32) (v5 : Int32) (I : Ix) (L : Lx) : Prop := Lfp (X := Int32 × Int32 × Int32 × Int32 × Ix × Lx) (fun P z => wpX0_use_l29 o1 Q P4 (fun v2 v3 v4 v5 I L => P (v2, v3, v4, v5, I, L)) z.1 z.2.1 z.2.2.1 z.2.2.2.1 z.2.2.2.2.1 z.2.2.2.2.2) (v2, v3, v4, v5, I, L)
theorem wpX0_use_h29_fold {o1 : Nat} {Q : Int32 → Ix → Lx → Prop} {P4 : Int32 → Int32 → Ix → Lx → Prop} {v2 : Int32} {v3 : Int32} {v4 : Int32} {v5 : Int32} {I : Ix} {L : Lx} (h : wpX0_use_l29 o1 Q P4 (wpX0_use_h29 o1 Q P4) v2 v3 v4 v5 I L) : wpX0_use_h29 o1 Q P4 v2 v3 v4 v5 I L := Lfp.fold h
def wpX0_use_l4 (o1 : Nat) (Q : Int32 → Ix → Lx → Prop) (P4 : Int32 → Int32 → Ix → Lx → Prop) (v2 : Int32) (v3 : Int32) (I : Ix) (L : Lx) : Prop := ((I 3 3) ≤ v3 → Q v2 I L) ∧ (¬ (I 3 3) ≤ v3 → vp_in v3 6 ∧ wpX0_use_h29 o1 Q P4 v2 v3 (I 25 v3.toNatClampNeg) 0 I L)
def wpX0_use_h4 (o1 : Nat) (Q : Int32 → Ix → Lx → Prop) (v2 : Int32) (v3 : Int32) (I : Ix) (L : Lx) : Prop := Lfp (X := Int32 × Int32 × Ix × Lx) (fun P z => wpX0_use_l4 o1 Q (fun v2 v3 I L => P (v2, v3, I, L)) z.1 z.2.1 z.2.2.1 z.2.2.2) (v2, v3, I, L)
theorem wpX0_use_h4_fold {o1 : Nat} {Q : Int32 → Ix → Lx → Prop} {v2 : Int32} {v3 : Int32} {I : Ix} {L : Lx} (h : wpX0_use_l4 o1 Q (wpX0_use_h4 o1 Q) v2 v3 I L) : wpX0_use_h4 o1 Q v2 v3 I L := Lfp.fold h
def wpX0_use (o1 : Nat) (I : Ix) (L : Lx) (Q : Int32 → Ix → Lx → Prop) : Prop := wpX0_use_h4 o1 Q 0 0 I L
set_option maxRecDepth 10000 in
theorem okX0_use_l29 {G : Gx} {o1 : Nat} (ho1 : NowAt o1) {Q : Int32 → Ix → Lx → Prop} {P4 : Int32 → Int32 → Ix → Lx → Prop} {P29 : Int32 → Int32 → Int32 → Int32 → Ix → Lx → Prop} (hP4 : ∀ (v2 : Int32) (v3 : Int32) (I : Ix) (L : Lx), P4 v2 v3 I L → Ef G MX0_use (qI Q) 4 [(0, .ref 62), (1, .ref o1), (2, .int v2), (3, .int v3)] [] I L) (hP29 : ∀ (v2 : Int32) (v3 : Int32) (v4 : Int32) (v5 : Int32) (I : Ix) (L : Lx), P29 v2 v3 v4 v5 I L → Ef G MX0_use (qI Q) 29 [(0, .ref 62), (1, .ref o1), (2, .int v2), (3, .int v3), (4, .int v4), (5, .int v5)] [] I L) {v2 : Int32} {v3 : Int32} {v4 : Int32} {v5 : Int32} {I : Ix} {L : Lx} (h : wpX0_use_l29 o1 Q P4 P29 v2 v3 v4 v5 I L) : Ef G MX0_use (qI Q) 29 [(0, .ref 62), (1, .ref o1), (2, .int v2), (3, .int v3), (4, .int v4), (5, .int v5)] [] I L := by
  unfold wpX0_use_l29 at h
  refine Ev.iload (k := 5) (pc' := 31) dX0_use_29 rfl rfl ?_
  refine Ev.aload_n (k := 0) (pc' := 32) dX0_use_31 rfl rfl rfl ?_
  refine Ev.getR (pc' := 35) dX0_use_32 rfl fa_RX0_30 ob_62 fk_0_0 rf_62_0 ?_
  refine Ev.getI (pc' := 38) dX0_use_35 rfl fa_RX0_70 ob_3 fk_10_2 ?_
  refine Ev.icmp_ge (pc' := 41) (tgt := 106) dX0_use_38 rfl rfl (fun hc => ?_) (fun hc => ?_)
  · have h := h.1 hc
    refine Ev.iinc (k := 3) (v := _) (ls' := [(3, .int _), (0, .ref _), (1, .ref _), (2, .int _), (4, .int _), (5, .int _)]) (pc' := 109) dX0_use_106 rfl rfl (congrArg (_ + ·) ki_1) (Nat.le_of_ble_eq_true rfl) rfl ?_
    refine Ev.goto (tgt := 4) dX0_use_109 rfl ?_
    exact Ev.sub [1, 2, 3, 0] rfl (hP4 _ _ _ _ h)
  · have h := h.2 hc
    refine Ev.aload_n (k := 1) (pc' := 42) dX0_use_41 rfl rfl rfl ?_
    refine Ev.getR (pc' := 45) dX0_use_42 rfl fa_RX0_73 (nowOB ho1) fk_2_3 (nowR1 ho1) ?_
    refine Ev.iload (k := 5) (pc' := 47) dX0_use_45 rfl rfl ?_
    refine Ev.iaload (j := _) (pc' := 48) dX0_use_47 rfl (nowA1 ho1) h.1 rfl ?_
    have h := h.2
    refine Ev.iload_n (k := 3) (pc' := 49) dX0_use_48 rfl rfl rfl ?_
    refine Ev.icmp_ne (pc' := 52) (tgt := 100) dX0_use_49 rfl rfl (fun hc => ?_) (fun hc => ?_)
    · have h := h.1 hc
      refine Ev.iinc (k := 5) (v := _) (ls' := [(5, .int _), (0, .ref _), (1, .ref _), (2, .int _), (3, .int _), (4, .int _)]) (pc' := 103) dX0_use_100 rfl rfl (congrArg (_ + ·) ki_1) (Nat.le_of_ble_eq_true rfl) rfl ?_
      refine Ev.goto (tgt := 29) dX0_use_103 rfl ?_
      exact Ev.sub [1, 2, 3, 4, 5, 0] rfl (hP29 _ _ _ _ _ _ h)
    · have h := h.2 hc
      refine Ev.aload_n (k := 1) (pc' := 53) dX0_use_52 rfl rfl rfl ?_
      refine Ev.getR (pc' := 56) dX0_use_53 rfl fa_RX0_76 (nowOB ho1) fk_2_6 (nowR4 ho1) ?_
      refine Ev.iload (k := 5) (pc' := 58) dX0_use_56 rfl rfl ?_
      refine Ev.iaload (j := _) (pc' := 59) dX0_use_58 rfl (nowA4 ho1) h.1 rfl ?_
      have h := h.2
      refine Ev.aload_n (k := 1) (pc' := 60) dX0_use_59 rfl rfl rfl ?_
      refine Ev.getR (pc' := 63) dX0_use_60 rfl fa_RX0_79 (nowOB ho1) fk_2_4 (nowR2 ho1) ?_
      refine Ev.iload (k := 5) (pc' := 65) dX0_use_63 rfl rfl ?_
      refine Ev.iaload (j := _) (pc' := 66) dX0_use_65 rfl (nowA2 ho1) h.1 rfl ?_
      have h := h.2
      refine Ev.imul (pc' := 67) dX0_use_66 rfl ?_
      refine Ev.iload (k := 4) (pc' := 69) dX0_use_67 rfl rfl ?_
      refine Ev.imul (pc' := 70) dX0_use_69 rfl ?_
      refine Ev.bipush (pc' := 72) dX0_use_70 rfl kb_100 ?_
      refine Ev.idiv (pc' := 73) dX0_use_72 rfl (by decide) ?_
      refine Ev.istore (ls' := [(6, .int _), (0, .ref _), (1, .ref _), (2, .int _), (3, .int _), (4, .int _), (5, .int _)]) (pc' := 75) dX0_use_73 rfl (Nat.le_of_ble_eq_true rfl) rfl ?_
      refine Ev.aload_n (k := 2) (pc' := 76) dX0_use_75 rfl rfl rfl ?_
      refine Ev.getR (pc' := 79) dX0_use_76 rfl fa_RX0_82 (nowOB ho1) fk_2_9 (nowR7 ho1) ?_
      refine Ev.iload_n (k := 4) (pc' := 80) dX0_use_79 rfl rfl rfl ?_
      refine Ev.dup2 (pc' := 81) dX0_use_80 rfl rfl rfl ?_
      refine Ev.iaload (j := _) (pc' := 82) dX0_use_81 rfl (nowA7 ho1) h.1 rfl ?_
      have h := h.2
      refine Ev.iload (k := 0) (pc' := 84) dX0_use_82 rfl rfl ?_
      refine Ev.iadd (pc' := 85) dX0_use_84 rfl ?_
      refine Ev.iastore (j := _) (pc' := 86) dX0_use_85 rfl (nowA7 ho1) h.1 rfl (fun I1 eI1 => ?_)
      have h := h.2 I1 eI1
      refine Ev.iload_n (k := 3) (pc' := 87) dX0_use_86 rfl rfl rfl ?_
      refine Ev.iload (k := 0) (pc' := 89) dX0_use_87 rfl rfl ?_
      refine Ev.iadd (pc' := 90) dX0_use_89 rfl ?_
      refine Ev.istore_n (ls' := [(2, .int _), (6, .int _), (0, .ref _), (1, .ref _), (3, .int _), (4, .int _), (5, .int _)]) (pc' := 91) dX0_use_90 rfl rfl (Nat.le_of_ble_eq_true rfl) rfl ?_
      refine Ev.aload_n (k := 2) (pc' := 92) dX0_use_91 rfl rfl rfl ?_
      refine Ev.aload_n (k := 3) (pc' := 93) dX0_use_92 rfl rfl rfl ?_
      refine Ev.iload (k := 6) (pc' := 95) dX0_use_93 rfl rfl ?_
      refine Ev.iload (k := 5) (pc' := 97) dX0_use_95 rfl rfl ?_
      refine Ef.callVV [.ref _, .int _, .int _] [] (pc' := 100) dX0_use_97 rfl cv_RX0_85_X0_wearDown ⟨Nat.le_of_ble_eq_true rfl, Nat.le_of_ble_eq_true rfl⟩ ob_62 rfl rfl rfl (Nat.le_of_ble_eq_true rfl) (okX0_wearDown ho1 h) (fun I2 L3 h => ?_)
      refine Ev.iinc (k := 6) (v := _) (ls' := [(5, .int _), (2, .int _), (6, .int _), (0, .ref _), (1, .ref _), (3, .int _), (4, .int _)]) (pc' := 103) dX0_use_100 rfl rfl (congrArg (_ + ·) ki_1) (Nat.le_of_ble_eq_true rfl) rfl ?_
      refine Ev.goto (tgt := 29) dX0_use_103 rfl ?_
      exact Ev.sub [3, 4, 1, 5, 6, 0] rfl (hP29 _ _ _ _ _ _ h)
set_option maxRecDepth 10000 in
theorem okX0_use_h29 {G : Gx} {o1 : Nat} (ho1 : NowAt o1) {Q : Int32 → Ix → Lx → Prop} {P4 : Int32 → Int32 → Ix → Lx → Prop} (hP4 : ∀ (v2 : Int32) (v3 : Int32) (I : Ix) (L : Lx), P4 v2 v3 I L → Ef G MX0_use (qI Q) 4 [(0, .ref 62), (1, .ref o1), (2, .int v2), (3, .int v3)] [] I L) {v2 : Int32} {v3 : Int32} {v4 : Int32} {v5 : Int32} {I : Ix} {L : Lx} (h : wpX0_use_h29 o1 Q P4 v2 v3 v4 v5 I L) : Ef G MX0_use (qI Q) 29 [(0, .ref 62), (1, .ref o1), (2, .int v2), (3, .int v3), (4, .int v4), (5, .int v5)] [] I L := by
  unfold wpX0_use_h29 at h
  refine Lfp.ind (P := fun z => Ef G MX0_use (qI Q) 29 [(0, .ref 62), (1, .ref o1), (2, .int z.1), (3, .int z.2.1), (4, .int z.2.2.1), (5, .int z.2.2.2.1)] [] z.2.2.2.2.1 z.2.2.2.2.2) ?_ h
  intro z P' hP' h
  obtain ⟨v2, v3, v4, v5, I, L⟩ := z
  exact okX0_use_l29 ho1 hP4 (fun v2 v3 v4 v5 I L h9 => hP' (v2, v3, v4, v5, I, L) h9) h
set_option maxRecDepth 10000 in
theorem okX0_use_l4 {G : Gx} {o1 : Nat} (ho1 : NowAt o1) {Q : Int32 → Ix → Lx → Prop} {P4 : Int32 → Int32 → Ix → Lx → Prop} (hP4 : ∀ (v2 : Int32) (v3 : Int32) (I : Ix) (L : Lx), P4 v2 v3 I L → Ef G MX0_use (qI Q) 4 [(0, .ref 62), (1, .ref o1), (2, .int v2), (3, .int v3)] [] I L) {v2 : Int32} {v3 : Int32} {I : Ix} {L : Lx} (h : wpX0_use_l4 o1 Q P4 v2 v3 I L) : Ef G MX0_use (qI Q) 4 [(0, .ref 62), (1, .ref o1), (2, .int v2), (3, .int v3)] [] I L := by
  unfold wpX0_use_l4 at h
  refine Ev.iload_n (k := 3) (pc' := 5) dX0_use_4 rfl rfl rfl ?_
  refine Ev.aload_n (k := 0) (pc' := 6) dX0_use_5 rfl rfl rfl ?_
  refine Ev.getR (pc' := 9) dX0_use_6 rfl fa_RX0_30 ob_62 fk_0_0 rf_62_0 ?_
  refine Ev.getI (pc' := 12) dX0_use_9 rfl fa_RX0_64 ob_3 fk_10_3 ?_
  refine Ev.icmp_ge (pc' := 15) (tgt := 112) dX0_use_12 rfl rfl (fun hc => ?_) (fun hc => ?_)
  · have h := h.1 hc
    refine Ev.iload_n (k := 2) (pc' := 113) dX0_use_112 rfl rfl rfl ?_
    exact Ef.iret dX0_use_113 rfl h
  · have h := h.2 hc
    refine Ev.aload_n (k := 0) (pc' := 16) dX0_use_15 rfl rfl rfl ?_
    refine Ev.getR (pc' := 19) dX0_use_16 rfl fa_RX0_30 ob_62 fk_0_0 rf_62_0 ?_
    refine Ev.getR (pc' := 22) dX0_use_19 rfl fa_RX0_67 ob_3 fk_10_16 rf_3_16 ?_
    refine Ev.iload_n (k := 3) (pc' := 23) dX0_use_22 rfl rfl rfl ?_
    refine Ev.iaload (j := _) (pc' := 24) dX0_use_23 rfl ar_25 h.1 rfl ?_
    have h := h.2
    refine Ev.istore (ls' := [(4, .int _), (0, .ref _), (1, .ref _), (2, .int _), (3, .int _)]) (pc' := 26) dX0_use_24 rfl (Nat.le_of_ble_eq_true rfl) rfl ?_
    refine Ev.iconst (pc' := 27) dX0_use_26 rfl ki_0 ?_
    refine Ev.istore (ls' := [(5, .int _), (4, .int _), (0, .ref _), (1, .ref _), (2, .int _), (3, .int _)]) (pc' := 29) dX0_use_27 rfl (Nat.le_of_ble_eq_true rfl) rfl ?_
    exact Ev.sub [2, 3, 4, 5, 1, 0] rfl (okX0_use_h29 ho1 hP4 h)
set_option maxRecDepth 10000 in
theorem okX0_use_h4 {G : Gx} {o1 : Nat} (ho1 : NowAt o1) {Q : Int32 → Ix → Lx → Prop} {v2 : Int32} {v3 : Int32} {I : Ix} {L : Lx} (h : wpX0_use_h4 o1 Q v2 v3 I L) : Ef G MX0_use (qI Q) 4 [(0, .ref 62), (1, .ref o1), (2, .int v2), (3, .int v3)] [] I L := by
  unfold wpX0_use_h4 at h
  refine Lfp.ind (P := fun z => Ef G MX0_use (qI Q) 4 [(0, .ref 62), (1, .ref o1), (2, .int z.1), (3, .int z.2.1)] [] z.2.2.1 z.2.2.2) ?_ h
  intro z P' hP' h
  obtain ⟨v2, v3, I, L⟩ := z
  exact okX0_use_l4 ho1 (fun v2 v3 I L h9 => hP' (v2, v3, I, L) h9) h
set_option maxRecDepth 10000 in
theorem okX0_use {G : Gx} {o1 : Nat} (ho1 : NowAt o1) {I : Ix} {L : Lx} {Q : Int32 → Ix → Lx → Prop} (h : wpX0_use o1 I L Q) : Mf G MX0_use [.ref 62, .ref o1] I L (qI Q) := by
  unfold wpX0_use at h
  refine Mf.of pn_RX0 (Nat.le_of_ble_eq_true rfl) ?_
  refine Ev.iconst (pc' := 1) dX0_use_0 rfl ki_0 ?_
  refine Ev.istore_n (ls' := [(2, .int _), (0, .ref _), (1, .ref _)]) (pc' := 2) dX0_use_1 rfl rfl (Nat.le_of_ble_eq_true rfl) rfl ?_
  refine Ev.iconst (pc' := 3) dX0_use_2 rfl ki_0 ?_
  refine Ev.istore_n (ls' := [(3, .int _), (2, .int _), (0, .ref _), (1, .ref _)]) (pc' := 4) dX0_use_3 rfl rfl (Nat.le_of_ble_eq_true rfl) rfl ?_
  exact Ev.sub [2, 3, 1, 0] rfl (okX0_use_h4 ho1 h)
def wpX0_mend_b46 (o1 : Nat) (Q : Ix → Lx → Prop) (P2 : Int32 → Ix → Lx → Prop) (P18 : Int32 → Int32 → Int32 → Ix → Lx → Prop) (v2 : Int32) (v3 : Int32) (v4 : Int32) (t0 : Int32) (I : Ix) (L : Lx) : Prop := (t0 = 0 → P18 v2 v3 (v4 + 1) I L) ∧ (¬ t0 = 0 → (v3 = (-1) → P18 v2 v4 (v4 + 1) I L) ∧ (¬ v3 = (-1) → vp_in v4 10 ∧ vp_in v3 10 ∧ ((I (o1 + 2) v3.toNatClampNeg) ≤ (I (o1 + 2) v4.toNatClampNeg) → P18 v2 v3 (v4 + 1) I L) ∧ (¬ (I (o1 + 2) v3.toNatClampNeg) ≤ (I (o1 + 2) v4.toNatClampNeg) → P18 v2 v4 (v4 + 1) I L)))
def wpX0_mend_l18 (o1 : Nat) (Q : Ix → Lx → Prop) (P2 : Int32 → Ix → Lx → Prop) (P18 : Int32 → Int32 → Int32 → Ix → Lx → Prop) (v2 : Int32) (v3 : Int32) (v4 : Int32) (I : Ix) (L : Lx) : Prop := ((I 3 2) ≤ v4 → (v3 = (-1) → P2 (v2 + 1) I L) ∧ (¬ v3 = (-1) → vp_in v3 10 ∧ vp_in v2 6 ∧ vp_in v3 10 ∧ ∀ I1 : Ix, I1 = pu I (o1 + 2) v3.toNatClampNeg (imin 100 ((I (o1 + 2) v3.toNatClampNeg) + (I 23 v2.toNatClampNeg))) → P2 (v2 + 1) I1 L)) ∧ (¬ (I 3 2) ≤ v4 → vp_in v4 10 ∧ (¬ (I (o1 + 1) v4.toNatClampNeg) = v2 → wpX0_mend_b46 o1 Q P2 P18 v2 v3 v4 0 I L) ∧ ((I (o1 + 1) v4.toNatClampNeg) = v2 → wpX0_mend_b46 o1 Q P2 P18 v2 v3 v4 1 I L))
def wpX0_mend_h18 (o1 : Nat) (Q : Ix → Lx → Prop) (P2 : Int32 → Ix → Lx → Prop) (v2 : Int32) (v3 : Int32) (v4 : Int32) (I : Ix) (L : Lx) : Prop := Lfp (X := Int32 × Int32 × Int32 × Ix × Lx) (fun P z => wpX0_mend_l18 o1 Q P2 (fun v2 v3 v4 I L => P (v2, v3, v4, I, L)) z.1 z.2.1 z.2.2.1 z.2.2.2.1 z.2.2.2.2) (v2, v3, v4, I, L)
theorem wpX0_mend_h18_fold {o1 : Nat} {Q : Ix → Lx → Prop} {P2 : Int32 → Ix → Lx → Prop} {v2 : Int32} {v3 : Int32} {v4 : Int32} {I : Ix} {L : Lx} (h : wpX0_mend_l18 o1 Q P2 (wpX0_mend_h18 o1 Q P2) v2 v3 v4 I L) : wpX0_mend_h18 o1 Q P2 v2 v3 v4 I L := Lfp.fold h
def wpX0_mend_l2 (o1 : Nat) (Q : Ix → Lx → Prop) (P2 : Int32 → Ix → Lx → Prop) (v2 : Int32) (I : Ix) (L : Lx) : Prop := ((I 3 3) ≤ v2 → Q I L) ∧ (¬ (I 3 3) ≤ v2 → wpX0_mend_h18 o1 Q P2 v2 (-1) 0 I L)
def wpX0_mend_h2 (o1 : Nat) (Q : Ix → Lx → Prop) (v2 : Int32) (I : Ix) (L : Lx) : Prop := Lfp (X := Int32 × Ix × Lx) (fun P z => wpX0_mend_l2 o1 Q (fun v2 I L => P (v2, I, L)) z.1 z.2.1 z.2.2) (v2, I, L)
theorem wpX0_mend_h2_fold {o1 : Nat} {Q : Ix → Lx → Prop} {v2 : Int32} {I : Ix} {L : Lx} (h : wpX0_mend_l2 o1 Q (wpX0_mend_h2 o1 Q) v2 I L) : wpX0_mend_h2 o1 Q v2 I L := Lfp.fold h
def wpX0_mend (o1 : Nat) (I : Ix) (L : Lx) (Q : Ix → Lx → Prop) : Prop := wpX0_mend_h2 o1 Q 0 I L
set_option maxRecDepth 10000 in
theorem okX0_mend_b46 {G : Gx} {o1 : Nat} (ho1 : NowAt o1) {Q : Ix → Lx → Prop} {P2 : Int32 → Ix → Lx → Prop} {P18 : Int32 → Int32 → Int32 → Ix → Lx → Prop} (hP2 : ∀ (v2 : Int32) (I : Ix) (L : Lx), P2 v2 I L → Ef G MX0_mend (qV Q) 2 [(0, .ref 62), (1, .ref o1), (2, .int v2)] [] I L) (hP18 : ∀ (v2 : Int32) (v3 : Int32) (v4 : Int32) (I : Ix) (L : Lx), P18 v2 v3 v4 I L → Ef G MX0_mend (qV Q) 18 [(0, .ref 62), (1, .ref o1), (2, .int v2), (3, .int v3), (4, .int v4)] [] I L) {v2 : Int32} {v3 : Int32} {v4 : Int32} {t0 : Int32} {I : Ix} {L : Lx} (h : wpX0_mend_b46 o1 Q P2 P18 v2 v3 v4 t0 I L) : Ef G MX0_mend (qV Q) 46 [(0, .ref 62), (1, .ref o1), (2, .int v2), (3, .int v3), (4, .int v4)] [.int t0] I L := by
  unfold wpX0_mend_b46 at h
  refine Ev.istore (ls' := [(5, .int _), (0, .ref _), (1, .ref _), (2, .int _), (3, .int _), (4, .int _)]) (pc' := 48) dX0_mend_46 rfl (Nat.le_of_ble_eq_true rfl) rfl ?_
  refine Ev.iload (k := 0) (pc' := 50) dX0_mend_48 rfl rfl ?_
  refine Ev.if_eq (pc' := 53) (tgt := 77) dX0_mend_50 rfl rfl (fun hc => ?_) (fun hc => ?_)
  · have h := h.1 hc
    refine Ev.iinc (k := 5) (v := _) (ls' := [(4, .int _), (5, .int _), (0, .ref _), (1, .ref _), (2, .int _), (3, .int _)]) (pc' := 80) dX0_mend_77 rfl rfl (congrArg (_ + ·) ki_1) (Nat.le_of_ble_eq_true rfl) rfl ?_
    refine Ev.goto (tgt := 18) dX0_mend_80 rfl ?_
    exact Ev.sub [2, 3, 4, 5, 0] rfl (hP18 _ _ _ _ _ h)
  · have h := h.2 hc
    refine Ev.iload_n (k := 4) (pc' := 54) dX0_mend_53 rfl rfl rfl ?_
    refine Ev.iconst (pc' := 55) dX0_mend_54 rfl ki_m1 ?_
    refine Ev.icmp_eq (pc' := 58) (tgt := 74) dX0_mend_55 rfl rfl (fun hc => ?_) (fun hc => ?_)
    · have h := h.1 hc
      refine Ev.iload (k := 5) (pc' := 76) dX0_mend_74 rfl rfl ?_
      refine Ev.istore_n (ls' := [(3, .int _), (5, .int _), (0, .ref _), (1, .ref _), (2, .int _), (4, .int _)]) (pc' := 77) dX0_mend_76 rfl rfl (Nat.le_of_ble_eq_true rfl) rfl ?_
      refine Ev.iinc (k := 5) (v := _) (ls' := [(4, .int _), (3, .int _), (5, .int _), (0, .ref _), (1, .ref _), (2, .int _)]) (pc' := 80) dX0_mend_77 rfl rfl (congrArg (_ + ·) ki_1) (Nat.le_of_ble_eq_true rfl) rfl ?_
      refine Ev.goto (tgt := 18) dX0_mend_80 rfl ?_
      exact Ev.sub [3, 4, 5, 1, 0] rfl (hP18 _ _ _ _ _ h)
    · have h := h.2 hc
      refine Ev.aload_n (k := 2) (pc' := 59) dX0_mend_58 rfl rfl rfl ?_
      refine Ev.getR (pc' := 62) dX0_mend_59 rfl fa_RX0_79 (nowOB ho1) fk_2_4 (nowR2 ho1) ?_
      refine Ev.iload (k := 5) (pc' := 64) dX0_mend_62 rfl rfl ?_
      refine Ev.iaload (j := _) (pc' := 65) dX0_mend_64 rfl (nowA2 ho1) h.1 rfl ?_
      have h := h.2
      refine Ev.aload_n (k := 2) (pc' := 66) dX0_mend_65 rfl rfl rfl ?_
      refine Ev.getR (pc' := 69) dX0_mend_66 rfl fa_RX0_79 (nowOB ho1) fk_2_4 (nowR2 ho1) ?_
      refine Ev.iload_n (k := 4) (pc' := 70) dX0_mend_69 rfl rfl rfl ?_
      refine Ev.iaload (j := _) (pc' := 71) dX0_mend_70 rfl (nowA2 ho1) h.1 rfl ?_
      have h := h.2
      refine Ev.icmp_ge (pc' := 74) (tgt := 77) dX0_mend_71 rfl rfl (fun hc => ?_) (fun hc => ?_)
      · have h := h.1 hc
        refine Ev.iinc (k := 5) (v := _) (ls' := [(4, .int _), (5, .int _), (0, .ref _), (1, .ref _), (2, .int _), (3, .int _)]) (pc' := 80) dX0_mend_77 rfl rfl (congrArg (_ + ·) ki_1) (Nat.le_of_ble_eq_true rfl) rfl ?_
        refine Ev.goto (tgt := 18) dX0_mend_80 rfl ?_
        exact Ev.sub [2, 3, 4, 5, 0] rfl (hP18 _ _ _ _ _ h)
      · have h := h.2 hc
        refine Ev.iload (k := 5) (pc' := 76) dX0_mend_74 rfl rfl ?_
        refine Ev.istore_n (ls' := [(3, .int _), (5, .int _), (0, .ref _), (1, .ref _), (2, .int _), (4, .int _)]) (pc' := 77) dX0_mend_76 rfl rfl (Nat.le_of_ble_eq_true rfl) rfl ?_
        refine Ev.iinc (k := 5) (v := _) (ls' := [(4, .int _), (3, .int _), (5, .int _), (0, .ref _), (1, .ref _), (2, .int _)]) (pc' := 80) dX0_mend_77 rfl rfl (congrArg (_ + ·) ki_1) (Nat.le_of_ble_eq_true rfl) rfl ?_
        refine Ev.goto (tgt := 18) dX0_mend_80 rfl ?_
        exact Ev.sub [3, 4, 5, 1, 0] rfl (hP18 _ _ _ _ _ h)
set_option maxRecDepth 10000 in
theorem okX0_mend_l18 {G : Gx} {o1 : Nat} (ho1 : NowAt o1) {Q : Ix → Lx → Prop} {P2 : Int32 → Ix → Lx → Prop} {P18 : Int32 → Int32 → Int32 → Ix → Lx → Prop} (hP2 : ∀ (v2 : Int32) (I : Ix) (L : Lx), P2 v2 I L → Ef G MX0_mend (qV Q) 2 [(0, .ref 62), (1, .ref o1), (2, .int v2)] [] I L) (hP18 : ∀ (v2 : Int32) (v3 : Int32) (v4 : Int32) (I : Ix) (L : Lx), P18 v2 v3 v4 I L → Ef G MX0_mend (qV Q) 18 [(0, .ref 62), (1, .ref o1), (2, .int v2), (3, .int v3), (4, .int v4)] [] I L) {v2 : Int32} {v3 : Int32} {v4 : Int32} {I : Ix} {L : Lx} (h : wpX0_mend_l18 o1 Q P2 P18 v2 v3 v4 I L) : Ef G MX0_mend (qV Q) 18 [(0, .ref 62), (1, .ref o1), (2, .int v2), (3, .int v3), (4, .int v4)] [] I L := by
  unfold wpX0_mend_l18 at h
  refine Ev.iload (k := 4) (pc' := 20) dX0_mend_18 rfl rfl ?_
  refine Ev.aload_n (k := 0) (pc' := 21) dX0_mend_20 rfl rfl rfl ?_
  refine Ev.getR (pc' := 24) dX0_mend_21 rfl fa_RX0_30 ob_62 fk_0_0 rf_62_0 ?_
  refine Ev.getI (pc' := 27) dX0_mend_24 rfl fa_RX0_70 ob_3 fk_10_2 ?_
  refine Ev.icmp_ge (pc' := 30) (tgt := 83) dX0_mend_27 rfl rfl (fun hc => ?_) (fun hc => ?_)
  · have h := h.1 hc
    refine Ev.iload_n (k := 3) (pc' := 84) dX0_mend_83 rfl rfl rfl ?_
    refine Ev.iconst (pc' := 85) dX0_mend_84 rfl ki_m1 ?_
    refine Ev.icmp_eq (pc' := 88) (tgt := 115) dX0_mend_85 rfl rfl (fun hc => ?_) (fun hc => ?_)
    · have h := h.1 hc
      refine Ev.iinc (k := 2) (v := _) (ls' := [(2, .int _), (0, .ref _), (1, .ref _), (3, .int _), (4, .int _)]) (pc' := 118) dX0_mend_115 rfl rfl (congrArg (_ + ·) ki_1) (Nat.le_of_ble_eq_true rfl) rfl ?_
      refine Ev.goto (tgt := 2) dX0_mend_118 rfl ?_
      exact Ev.sub [1, 2, 0] rfl (hP2 _ _ _ h)
    · have h := h.2 hc
      refine Ev.aload_n (k := 1) (pc' := 89) dX0_mend_88 rfl rfl rfl ?_
      refine Ev.getR (pc' := 92) dX0_mend_89 rfl fa_RX0_79 (nowOB ho1) fk_2_4 (nowR2 ho1) ?_
      refine Ev.iload_n (k := 3) (pc' := 93) dX0_mend_92 rfl rfl rfl ?_
      refine Ev.bipush (pc' := 95) dX0_mend_93 rfl kb_100 ?_
      refine Ev.aload_n (k := 1) (pc' := 96) dX0_mend_95 rfl rfl rfl ?_
      refine Ev.getR (pc' := 99) dX0_mend_96 rfl fa_RX0_79 (nowOB ho1) fk_2_4 (nowR2 ho1) ?_
      refine Ev.iload_n (k := 3) (pc' := 100) dX0_mend_99 rfl rfl rfl ?_
      refine Ev.iaload (j := _) (pc' := 101) dX0_mend_100 rfl (nowA2 ho1) h.1 rfl ?_
      have h := h.2
      refine Ev.aload_n (k := 0) (pc' := 102) dX0_mend_101 rfl rfl rfl ?_
      refine Ev.getR (pc' := 105) dX0_mend_102 rfl fa_RX0_30 ob_62 fk_0_0 rf_62_0 ?_
      refine Ev.getR (pc' := 108) dX0_mend_105 rfl fa_RX0_105 ob_3 fk_10_14 rf_3_14 ?_
      refine Ev.iload_n (k := 2) (pc' := 109) dX0_mend_108 rfl rfl rfl ?_
      refine Ev.iaload (j := _) (pc' := 110) dX0_mend_109 rfl ar_23 h.1 rfl ?_
      have h := h.2
      refine Ev.iadd (pc' := 111) dX0_mend_110 rfl ?_
      refine Ev.mmin (pc' := 114) dX0_mend_111 rfl ml_RX0_108 mmin_w (Nat.le_of_ble_eq_true rfl) (Nat.le_of_ble_eq_true rfl) ?_
      refine Ev.iastore (j := _) (pc' := 115) dX0_mend_114 rfl (nowA2 ho1) h.1 rfl (fun I1 eI1 => ?_)
      have h := h.2 I1 eI1
      refine Ev.iinc (k := 2) (v := _) (ls' := [(2, .int _), (0, .ref _), (1, .ref _), (3, .int _), (4, .int _)]) (pc' := 118) dX0_mend_115 rfl rfl (congrArg (_ + ·) ki_1) (Nat.le_of_ble_eq_true rfl) rfl ?_
      refine Ev.goto (tgt := 2) dX0_mend_118 rfl ?_
      exact Ev.sub [1, 2, 0] rfl (hP2 _ _ _ h)
  · have h := h.2 hc
    refine Ev.aload_n (k := 1) (pc' := 31) dX0_mend_30 rfl rfl rfl ?_
    refine Ev.getR (pc' := 34) dX0_mend_31 rfl fa_RX0_73 (nowOB ho1) fk_2_3 (nowR1 ho1) ?_
    refine Ev.iload (k := 4) (pc' := 36) dX0_mend_34 rfl rfl ?_
    refine Ev.iaload (j := _) (pc' := 37) dX0_mend_36 rfl (nowA1 ho1) h.1 rfl ?_
    have h := h.2
    refine Ev.iload_n (k := 2) (pc' := 38) dX0_mend_37 rfl rfl rfl ?_
    refine Ev.icmp_ne (pc' := 41) (tgt := 45) dX0_mend_38 rfl rfl (fun hc => ?_) (fun hc => ?_)
    · have h := h.1 hc
      refine Ev.iconst (pc' := 46) dX0_mend_45 rfl ki_0 ?_
      exact okX0_mend_b46 ho1 hP2 hP18 h
    · have h := h.2 hc
      refine Ev.iconst (pc' := 42) dX0_mend_41 rfl ki_1 ?_
      refine Ev.goto (tgt := 46) dX0_mend_42 rfl ?_
      exact okX0_mend_b46 ho1 hP2 hP18 h
set_option maxRecDepth 10000 in
theorem okX0_mend_h18 {G : Gx} {o1 : Nat} (ho1 : NowAt o1) {Q : Ix → Lx → Prop} {P2 : Int32 → Ix → Lx → Prop} (hP2 : ∀ (v2 : Int32) (I : Ix) (L : Lx), P2 v2 I L → Ef G MX0_mend (qV Q) 2 [(0, .ref 62), (1, .ref o1), (2, .int v2)] [] I L) {v2 : Int32} {v3 : Int32} {v4 : Int32} {I : Ix} {L : Lx} (h : wpX0_mend_h18 o1 Q P2 v2 v3 v4 I L) : Ef G MX0_mend (qV Q) 18 [(0, .ref 62), (1, .ref o1), (2, .int v2), (3, .int v3), (4, .int v4)] [] I L := by
  unfold wpX0_mend_h18 at h
  refine Lfp.ind (P := fun z => Ef G MX0_mend (qV Q) 18 [(0, .ref 62), (1, .ref o1), (2, .int z.1), (3, .int z.2.1), (4, .int z.2.2.1)] [] z.2.2.2.1 z.2.2.2.2) ?_ h
  intro z P' hP' h
  obtain ⟨v2, v3, v4, I, L⟩ := z
  exact okX0_mend_l18 ho1 hP2 (fun v2 v3 v4 I L h9 => hP' (v2, v3, v4, I, L) h9) h
set_option maxRecDepth 10000 in
theorem okX0_mend_l2 {G : Gx} {o1 : Nat} (ho1 : NowAt o1) {Q : Ix → Lx → Prop} {P2 : Int32 → Ix → Lx → Prop} (hP2 : ∀ (v2 : Int32) (I : Ix) (L : Lx), P2 v2 I L → Ef G MX0_mend (qV Q) 2 [(0, .ref 62), (1, .ref o1), (2, .int v2)] [] I L) {v2 : Int32} {I : Ix} {L : Lx} (h : wpX0_mend_l2 o1 Q P2 v2 I L) : Ef G MX0_mend (qV Q) 2 [(0, .ref 62), (1, .ref o1), (2, .int v2)] [] I L := by
  unfold wpX0_mend_l2 at h
  refine Ev.iload_n (k := 2) (pc' := 3) dX0_mend_2 rfl rfl rfl ?_
  refine Ev.aload_n (k := 0) (pc' := 4) dX0_mend_3 rfl rfl rfl ?_
  refine Ev.getR (pc' := 7) dX0_mend_4 rfl fa_RX0_30 ob_62 fk_0_0 rf_62_0 ?_
  refine Ev.getI (pc' := 10) dX0_mend_7 rfl fa_RX0_64 ob_3 fk_10_3 ?_
  refine Ev.icmp_ge (pc' := 13) (tgt := 121) dX0_mend_10 rfl rfl (fun hc => ?_) (fun hc => ?_)
  · have h := h.1 hc
    exact Ef.vret dX0_mend_121 rfl h
  · have h := h.2 hc
    refine Ev.iconst (pc' := 14) dX0_mend_13 rfl ki_m1 ?_
    refine Ev.istore_n (ls' := [(3, .int _), (0, .ref _), (1, .ref _), (2, .int _)]) (pc' := 15) dX0_mend_14 rfl rfl (Nat.le_of_ble_eq_true rfl) rfl ?_
    refine Ev.iconst (pc' := 16) dX0_mend_15 rfl ki_0 ?_
    refine Ev.istore (ls' := [(4, .int _), (3, .int _), (0, .ref _), (1, .ref _), (2, .int _)]) (pc' := 18) dX0_mend_16 rfl (Nat.le_of_ble_eq_true rfl) rfl ?_
    exact Ev.sub [2, 3, 4, 1, 0] rfl (okX0_mend_h18 ho1 hP2 h)
set_option maxRecDepth 10000 in
theorem okX0_mend_h2 {G : Gx} {o1 : Nat} (ho1 : NowAt o1) {Q : Ix → Lx → Prop} {v2 : Int32} {I : Ix} {L : Lx} (h : wpX0_mend_h2 o1 Q v2 I L) : Ef G MX0_mend (qV Q) 2 [(0, .ref 62), (1, .ref o1), (2, .int v2)] [] I L := by
  unfold wpX0_mend_h2 at h
  refine Lfp.ind (P := fun z => Ef G MX0_mend (qV Q) 2 [(0, .ref 62), (1, .ref o1), (2, .int z.1)] [] z.2.1 z.2.2) ?_ h
  intro z P' hP' h
  obtain ⟨v2, I, L⟩ := z
  exact okX0_mend_l2 ho1 (fun v2 I L h9 => hP' (v2, I, L) h9) h
set_option maxRecDepth 10000 in
theorem okX0_mend {G : Gx} {o1 : Nat} (ho1 : NowAt o1) {I : Ix} {L : Lx} {Q : Ix → Lx → Prop} (h : wpX0_mend o1 I L Q) : Mf G MX0_mend [.ref 62, .ref o1] I L (qV Q) := by
  unfold wpX0_mend at h
  refine Mf.of pn_RX0 (Nat.le_of_ble_eq_true rfl) ?_
  refine Ev.iconst (pc' := 1) dX0_mend_0 rfl ki_0 ?_
  refine Ev.istore_n (ls' := [(2, .int _), (0, .ref _), (1, .ref _)]) (pc' := 2) dX0_mend_1 rfl rfl (Nat.le_of_ble_eq_true rfl) rfl ?_
  exact Ev.sub [1, 2, 0] rfl (okX0_mend_h2 ho1 h)
def wpX0_live_b59 (o1 : Nat) (Q : Int32 → Ix → Lx → Prop) (v2 : Int32) (v3 : Int32) (v4 : Int32) (I : Ix) (L : Lx) : Prop := wpX0_noons o1 v2 v4 I L (fun I1 L2 => wpX2_endDay o1 I1 L2 (fun I3 L4 => Q v3 I3 L4))
def wpX0_live_b42 (o1 : Nat) (Q : Int32 → Ix → Lx → Prop) (v2 : Int32) (v3 : Int32) (t0 : Int32) (I : Ix) (L : Lx) : Prop := (t0 = 0 → wpX0_live_b59 o1 Q v2 v3 t0 I L) ∧ (¬ t0 = 0 → ∀ I1 : Ix, I1 = pu I o1 1 ((I o1 1) + 1) → wpX0_live_b59 o1 Q v2 v3 t0 I1 L)
def wpX0_live_b41 (o1 : Nat) (Q : Int32 → Ix → Lx → Prop) (v2 : Int32) (v3 : Int32) (I : Ix) (L : Lx) : Prop := wpX0_live_b42 o1 Q v2 v3 0 I L
def wpX0_live (o1 : Nat) (a2 : Int32) (I : Ix) (L : Lx) (Q : Int32 → Ix → Lx → Prop) : Prop := wpX0_use o1 I L (fun r3 I1 L2 => wpX0_mend o1 I1 L2 (fun I4 L5 => ((I4 3 5) = 0 → wpX0_live_b41 o1 Q a2 r3 I4 L5) ∧ (¬ (I4 3 5) = 0 → wpX2_draw o1 100 I4 L5 (fun r8 I6 L7 => ((I6 3 5) ≤ r8 → wpX0_live_b41 o1 Q a2 r3 I6 L7) ∧ (¬ (I6 3 5) ≤ r8 → wpX0_live_b42 o1 Q a2 r3 1 I6 L7)))))
set_option maxRecDepth 10000 in
theorem okX0_live_b59 {G : Gx} {o1 : Nat} (ho1 : NowAt o1) {Q : Int32 → Ix → Lx → Prop} {v2 : Int32} {v3 : Int32} {v4 : Int32} {I : Ix} {L : Lx} (h : wpX0_live_b59 o1 Q v2 v3 v4 I L) : Ef G MX0_live (qI Q) 59 [(0, .ref 62), (1, .ref o1), (2, .int v2), (3, .int v3), (4, .int v4)] [] I L := by
  unfold wpX0_live_b59 at h
  refine Ev.aload_n (k := 0) (pc' := 60) dX0_live_59 rfl rfl rfl ?_
  refine Ev.aload_n (k := 1) (pc' := 61) dX0_live_60 rfl rfl rfl ?_
  refine Ev.iload_n (k := 2) (pc' := 62) dX0_live_61 rfl rfl rfl ?_
  refine Ev.iload (k := 4) (pc' := 64) dX0_live_62 rfl rfl ?_
  refine Ef.callVV [.ref _, .int _, .int _] [] (pc' := 67) dX0_live_64 rfl cv_RX0_57_X0_noons ⟨Nat.le_of_ble_eq_true rfl, Nat.le_of_ble_eq_true rfl⟩ ob_62 rfl rfl rfl (Nat.le_of_ble_eq_true rfl) (okX0_noons ho1 h) (fun I1 L2 h => ?_)
  refine Ev.aload_n (k := 1) (pc' := 68) dX0_live_67 rfl rfl rfl ?_
  refine Ef.callVV [] [] (pc' := 71) dX0_live_68 rfl cv_RX0_61_X2_endDay ⟨Nat.le_of_ble_eq_true rfl, Nat.le_of_ble_eq_true rfl⟩ (nowOB ho1) rfl rfl rfl (Nat.le_of_ble_eq_true rfl) (okX2_endDay ho1 h) (fun I3 L4 h => ?_)
  refine Ev.iload_n (k := 3) (pc' := 72) dX0_live_71 rfl rfl rfl ?_
  exact Ef.iret dX0_live_72 rfl h
set_option maxRecDepth 10000 in
theorem okX0_live_b42 {G : Gx} {o1 : Nat} (ho1 : NowAt o1) {Q : Int32 → Ix → Lx → Prop} {v2 : Int32} {v3 : Int32} {t0 : Int32} {I : Ix} {L : Lx} (h : wpX0_live_b42 o1 Q v2 v3 t0 I L) : Ef G MX0_live (qI Q) 42 [(0, .ref 62), (1, .ref o1), (2, .int v2), (3, .int v3)] [.int t0] I L := by
  unfold wpX0_live_b42 at h
  refine Ev.istore (ls' := [(4, .int _), (0, .ref _), (1, .ref _), (2, .int _), (3, .int _)]) (pc' := 44) dX0_live_42 rfl (Nat.le_of_ble_eq_true rfl) rfl ?_
  refine Ev.iload (k := 0) (pc' := 46) dX0_live_44 rfl rfl ?_
  refine Ev.if_eq (pc' := 49) (tgt := 59) dX0_live_46 rfl rfl (fun hc => ?_) (fun hc => ?_)
  · have h := h.1 hc
    exact Ev.sub [1, 2, 3, 4, 0] rfl (okX0_live_b59 ho1 h)
  · have h := h.2 hc
    refine Ev.aload_n (k := 2) (pc' := 50) dX0_live_49 rfl rfl rfl ?_
    refine Ev.dup (pc' := 51) dX0_live_50 rfl rfl ?_
    refine Ev.getI (pc' := 54) dX0_live_51 rfl fa_RX0_54 (nowOB ho1) fk_2_1 ?_
    refine Ev.iconst (pc' := 55) dX0_live_54 rfl ki_1 ?_
    refine Ev.iadd (pc' := 56) dX0_live_55 rfl ?_
    refine Ev.putI (pc' := 59) dX0_live_56 rfl fa_RX0_54 (nowOB ho1) fk_2_1 rfl rfl (fun I1 eI1 => ?_)
    have h := h I1 eI1
    exact Ev.sub [1, 2, 3, 4, 0] rfl (okX0_live_b59 ho1 h)
set_option maxRecDepth 10000 in
theorem okX0_live_b41 {G : Gx} {o1 : Nat} (ho1 : NowAt o1) {Q : Int32 → Ix → Lx → Prop} {v2 : Int32} {v3 : Int32} {I : Ix} {L : Lx} (h : wpX0_live_b41 o1 Q v2 v3 I L) : Ef G MX0_live (qI Q) 41 [(0, .ref 62), (1, .ref o1), (2, .int v2), (3, .int v3)] [] I L := by
  unfold wpX0_live_b41 at h
  refine Ev.iconst (pc' := 42) dX0_live_41 rfl ki_0 ?_
  exact okX0_live_b42 ho1 h
set_option maxRecDepth 10000 in
theorem okX0_live {G : Gx} {o1 : Nat} (ho1 : NowAt o1) {a2 : Int32} {I : Ix} {L : Lx} {Q : Int32 → Ix → Lx → Prop} (h : wpX0_live o1 a2 I L Q) : Mf G MX0_live [.ref 62, .ref o1, .int a2] I L (qI Q) := by
  unfold wpX0_live at h
  refine Mf.of pn_RX0 (Nat.le_of_ble_eq_true rfl) ?_
  refine Ev.aload_n (k := 0) (pc' := 1) dX0_live_0 rfl rfl rfl ?_
  refine Ev.aload_n (k := 1) (pc' := 2) dX0_live_1 rfl rfl rfl ?_
  refine Ef.callVI [.ref _] [] (pc' := 5) dX0_live_2 rfl cv_RX0_34_X0_use ⟨Nat.le_of_ble_eq_true rfl, Nat.le_of_ble_eq_true rfl⟩ ob_62 rfl rfl rfl (Nat.le_of_ble_eq_true rfl) (okX0_use ho1 h) (fun r3 I1 L2 h => ?_)
  refine Ev.istore_n (ls' := [(3, .int _), (0, .ref _), (1, .ref _), (2, .int _)]) (pc' := 6) dX0_live_5 rfl rfl (Nat.le_of_ble_eq_true rfl) rfl ?_
  refine Ev.aload_n (k := 1) (pc' := 7) dX0_live_6 rfl rfl rfl ?_
  refine Ev.aload_n (k := 2) (pc' := 8) dX0_live_7 rfl rfl rfl ?_
  refine Ef.callVV [.ref _] [] (pc' := 11) dX0_live_8 rfl cv_RX0_38_X0_mend ⟨Nat.le_of_ble_eq_true rfl, Nat.le_of_ble_eq_true rfl⟩ ob_62 rfl rfl rfl (Nat.le_of_ble_eq_true rfl) (okX0_mend ho1 h) (fun I4 L5 h => ?_)
  refine Ev.aload_n (k := 1) (pc' := 12) dX0_live_11 rfl rfl rfl ?_
  refine Ev.getR (pc' := 15) dX0_live_12 rfl fa_RX0_30 ob_62 fk_0_0 rf_62_0 ?_
  refine Ev.getI (pc' := 18) dX0_live_15 rfl fa_RX0_42 ob_3 fk_10_5 ?_
  refine Ev.if_eq (pc' := 21) (tgt := 41) dX0_live_18 rfl rfl (fun hc => ?_) (fun hc => ?_)
  · have h := h.1 hc
    exact Ev.sub [1, 2, 3, 0] rfl (okX0_live_b41 ho1 h)
  · have h := h.2 hc
    refine Ev.aload_n (k := 2) (pc' := 22) dX0_live_21 rfl rfl rfl ?_
    refine Ev.bipush (pc' := 24) dX0_live_22 rfl kb_100 ?_
    refine Ef.callVI [.int _] [] (pc' := 27) dX0_live_24 rfl cv_RX0_48_X2_draw ⟨Nat.le_of_ble_eq_true rfl, Nat.le_of_ble_eq_true rfl⟩ (nowOB ho1) rfl rfl rfl (Nat.le_of_ble_eq_true rfl) (okX2_draw ho1 h) (fun r8 I6 L7 h => ?_)
    refine Ev.aload_n (k := 1) (pc' := 28) dX0_live_27 rfl rfl rfl ?_
    refine Ev.getR (pc' := 31) dX0_live_28 rfl fa_RX0_30 ob_62 fk_0_0 rf_62_0 ?_
    refine Ev.getI (pc' := 34) dX0_live_31 rfl fa_RX0_42 ob_3 fk_10_5 ?_
    refine Ev.icmp_ge (pc' := 37) (tgt := 41) dX0_live_34 rfl rfl (fun hc => ?_) (fun hc => ?_)
    · have h := h.1 hc
      exact Ev.sub [1, 2, 3, 0] rfl (okX0_live_b41 ho1 h)
    · have h := h.2 hc
      refine Ev.iconst (pc' := 38) dX0_live_37 rfl ki_1 ?_
      refine Ev.goto (tgt := 42) dX0_live_38 rfl ?_
      exact Ev.sub [1, 2, 3, 0] rfl (okX0_live_b42 ho1 h)
def wpX11_run_l31 (Q : Int32 → Ix → Lx → Prop) (P31 : Int32 → Int32 → Int32 → Ix → Lx → Prop) (v1 : Int32) (v2 : Int32) (v3 : Int32) (I : Ix) (L : Lx) : Prop := (v1 ≤ v3 → Q v2 I L) ∧ (¬ v1 ≤ v3 → wpX0_live 53 (I 3 4) I L (fun r3 I1 L2 => P31 v1 (v2 + r3) (v3 + 1) I1 L2))
def wpX11_run_h31 (Q : Int32 → Ix → Lx → Prop) (v1 : Int32) (v2 : Int32) (v3 : Int32) (I : Ix) (L : Lx) : Prop := Lfp (X := Int32 × Int32 × Int32 × Ix × Lx) (fun P z => wpX11_run_l31 Q (fun v1 v2 v3 I L => P (v1, v2, v3, I, L)) z.1 z.2.1 z.2.2.1 z.2.2.2.1 z.2.2.2.2) (v1, v2, v3, I, L)
theorem wpX11_run_h31_fold {Q : Int32 → Ix → Lx → Prop} {v1 : Int32} {v2 : Int32} {v3 : Int32} {I : Ix} {L : Lx} (h : wpX11_run_l31 Q (wpX11_run_h31 Q) v1 v2 v3 I L) : wpX11_run_h31 Q v1 v2 v3 I L := Lfp.fold h
def wpX11_run (a1 : Int32) (I : Ix) (L : Lx) (Q : Int32 → Ix → Lx → Prop) : Prop := (a1 < 0 → Q (-1) I L) ∧ (¬ a1 < 0 → (100 < a1 → Q (-1) I L) ∧ (¬ 100 < a1 → (((I 53 0) + a1) ≤ 10000 → wpX11_run_h31 Q a1 0 0 I L) ∧ (¬ ((I 53 0) + a1) ≤ 10000 → Q (-1) I L)))
set_option maxRecDepth 10000 in
theorem okX11_run_l31 {G : Gx} {Q : Int32 → Ix → Lx → Prop} {P31 : Int32 → Int32 → Int32 → Ix → Lx → Prop} (hP31 : ∀ (v1 : Int32) (v2 : Int32) (v3 : Int32) (I : Ix) (L : Lx), P31 v1 v2 v3 I L → Ef G MX11_run (qI Q) 31 [(0, .ref 0), (1, .int v1), (2, .int v2), (3, .int v3)] [] I L) {v1 : Int32} {v2 : Int32} {v3 : Int32} {I : Ix} {L : Lx} (h : wpX11_run_l31 Q P31 v1 v2 v3 I L) : Ef G MX11_run (qI Q) 31 [(0, .ref 0), (1, .int v1), (2, .int v2), (3, .int v3)] [] I L := by
  unfold wpX11_run_l31 at h
  refine Ev.iload_n (k := 3) (pc' := 32) dX11_run_31 rfl rfl rfl ?_
  refine Ev.iload_n (k := 1) (pc' := 33) dX11_run_32 rfl rfl rfl ?_
  refine Ev.icmp_ge (pc' := 36) (tgt := 63) dX11_run_33 rfl rfl (fun hc => ?_) (fun hc => ?_)
  · have h := h.1 hc
    refine Ev.iload_n (k := 2) (pc' := 64) dX11_run_63 rfl rfl rfl ?_
    exact Ef.iret dX11_run_64 rfl h
  · have h := h.2 hc
    refine Ev.iload_n (k := 2) (pc' := 37) dX11_run_36 rfl rfl rfl ?_
    refine Ev.aload_n (k := 0) (pc' := 38) dX11_run_37 rfl rfl rfl ?_
    refine Ev.getR (pc' := 41) dX11_run_38 rfl fa_RX11_47 ob_0 fk_11_5 rf_0_5 ?_
    refine Ev.aload_n (k := 0) (pc' := 42) dX11_run_41 rfl rfl rfl ?_
    refine Ev.getR (pc' := 45) dX11_run_42 rfl fa_RX11_38 ob_0 fk_11_4 rf_0_4 ?_
    refine Ev.aload_n (k := 0) (pc' := 46) dX11_run_45 rfl rfl rfl ?_
    refine Ev.getR (pc' := 49) dX11_run_46 rfl fa_RX11_19 ob_0 fk_11_1 rf_0_1 ?_
    refine Ev.getI (pc' := 52) dX11_run_49 rfl fa_RX11_117 ob_3 fk_10_4 ?_
    refine Ef.callVI [.ref _, .int _] [.int _] (pc' := 55) dX11_run_52 rfl cv_RX11_120_X0_live ⟨Nat.le_of_ble_eq_true rfl, Nat.le_of_ble_eq_true rfl⟩ ob_62 rfl rfl rfl (Nat.le_of_ble_eq_true rfl) (okX0_live nowAt_53 h) (fun r3 I1 L2 h => ?_)
    refine Ev.iadd (pc' := 56) dX11_run_55 rfl ?_
    refine Ev.istore_n (ls' := [(2, .int _), (0, .ref _), (1, .int _), (3, .int _)]) (pc' := 57) dX11_run_56 rfl rfl (Nat.le_of_ble_eq_true rfl) rfl ?_
    refine Ev.iinc (k := 3) (v := _) (ls' := [(3, .int _), (2, .int _), (0, .ref _), (1, .int _)]) (pc' := 60) dX11_run_57 rfl rfl (congrArg (_ + ·) ki_1) (Nat.le_of_ble_eq_true rfl) rfl ?_
    refine Ev.goto (tgt := 31) dX11_run_60 rfl ?_
    exact Ev.sub [2, 3, 1, 0] rfl (hP31 _ _ _ _ _ h)
set_option maxRecDepth 10000 in
theorem okX11_run_h31 {G : Gx} {Q : Int32 → Ix → Lx → Prop} {v1 : Int32} {v2 : Int32} {v3 : Int32} {I : Ix} {L : Lx} (h : wpX11_run_h31 Q v1 v2 v3 I L) : Ef G MX11_run (qI Q) 31 [(0, .ref 0), (1, .int v1), (2, .int v2), (3, .int v3)] [] I L := by
  unfold wpX11_run_h31 at h
  refine Lfp.ind (P := fun z => Ef G MX11_run (qI Q) 31 [(0, .ref 0), (1, .int z.1), (2, .int z.2.1), (3, .int z.2.2.1)] [] z.2.2.2.1 z.2.2.2.2) ?_ h
  intro z P' hP' h
  obtain ⟨v1, v2, v3, I, L⟩ := z
  exact okX11_run_l31 (fun v1 v2 v3 I L h9 => hP' (v1, v2, v3, I, L) h9) h
set_option maxRecDepth 10000 in
theorem okX11_run {G : Gx} {a1 : Int32} {I : Ix} {L : Lx} {Q : Int32 → Ix → Lx → Prop} (h : wpX11_run a1 I L Q) : Mf G MX11_run [.ref 0, .int a1] I L (qI Q) := by
  unfold wpX11_run at h
  refine Mf.of pn_RX11 (Nat.le_of_ble_eq_true rfl) ?_
  refine Ev.iload_n (k := 1) (pc' := 1) dX11_run_0 rfl rfl rfl ?_
  refine Ev.if_lt (pc' := 4) (tgt := 25) dX11_run_1 rfl rfl (fun hc => ?_) (fun hc => ?_)
  · have h := h.1 hc
    refine Ev.iconst (pc' := 26) dX11_run_25 rfl ki_m1 ?_
    exact Ef.iret dX11_run_26 rfl h
  · have h := h.2 hc
    refine Ev.iload_n (k := 1) (pc' := 5) dX11_run_4 rfl rfl rfl ?_
    refine Ev.bipush (pc' := 7) dX11_run_5 rfl kb_100 ?_
    refine Ev.icmp_gt (pc' := 10) (tgt := 25) dX11_run_7 rfl rfl (fun hc => ?_) (fun hc => ?_)
    · have h := h.1 hc
      refine Ev.iconst (pc' := 26) dX11_run_25 rfl ki_m1 ?_
      exact Ef.iret dX11_run_26 rfl h
    · have h := h.2 hc
      refine Ev.aload_n (k := 0) (pc' := 11) dX11_run_10 rfl rfl rfl ?_
      refine Ev.getR (pc' := 14) dX11_run_11 rfl fa_RX11_38 ob_0 fk_11_4 rf_0_4 ?_
      refine Ev.getI (pc' := 17) dX11_run_14 rfl fa_RX11_114 ob_53 fk_2_0 ?_
      refine Ev.iload_n (k := 1) (pc' := 18) dX11_run_17 rfl rfl rfl ?_
      refine Ev.iadd (pc' := 19) dX11_run_18 rfl ?_
      refine Ev.sipush (pc' := 22) dX11_run_19 rfl ks_10000 ?_
      refine Ev.icmp_le (pc' := 25) (tgt := 27) dX11_run_22 rfl rfl (fun hc => ?_) (fun hc => ?_)
      · have h := h.1 hc
        refine Ev.iconst (pc' := 28) dX11_run_27 rfl ki_0 ?_
        refine Ev.istore_n (ls' := [(2, .int _), (0, .ref _), (1, .int _)]) (pc' := 29) dX11_run_28 rfl rfl (Nat.le_of_ble_eq_true rfl) rfl ?_
        refine Ev.iconst (pc' := 30) dX11_run_29 rfl ki_0 ?_
        refine Ev.istore_n (ls' := [(3, .int _), (2, .int _), (0, .ref _), (1, .int _)]) (pc' := 31) dX11_run_30 rfl rfl (Nat.le_of_ble_eq_true rfl) rfl ?_
        exact Ev.sub [2, 3, 1, 0] rfl (okX11_run_h31 h)
      · have h := h.2 hc
        refine Ev.iconst (pc' := 26) dX11_run_25 rfl ki_m1 ?_
        exact Ef.iret dX11_run_26 rfl h
def wpX11_isThing (a1 : Int32) (I : Ix) (L : Lx) (Q : Bool → Ix → Lx → Prop) : Prop := (a1 < 0 → Q false I L) ∧ (¬ a1 < 0 → ((I 3 2) ≤ a1 → Q false I L) ∧ (¬ (I 3 2) ≤ a1 → Q true I L))
set_option maxRecDepth 10000 in
theorem okX11_isThing {G : Gx} {a1 : Int32} {I : Ix} {L : Lx} {Q : Bool → Ix → Lx → Prop} (h : wpX11_isThing a1 I L Q) : Mf G MX11_isThing [.ref 0, .int a1] I L (qZ Q) := by
  unfold wpX11_isThing at h
  refine Mf.of pn_RX11 (Nat.le_of_ble_eq_true rfl) ?_
  refine Ev.iload_n (k := 1) (pc' := 1) dX11_isThing_0 rfl rfl rfl ?_
  refine Ev.if_lt (pc' := 4) (tgt := 19) dX11_isThing_1 rfl rfl (fun hc => ?_) (fun hc => ?_)
  · have h := h.1 hc
    refine Ev.iconst (pc' := 20) dX11_isThing_19 rfl ki_0 ?_
    exact Ef.zret (b := false) dX11_isThing_20 rfl h
  · have h := h.2 hc
    refine Ev.iload_n (k := 1) (pc' := 5) dX11_isThing_4 rfl rfl rfl ?_
    refine Ev.aload_n (k := 0) (pc' := 6) dX11_isThing_5 rfl rfl rfl ?_
    refine Ev.getR (pc' := 9) dX11_isThing_6 rfl fa_RX11_19 ob_0 fk_11_1 rf_0_1 ?_
    refine Ev.getI (pc' := 12) dX11_isThing_9 rfl fa_RX11_227 ob_3 fk_10_2 ?_
    refine Ev.icmp_ge (pc' := 15) (tgt := 19) dX11_isThing_12 rfl rfl (fun hc => ?_) (fun hc => ?_)
    · have h := h.1 hc
      refine Ev.iconst (pc' := 20) dX11_isThing_19 rfl ki_0 ?_
      exact Ef.zret (b := false) dX11_isThing_20 rfl h
    · have h := h.2 hc
      refine Ev.iconst (pc' := 16) dX11_isThing_15 rfl ki_1 ?_
      refine Ev.goto (tgt := 20) dX11_isThing_16 rfl ?_
      exact Ef.zret (b := true) dX11_isThing_20 rfl h
def wpX11_thing (a1 : Int32) (a2 : Int32) (I : Ix) (L : Lx) (Q : Int32 → Ix → Lx → Prop) : Prop := wpX11_isThing a1 I L (fun r3 I1 L2 => (r3 = true → (a2 = 0 → vp_in a1 10 ∧ Q (I1 54 a1.toNatClampNeg) I1 L2) ∧ (a2 = 1 → vp_in a1 10 ∧ Q (I1 55 a1.toNatClampNeg) I1 L2) ∧ (a2 = 2 → vp_in a1 10 ∧ Q (I1 56 a1.toNatClampNeg) I1 L2) ∧ (a2 = 3 → vp_in a1 10 ∧ ((I1 58 a1.toNatClampNeg) = 0 → Q 0 I1 L2) ∧ (¬ (I1 58 a1.toNatClampNeg) = 0 → Q 1 I1 L2)) ∧ (a2 = 4 → vp_in a1 10 ∧ Q (I1 16 a1.toNatClampNeg) I1 L2) ∧ (a2 = 5 → vp_in a1 10 ∧ Q (I1 57 a1.toNatClampNeg) I1 L2) ∧ (¬ a2 = 0 → ¬ a2 = 1 → ¬ a2 = 2 → ¬ a2 = 3 → ¬ a2 = 4 → ¬ a2 = 5 → Q (-2) I1 L2)) ∧ (r3 = false → Q (-2) I1 L2))
set_option maxRecDepth 10000 in
theorem okX11_thing {G : Gx} {a1 : Int32} {a2 : Int32} {I : Ix} {L : Lx} {Q : Int32 → Ix → Lx → Prop} (h : wpX11_thing a1 a2 I L Q) : Mf G MX11_thing [.ref 0, .int a1, .int a2] I L (qI Q) := by
  unfold wpX11_thing at h
  refine Mf.of pn_RX11 (Nat.le_of_ble_eq_true rfl) ?_
  refine Ev.aload_n (k := 0) (pc' := 1) dX11_thing_0 rfl rfl rfl ?_
  refine Ev.iload_n (k := 1) (pc' := 2) dX11_thing_1 rfl rfl rfl ?_
  refine Ef.callVZ [.int _] [] (pc' := 5) dX11_thing_2 rfl cv_RX11_124_X11_isThing ⟨Nat.le_of_ble_eq_true rfl, Nat.le_of_ble_eq_true rfl⟩ ob_0 rfl rfl rfl (Nat.le_of_ble_eq_true rfl) (okX11_isThing h) (fun r3 I1 L2 h => ?_)
  refine Ef.ifz_ne (pc' := 8) (tgt := 11) dX11_thing_5 rfl rfl (fun hc => ?_) (fun hc => ?_)
  · have h := h.1 hc
    refine Ev.iload_n (k := 2) (pc' := 12) dX11_thing_11 rfl rfl rfl ?_
    by_cases e0 : a2 = 0
    · refine Ev.tableIn (off := 40) (tgt := 52) dX11_thing_12 (by rw [e0]; decide) (by rw [e0]; decide) (by rw [e0]; decide) rfl ?_
      have h := h.1 e0
      refine Ev.aload_n (k := 0) (pc' := 53) dX11_thing_52 rfl rfl rfl ?_
      refine Ev.getR (pc' := 56) dX11_thing_53 rfl fa_RX11_38 ob_0 fk_11_4 rf_0_4 ?_
      refine Ev.getR (pc' := 59) dX11_thing_56 rfl fa_RX11_128 ob_53 fk_2_3 rf_53_3 ?_
      refine Ev.iload_n (k := 1) (pc' := 60) dX11_thing_59 rfl rfl rfl ?_
      refine Ev.iaload (j := _) (pc' := 61) dX11_thing_60 rfl ar_54 h.1 rfl ?_
      have h := h.2
      exact Ef.iret dX11_thing_61 rfl h
    by_cases e1 : a2 = 1
    · refine Ev.tableIn (off := 50) (tgt := 62) dX11_thing_12 (by rw [e1]; decide) (by rw [e1]; decide) (by rw [e1]; decide) rfl ?_
      have h := h.2.1 e1
      refine Ev.aload_n (k := 0) (pc' := 63) dX11_thing_62 rfl rfl rfl ?_
      refine Ev.getR (pc' := 66) dX11_thing_63 rfl fa_RX11_38 ob_0 fk_11_4 rf_0_4 ?_
      refine Ev.getR (pc' := 69) dX11_thing_66 rfl fa_RX11_132 ob_53 fk_2_4 rf_53_4 ?_
      refine Ev.iload_n (k := 1) (pc' := 70) dX11_thing_69 rfl rfl rfl ?_
      refine Ev.iaload (j := _) (pc' := 71) dX11_thing_70 rfl ar_55 h.1 rfl ?_
      have h := h.2
      exact Ef.iret dX11_thing_71 rfl h
    by_cases e2 : a2 = 2
    · refine Ev.tableIn (off := 60) (tgt := 72) dX11_thing_12 (by rw [e2]; decide) (by rw [e2]; decide) (by rw [e2]; decide) rfl ?_
      have h := h.2.2.1 e2
      refine Ev.aload_n (k := 0) (pc' := 73) dX11_thing_72 rfl rfl rfl ?_
      refine Ev.getR (pc' := 76) dX11_thing_73 rfl fa_RX11_38 ob_0 fk_11_4 rf_0_4 ?_
      refine Ev.getR (pc' := 79) dX11_thing_76 rfl fa_RX11_135 ob_53 fk_2_5 rf_53_5 ?_
      refine Ev.iload_n (k := 1) (pc' := 80) dX11_thing_79 rfl rfl rfl ?_
      refine Ev.iaload (j := _) (pc' := 81) dX11_thing_80 rfl ar_56 h.1 rfl ?_
      have h := h.2
      exact Ef.iret dX11_thing_81 rfl h
    by_cases e3 : a2 = 3
    · refine Ev.tableIn (off := 70) (tgt := 82) dX11_thing_12 (by rw [e3]; decide) (by rw [e3]; decide) (by rw [e3]; decide) rfl ?_
      have h := h.2.2.2.1 e3
      refine Ev.aload_n (k := 0) (pc' := 83) dX11_thing_82 rfl rfl rfl ?_
      refine Ev.getR (pc' := 86) dX11_thing_83 rfl fa_RX11_38 ob_0 fk_11_4 rf_0_4 ?_
      refine Ev.getR (pc' := 89) dX11_thing_86 rfl fa_RX11_138 ob_53 fk_2_7 rf_53_7 ?_
      refine Ev.iload_n (k := 1) (pc' := 90) dX11_thing_89 rfl rfl rfl ?_
      refine Ev.zaload (j := _) (pc' := 91) dX11_thing_90 rfl ar_58 h.1 rfl ?_
      have h := h.2
      refine Ev.if_eq (pc' := 94) (tgt := 98) dX11_thing_91 rfl rfl (fun hc => ?_) (fun hc => ?_)
      · have h := h.1 hc
        refine Ev.iconst (pc' := 99) dX11_thing_98 rfl ki_0 ?_
        exact Ef.iret dX11_thing_99 rfl h
      · have h := h.2 hc
        refine Ev.iconst (pc' := 95) dX11_thing_94 rfl ki_1 ?_
        refine Ev.goto (tgt := 99) dX11_thing_95 rfl ?_
        exact Ef.iret dX11_thing_99 rfl h
    by_cases e4 : a2 = 4
    · refine Ev.tableIn (off := 88) (tgt := 100) dX11_thing_12 (by rw [e4]; decide) (by rw [e4]; decide) (by rw [e4]; decide) rfl ?_
      have h := h.2.2.2.2.1 e4
      refine Ev.aload_n (k := 0) (pc' := 101) dX11_thing_100 rfl rfl rfl ?_
      refine Ev.getR (pc' := 104) dX11_thing_101 rfl fa_RX11_19 ob_0 fk_11_1 rf_0_1 ?_
      refine Ev.getR (pc' := 107) dX11_thing_104 rfl fa_RX11_141 ob_3 fk_10_7 rf_3_7 ?_
      refine Ev.iload_n (k := 1) (pc' := 108) dX11_thing_107 rfl rfl rfl ?_
      refine Ev.iaload (j := _) (pc' := 109) dX11_thing_108 rfl ar_16 h.1 rfl ?_
      have h := h.2
      exact Ef.iret dX11_thing_109 rfl h
    by_cases e5 : a2 = 5
    · refine Ev.tableIn (off := 98) (tgt := 110) dX11_thing_12 (by rw [e5]; decide) (by rw [e5]; decide) (by rw [e5]; decide) rfl ?_
      have h := h.2.2.2.2.2.1 e5
      refine Ev.aload_n (k := 0) (pc' := 111) dX11_thing_110 rfl rfl rfl ?_
      refine Ev.getR (pc' := 114) dX11_thing_111 rfl fa_RX11_38 ob_0 fk_11_4 rf_0_4 ?_
      refine Ev.getR (pc' := 117) dX11_thing_114 rfl fa_RX11_144 ob_53 fk_2_6 rf_53_6 ?_
      refine Ev.iload_n (k := 1) (pc' := 118) dX11_thing_117 rfl rfl rfl ?_
      refine Ev.iaload (j := _) (pc' := 119) dX11_thing_118 rfl ar_57 h.1 rfl ?_
      have h := h.2
      exact Ef.iret dX11_thing_119 rfl h
    have h := h.2.2.2.2.2.2 e0 e1 e2 e3 e4 e5
    refine Ev.tableOut (tgt := 120) dX11_thing_12 (sw_out fun v h1 h2 => ?_) rfl ?_
    · have h3 : v = 0 ∨ v = 1 ∨ v = 2 ∨ v = 3 ∨ v = 4 ∨ v = 5 := by omega
      rcases h3 with rfl | rfl | rfl | rfl | rfl | rfl
      · exact fun q => e0 (q.trans (by decide))
      · exact fun q => e1 (q.trans (by decide))
      · exact fun q => e2 (q.trans (by decide))
      · exact fun q => e3 (q.trans (by decide))
      · exact fun q => e4 (q.trans (by decide))
      · exact fun q => e5 (q.trans (by decide))
    · refine Ev.bipush (pc' := 122) dX11_thing_120 rfl kb_m2 ?_
      exact Ef.iret dX11_thing_122 rfl h
  · have h := h.2 hc
    refine Ev.bipush (pc' := 10) dX11_thing_8 rfl kb_m2 ?_
    exact Ef.iret dX11_thing_10 rfl h
def wpX11_isPerson (a1 : Int32) (I : Ix) (L : Lx) (Q : Bool → Ix → Lx → Prop) : Prop := (a1 < 0 → Q false I L) ∧ (¬ a1 < 0 → ((I 3 3) ≤ a1 → Q false I L) ∧ (¬ (I 3 3) ≤ a1 → Q true I L))
set_option maxRecDepth 10000 in
theorem okX11_isPerson {G : Gx} {a1 : Int32} {I : Ix} {L : Lx} {Q : Bool → Ix → Lx → Prop} (h : wpX11_isPerson a1 I L Q) : Mf G MX11_isPerson [.ref 0, .int a1] I L (qZ Q) := by
  unfold wpX11_isPerson at h
  refine Mf.of pn_RX11 (Nat.le_of_ble_eq_true rfl) ?_
  refine Ev.iload_n (k := 1) (pc' := 1) dX11_isPerson_0 rfl rfl rfl ?_
  refine Ev.if_lt (pc' := 4) (tgt := 19) dX11_isPerson_1 rfl rfl (fun hc => ?_) (fun hc => ?_)
  · have h := h.1 hc
    refine Ev.iconst (pc' := 20) dX11_isPerson_19 rfl ki_0 ?_
    exact Ef.zret (b := false) dX11_isPerson_20 rfl h
  · have h := h.2 hc
    refine Ev.iload_n (k := 1) (pc' := 5) dX11_isPerson_4 rfl rfl rfl ?_
    refine Ev.aload_n (k := 0) (pc' := 6) dX11_isPerson_5 rfl rfl rfl ?_
    refine Ev.getR (pc' := 9) dX11_isPerson_6 rfl fa_RX11_19 ob_0 fk_11_1 rf_0_1 ?_
    refine Ev.getI (pc' := 12) dX11_isPerson_9 rfl fa_RX11_105 ob_3 fk_10_3 ?_
    refine Ev.icmp_ge (pc' := 15) (tgt := 19) dX11_isPerson_12 rfl rfl (fun hc => ?_) (fun hc => ?_)
    · have h := h.1 hc
      refine Ev.iconst (pc' := 20) dX11_isPerson_19 rfl ki_0 ?_
      exact Ef.zret (b := false) dX11_isPerson_20 rfl h
    · have h := h.2 hc
      refine Ev.iconst (pc' := 16) dX11_isPerson_15 rfl ki_1 ?_
      refine Ev.goto (tgt := 20) dX11_isPerson_16 rfl ?_
      exact Ef.zret (b := true) dX11_isPerson_20 rfl h
def wpX11_thingsOf_l4 (Q : Int32 → Ix → Lx → Prop) (P4 : Int32 → Int32 → Int32 → Ix → Lx → Prop) (v1 : Int32) (v2 : Int32) (v3 : Int32) (I : Ix) (L : Lx) : Prop := ((I 3 2) ≤ v3 → Q v2 I L) ∧ (¬ (I 3 2) ≤ v3 → vp_in v3 10 ∧ (¬ (I 54 v3.toNatClampNeg) = v1 → P4 v1 v2 (v3 + 1) I L) ∧ ((I 54 v3.toNatClampNeg) = v1 → P4 v1 (v2 + 1) (v3 + 1) I L))
def wpX11_thingsOf_h4 (Q : Int32 → Ix → Lx → Prop) (v1 : Int32) (v2 : Int32) (v3 : Int32) (I : Ix) (L : Lx) : Prop := Lfp (X := Int32 × Int32 × Int32 × Ix × Lx) (fun P z => wpX11_thingsOf_l4 Q (fun v1 v2 v3 I L => P (v1, v2, v3, I, L)) z.1 z.2.1 z.2.2.1 z.2.2.2.1 z.2.2.2.2) (v1, v2, v3, I, L)
theorem wpX11_thingsOf_h4_fold {Q : Int32 → Ix → Lx → Prop} {v1 : Int32} {v2 : Int32} {v3 : Int32} {I : Ix} {L : Lx} (h : wpX11_thingsOf_l4 Q (wpX11_thingsOf_h4 Q) v1 v2 v3 I L) : wpX11_thingsOf_h4 Q v1 v2 v3 I L := Lfp.fold h
def wpX11_thingsOf (a1 : Int32) (I : Ix) (L : Lx) (Q : Int32 → Ix → Lx → Prop) : Prop := wpX11_thingsOf_h4 Q a1 0 0 I L
set_option maxRecDepth 10000 in
theorem okX11_thingsOf_l4 {G : Gx} {Q : Int32 → Ix → Lx → Prop} {P4 : Int32 → Int32 → Int32 → Ix → Lx → Prop} (hP4 : ∀ (v1 : Int32) (v2 : Int32) (v3 : Int32) (I : Ix) (L : Lx), P4 v1 v2 v3 I L → Ef G MX11_thingsOf (qI Q) 4 [(0, .ref 0), (1, .int v1), (2, .int v2), (3, .int v3)] [] I L) {v1 : Int32} {v2 : Int32} {v3 : Int32} {I : Ix} {L : Lx} (h : wpX11_thingsOf_l4 Q P4 v1 v2 v3 I L) : Ef G MX11_thingsOf (qI Q) 4 [(0, .ref 0), (1, .int v1), (2, .int v2), (3, .int v3)] [] I L := by
  unfold wpX11_thingsOf_l4 at h
  refine Ev.iload_n (k := 3) (pc' := 5) dX11_thingsOf_4 rfl rfl rfl ?_
  refine Ev.aload_n (k := 0) (pc' := 6) dX11_thingsOf_5 rfl rfl rfl ?_
  refine Ev.getR (pc' := 9) dX11_thingsOf_6 rfl fa_RX11_19 ob_0 fk_11_1 rf_0_1 ?_
  refine Ev.getI (pc' := 12) dX11_thingsOf_9 rfl fa_RX11_227 ob_3 fk_10_2 ?_
  refine Ev.icmp_ge (pc' := 15) (tgt := 37) dX11_thingsOf_12 rfl rfl (fun hc => ?_) (fun hc => ?_)
  · have h := h.1 hc
    refine Ev.iload_n (k := 2) (pc' := 38) dX11_thingsOf_37 rfl rfl rfl ?_
    exact Ef.iret dX11_thingsOf_38 rfl h
  · have h := h.2 hc
    refine Ev.aload_n (k := 0) (pc' := 16) dX11_thingsOf_15 rfl rfl rfl ?_
    refine Ev.getR (pc' := 19) dX11_thingsOf_16 rfl fa_RX11_38 ob_0 fk_11_4 rf_0_4 ?_
    refine Ev.getR (pc' := 22) dX11_thingsOf_19 rfl fa_RX11_128 ob_53 fk_2_3 rf_53_3 ?_
    refine Ev.iload_n (k := 3) (pc' := 23) dX11_thingsOf_22 rfl rfl rfl ?_
    refine Ev.iaload (j := _) (pc' := 24) dX11_thingsOf_23 rfl ar_54 h.1 rfl ?_
    have h := h.2
    refine Ev.iload_n (k := 1) (pc' := 25) dX11_thingsOf_24 rfl rfl rfl ?_
    refine Ev.icmp_ne (pc' := 28) (tgt := 31) dX11_thingsOf_25 rfl rfl (fun hc => ?_) (fun hc => ?_)
    · have h := h.1 hc
      refine Ev.iinc (k := 3) (v := _) (ls' := [(3, .int _), (0, .ref _), (1, .int _), (2, .int _)]) (pc' := 34) dX11_thingsOf_31 rfl rfl (congrArg (_ + ·) ki_1) (Nat.le_of_ble_eq_true rfl) rfl ?_
      refine Ev.goto (tgt := 4) dX11_thingsOf_34 rfl ?_
      exact Ev.sub [1, 2, 3, 0] rfl (hP4 _ _ _ _ _ h)
    · have h := h.2 hc
      refine Ev.iinc (k := 2) (v := _) (ls' := [(2, .int _), (0, .ref _), (1, .int _), (3, .int _)]) (pc' := 31) dX11_thingsOf_28 rfl rfl (congrArg (_ + ·) ki_1) (Nat.le_of_ble_eq_true rfl) rfl ?_
      refine Ev.iinc (k := 3) (v := _) (ls' := [(3, .int _), (2, .int _), (0, .ref _), (1, .int _)]) (pc' := 34) dX11_thingsOf_31 rfl rfl (congrArg (_ + ·) ki_1) (Nat.le_of_ble_eq_true rfl) rfl ?_
      refine Ev.goto (tgt := 4) dX11_thingsOf_34 rfl ?_
      exact Ev.sub [2, 3, 1, 0] rfl (hP4 _ _ _ _ _ h)
set_option maxRecDepth 10000 in
theorem okX11_thingsOf_h4 {G : Gx} {Q : Int32 → Ix → Lx → Prop} {v1 : Int32} {v2 : Int32} {v3 : Int32} {I : Ix} {L : Lx} (h : wpX11_thingsOf_h4 Q v1 v2 v3 I L) : Ef G MX11_thingsOf (qI Q) 4 [(0, .ref 0), (1, .int v1), (2, .int v2), (3, .int v3)] [] I L := by
  unfold wpX11_thingsOf_h4 at h
  refine Lfp.ind (P := fun z => Ef G MX11_thingsOf (qI Q) 4 [(0, .ref 0), (1, .int z.1), (2, .int z.2.1), (3, .int z.2.2.1)] [] z.2.2.2.1 z.2.2.2.2) ?_ h
  intro z P' hP' h
  obtain ⟨v1, v2, v3, I, L⟩ := z
  exact okX11_thingsOf_l4 (fun v1 v2 v3 I L h9 => hP' (v1, v2, v3, I, L) h9) h
set_option maxRecDepth 10000 in
theorem okX11_thingsOf {G : Gx} {a1 : Int32} {I : Ix} {L : Lx} {Q : Int32 → Ix → Lx → Prop} (h : wpX11_thingsOf a1 I L Q) : Mf G MX11_thingsOf [.ref 0, .int a1] I L (qI Q) := by
  unfold wpX11_thingsOf at h
  refine Mf.of pn_RX11 (Nat.le_of_ble_eq_true rfl) ?_
  refine Ev.iconst (pc' := 1) dX11_thingsOf_0 rfl ki_0 ?_
  refine Ev.istore_n (ls' := [(2, .int _), (0, .ref _), (1, .int _)]) (pc' := 2) dX11_thingsOf_1 rfl rfl (Nat.le_of_ble_eq_true rfl) rfl ?_
  refine Ev.iconst (pc' := 3) dX11_thingsOf_2 rfl ki_0 ?_
  refine Ev.istore_n (ls' := [(3, .int _), (2, .int _), (0, .ref _), (1, .int _)]) (pc' := 4) dX11_thingsOf_3 rfl rfl (Nat.le_of_ble_eq_true rfl) rfl ?_
  exact Ev.sub [2, 3, 1, 0] rfl (okX11_thingsOf_h4 h)
def wpX11_person (a1 : Int32) (a2 : Int32) (I : Ix) (L : Lx) (Q : Int32 → Ix → Lx → Prop) : Prop := wpX11_isPerson a1 I L (fun r3 I1 L2 => (r3 = true → (a2 = 0 → vp_in a1 6 ∧ Q (I1 59 a1.toNatClampNeg) I1 L2) ∧ (a2 = 1 → vp_in a1 6 ∧ Q (I1 60 a1.toNatClampNeg) I1 L2) ∧ (a2 = 2 → wpX11_thingsOf a1 I1 L2 (fun r6 I4 L5 => Q r6 I4 L5)) ∧ (a2 = 3 → wpX0_remember 53 I1 L2 (fun I7 L8 => wpX0_aim 53 a1 (-60) I7 L8 (fun r11 I9 L10 => Q r11 I9 L10))) ∧ (¬ a2 = 0 → ¬ a2 = 1 → ¬ a2 = 2 → ¬ a2 = 3 → Q (-2) I1 L2)) ∧ (r3 = false → Q (-2) I1 L2))
set_option maxRecDepth 10000 in
theorem okX11_person {G : Gx} {a1 : Int32} {a2 : Int32} {I : Ix} {L : Lx} {Q : Int32 → Ix → Lx → Prop} (h : wpX11_person a1 a2 I L Q) : Mf G MX11_person [.ref 0, .int a1, .int a2] I L (qI Q) := by
  unfold wpX11_person at h
  refine Mf.of pn_RX11 (Nat.le_of_ble_eq_true rfl) ?_
  refine Ev.aload_n (k := 0) (pc' := 1) dX11_person_0 rfl rfl rfl ?_
  refine Ev.iload_n (k := 1) (pc' := 2) dX11_person_1 rfl rfl rfl ?_
  refine Ef.callVZ [.int _] [] (pc' := 5) dX11_person_2 rfl cv_RX11_147_X11_isPerson ⟨Nat.le_of_ble_eq_true rfl, Nat.le_of_ble_eq_true rfl⟩ ob_0 rfl rfl rfl (Nat.le_of_ble_eq_true rfl) (okX11_isPerson h) (fun r3 I1 L2 h => ?_)
  refine Ef.ifz_ne (pc' := 8) (tgt := 11) dX11_person_5 rfl rfl (fun hc => ?_) (fun hc => ?_)
  · have h := h.1 hc
    refine Ev.iload_n (k := 2) (pc' := 12) dX11_person_11 rfl rfl rfl ?_
    by_cases e0 : a2 = 0
    · refine Ev.tableIn (off := 32) (tgt := 44) dX11_person_12 (by rw [e0]; decide) (by rw [e0]; decide) (by rw [e0]; decide) rfl ?_
      have h := h.1 e0
      refine Ev.aload_n (k := 0) (pc' := 45) dX11_person_44 rfl rfl rfl ?_
      refine Ev.getR (pc' := 48) dX11_person_45 rfl fa_RX11_38 ob_0 fk_11_4 rf_0_4 ?_
      refine Ev.getR (pc' := 51) dX11_person_48 rfl fa_RX11_150 ob_53 fk_2_8 rf_53_8 ?_
      refine Ev.iload_n (k := 1) (pc' := 52) dX11_person_51 rfl rfl rfl ?_
      refine Ev.iaload (j := _) (pc' := 53) dX11_person_52 rfl ar_59 h.1 rfl ?_
      have h := h.2
      exact Ef.iret dX11_person_53 rfl h
    by_cases e1 : a2 = 1
    · refine Ev.tableIn (off := 42) (tgt := 54) dX11_person_12 (by rw [e1]; decide) (by rw [e1]; decide) (by rw [e1]; decide) rfl ?_
      have h := h.2.1 e1
      refine Ev.aload_n (k := 0) (pc' := 55) dX11_person_54 rfl rfl rfl ?_
      refine Ev.getR (pc' := 58) dX11_person_55 rfl fa_RX11_38 ob_0 fk_11_4 rf_0_4 ?_
      refine Ev.getR (pc' := 61) dX11_person_58 rfl fa_RX11_153 ob_53 fk_2_9 rf_53_9 ?_
      refine Ev.iload_n (k := 1) (pc' := 62) dX11_person_61 rfl rfl rfl ?_
      refine Ev.iaload (j := _) (pc' := 63) dX11_person_62 rfl ar_60 h.1 rfl ?_
      have h := h.2
      exact Ef.iret dX11_person_63 rfl h
    by_cases e2 : a2 = 2
    · refine Ev.tableIn (off := 52) (tgt := 64) dX11_person_12 (by rw [e2]; decide) (by rw [e2]; decide) (by rw [e2]; decide) rfl ?_
      have h := h.2.2.1 e2
      refine Ev.aload_n (k := 0) (pc' := 65) dX11_person_64 rfl rfl rfl ?_
      refine Ev.iload_n (k := 1) (pc' := 66) dX11_person_65 rfl rfl rfl ?_
      refine Ef.callVI [.int _] [] (pc' := 69) dX11_person_66 rfl cv_RX11_156_X11_thingsOf ⟨Nat.le_of_ble_eq_true rfl, Nat.le_of_ble_eq_true rfl⟩ ob_0 rfl rfl rfl (Nat.le_of_ble_eq_true rfl) (okX11_thingsOf h) (fun r6 I4 L5 h => ?_)
      exact Ef.iret dX11_person_69 rfl h
    by_cases e3 : a2 = 3
    · refine Ev.tableIn (off := 58) (tgt := 70) dX11_person_12 (by rw [e3]; decide) (by rw [e3]; decide) (by rw [e3]; decide) rfl ?_
      have h := h.2.2.2.1 e3
      refine Ev.aload_n (k := 0) (pc' := 71) dX11_person_70 rfl rfl rfl ?_
      refine Ev.getR (pc' := 74) dX11_person_71 rfl fa_RX11_47 ob_0 fk_11_5 rf_0_5 ?_
      refine Ev.aload_n (k := 0) (pc' := 75) dX11_person_74 rfl rfl rfl ?_
      refine Ev.getR (pc' := 78) dX11_person_75 rfl fa_RX11_38 ob_0 fk_11_4 rf_0_4 ?_
      refine Ef.callVV [.ref _] [] (pc' := 81) dX11_person_78 rfl cv_RX11_160_X0_remember ⟨Nat.le_of_ble_eq_true rfl, Nat.le_of_ble_eq_true rfl⟩ ob_62 rfl rfl rfl (Nat.le_of_ble_eq_true rfl) (okX0_remember nowAt_53 h) (fun I7 L8 h => ?_)
      refine Ev.aload_n (k := 0) (pc' := 82) dX11_person_81 rfl rfl rfl ?_
      refine Ev.getR (pc' := 85) dX11_person_82 rfl fa_RX11_47 ob_0 fk_11_5 rf_0_5 ?_
      refine Ev.aload_n (k := 0) (pc' := 86) dX11_person_85 rfl rfl rfl ?_
      refine Ev.getR (pc' := 89) dX11_person_86 rfl fa_RX11_38 ob_0 fk_11_4 rf_0_4 ?_
      refine Ev.iload_n (k := 1) (pc' := 90) dX11_person_89 rfl rfl rfl ?_
      refine Ev.bipush (pc' := 92) dX11_person_90 rfl kb_m60 ?_
      refine Ef.callVI [.ref _, .int _, .int _] [] (pc' := 95) dX11_person_92 rfl cv_RX11_164_X0_aim ⟨Nat.le_of_ble_eq_true rfl, Nat.le_of_ble_eq_true rfl⟩ ob_62 rfl rfl rfl (Nat.le_of_ble_eq_true rfl) (okX0_aim nowAt_53 h) (fun r11 I9 L10 h => ?_)
      exact Ef.iret dX11_person_95 rfl h
    have h := h.2.2.2.2 e0 e1 e2 e3
    refine Ev.tableOut (tgt := 96) dX11_person_12 (sw_out fun v h1 h2 => ?_) rfl ?_
    · have h3 : v = 0 ∨ v = 1 ∨ v = 2 ∨ v = 3 := by omega
      rcases h3 with rfl | rfl | rfl | rfl
      · exact fun q => e0 (q.trans (by decide))
      · exact fun q => e1 (q.trans (by decide))
      · exact fun q => e2 (q.trans (by decide))
      · exact fun q => e3 (q.trans (by decide))
    · refine Ev.bipush (pc' := 98) dX11_person_96 rfl kb_m2 ?_
      exact Ef.iret dX11_person_98 rfl h
  · have h := h.2 hc
    refine Ev.bipush (pc' := 10) dX11_person_8 rfl kb_m2 ?_
    exact Ef.iret dX11_person_10 rfl h
def wpX11_isPlace (a1 : Int32) (I : Ix) (L : Lx) (Q : Bool → Ix → Lx → Prop) : Prop := (a1 < 0 → Q false I L) ∧ (¬ a1 < 0 → ((I 4 0) ≤ a1 → Q false I L) ∧ (¬ (I 4 0) ≤ a1 → Q true I L))
set_option maxRecDepth 10000 in
theorem okX11_isPlace {G : Gx} {a1 : Int32} {I : Ix} {L : Lx} {Q : Bool → Ix → Lx → Prop} (h : wpX11_isPlace a1 I L Q) : Mf G MX11_isPlace [.ref 0, .int a1] I L (qZ Q) := by
  unfold wpX11_isPlace at h
  refine Mf.of pn_RX11 (Nat.le_of_ble_eq_true rfl) ?_
  refine Ev.iload_n (k := 1) (pc' := 1) dX11_isPlace_0 rfl rfl rfl ?_
  refine Ev.if_lt (pc' := 4) (tgt := 22) dX11_isPlace_1 rfl rfl (fun hc => ?_) (fun hc => ?_)
  · have h := h.1 hc
    refine Ev.iconst (pc' := 23) dX11_isPlace_22 rfl ki_0 ?_
    exact Ef.zret (b := false) dX11_isPlace_23 rfl h
  · have h := h.2 hc
    refine Ev.iload_n (k := 1) (pc' := 5) dX11_isPlace_4 rfl rfl rfl ?_
    refine Ev.aload_n (k := 0) (pc' := 6) dX11_isPlace_5 rfl rfl rfl ?_
    refine Ev.getR (pc' := 9) dX11_isPlace_6 rfl fa_RX11_19 ob_0 fk_11_1 rf_0_1 ?_
    refine Ev.getR (pc' := 12) dX11_isPlace_9 rfl fa_RX11_171 ob_3 fk_10_0 rf_3_0 ?_
    refine Ev.getI (pc' := 15) dX11_isPlace_12 rfl fa_RX11_270 ob_4 fk_1_0 ?_
    refine Ev.icmp_ge (pc' := 18) (tgt := 22) dX11_isPlace_15 rfl rfl (fun hc => ?_) (fun hc => ?_)
    · have h := h.1 hc
      refine Ev.iconst (pc' := 23) dX11_isPlace_22 rfl ki_0 ?_
      exact Ef.zret (b := false) dX11_isPlace_23 rfl h
    · have h := h.2 hc
      refine Ev.iconst (pc' := 19) dX11_isPlace_18 rfl ki_1 ?_
      refine Ev.goto (tgt := 23) dX11_isPlace_19 rfl ?_
      exact Ef.zret (b := true) dX11_isPlace_23 rfl h
def wpX11_far (a1 : Int32) (a2 : Int32) (I : Ix) (L : Lx) (Q : Int32 → Ix → Lx → Prop) : Prop := wpX11_isPlace a1 I L (fun r3 I1 L2 => (r3 = false → Q (-1) I1 L2) ∧ (r3 = true → wpX11_isPlace a2 I1 L2 (fun r6 I4 L5 => (r6 = false → Q (-1) I4 L5) ∧ (r6 = true → wpX1_minutes_4 a1 a2 I4 L5 (fun r9 I7 L8 => Q r9 I7 L8)))))
set_option maxRecDepth 10000 in
theorem okX11_far {G : Gx} {a1 : Int32} {a2 : Int32} {I : Ix} {L : Lx} {Q : Int32 → Ix → Lx → Prop} (h : wpX11_far a1 a2 I L Q) : Mf G MX11_far [.ref 0, .int a1, .int a2] I L (qI Q) := by
  unfold wpX11_far at h
  refine Mf.of pn_RX11 (Nat.le_of_ble_eq_true rfl) ?_
  refine Ev.aload_n (k := 0) (pc' := 1) dX11_far_0 rfl rfl rfl ?_
  refine Ev.iload_n (k := 1) (pc' := 2) dX11_far_1 rfl rfl rfl ?_
  refine Ef.callVZ [.int _] [] (pc' := 5) dX11_far_2 rfl cv_RX11_168_X11_isPlace ⟨Nat.le_of_ble_eq_true rfl, Nat.le_of_ble_eq_true rfl⟩ ob_0 rfl rfl rfl (Nat.le_of_ble_eq_true rfl) (okX11_isPlace h) (fun r3 I1 L2 h => ?_)
  refine Ef.ifz_eq (pc' := 8) (tgt := 31) dX11_far_5 rfl rfl (fun hc => ?_) (fun hc => ?_)
  · have h := h.1 hc
    refine Ev.iconst (pc' := 32) dX11_far_31 rfl ki_m1 ?_
    exact Ef.iret dX11_far_32 rfl h
  · have h := h.2 hc
    refine Ev.aload_n (k := 0) (pc' := 9) dX11_far_8 rfl rfl rfl ?_
    refine Ev.iload_n (k := 2) (pc' := 10) dX11_far_9 rfl rfl rfl ?_
    refine Ef.callVZ [.int _] [] (pc' := 13) dX11_far_10 rfl cv_RX11_168_X11_isPlace ⟨Nat.le_of_ble_eq_true rfl, Nat.le_of_ble_eq_true rfl⟩ ob_0 rfl rfl rfl (Nat.le_of_ble_eq_true rfl) (okX11_isPlace h) (fun r6 I4 L5 h => ?_)
    refine Ef.ifz_eq (pc' := 16) (tgt := 31) dX11_far_13 rfl rfl (fun hc => ?_) (fun hc => ?_)
    · have h := h.1 hc
      refine Ev.iconst (pc' := 32) dX11_far_31 rfl ki_m1 ?_
      exact Ef.iret dX11_far_32 rfl h
    · have h := h.2 hc
      refine Ev.aload_n (k := 0) (pc' := 17) dX11_far_16 rfl rfl rfl ?_
      refine Ev.getR (pc' := 20) dX11_far_17 rfl fa_RX11_19 ob_0 fk_11_1 rf_0_1 ?_
      refine Ev.getR (pc' := 23) dX11_far_20 rfl fa_RX11_171 ob_3 fk_10_0 rf_3_0 ?_
      refine Ev.iload_n (k := 1) (pc' := 24) dX11_far_23 rfl rfl rfl ?_
      refine Ev.iload_n (k := 2) (pc' := 25) dX11_far_24 rfl rfl rfl ?_
      refine Ef.callVI [.int _, .int _] [] (pc' := 28) dX11_far_25 rfl cv_RX11_175_X1_minutes_4 ⟨Nat.le_of_ble_eq_true rfl, Nat.le_of_ble_eq_true rfl⟩ ob_4 rfl rfl rfl (Nat.le_of_ble_eq_true rfl) (okX1_minutes_4 h) (fun r9 I7 L8 h => ?_)
      refine Ev.goto (tgt := 32) dX11_far_28 rfl ?_
      exact Ef.iret dX11_far_32 rfl h
def wpX11_isPersonOrNobody_b13 (Q : Bool → Ix → Lx → Prop) (I : Ix) (L : Lx) : Prop := Q true I L
def wpX11_isPersonOrNobody (a1 : Int32) (I : Ix) (L : Lx) (Q : Bool → Ix → Lx → Prop) : Prop := (a1 = (-1) → wpX11_isPersonOrNobody_b13 Q I L) ∧ (¬ a1 = (-1) → wpX11_isPerson a1 I L (fun r3 I1 L2 => (r3 = false → Q false I1 L2) ∧ (r3 = true → wpX11_isPersonOrNobody_b13 Q I1 L2)))
set_option maxRecDepth 10000 in
theorem okX11_isPersonOrNobody_b13 {G : Gx} {Q : Bool → Ix → Lx → Prop} {I : Ix} {L : Lx} (h : wpX11_isPersonOrNobody_b13 Q I L) : Ef G MX11_isPersonOrNobody (qZ Q) 13 [] [] I L := by
  unfold wpX11_isPersonOrNobody_b13 at h
  refine Ev.iconst (pc' := 14) dX11_isPersonOrNobody_13 rfl ki_1 ?_
  refine Ev.goto (tgt := 18) dX11_isPersonOrNobody_14 rfl ?_
  exact Ef.zret (b := true) dX11_isPersonOrNobody_18 rfl h
set_option maxRecDepth 10000 in
theorem okX11_isPersonOrNobody {G : Gx} {a1 : Int32} {I : Ix} {L : Lx} {Q : Bool → Ix → Lx → Prop} (h : wpX11_isPersonOrNobody a1 I L Q) : Mf G MX11_isPersonOrNobody [.ref 0, .int a1] I L (qZ Q) := by
  unfold wpX11_isPersonOrNobody at h
  refine Mf.of pn_RX11 (Nat.le_of_ble_eq_true rfl) ?_
  refine Ev.iload_n (k := 1) (pc' := 1) dX11_isPersonOrNobody_0 rfl rfl rfl ?_
  refine Ev.iconst (pc' := 2) dX11_isPersonOrNobody_1 rfl ki_m1 ?_
  refine Ev.icmp_eq (pc' := 5) (tgt := 13) dX11_isPersonOrNobody_2 rfl rfl (fun hc => ?_) (fun hc => ?_)
  · have h := h.1 hc
    exact Ev.sub [] rfl (okX11_isPersonOrNobody_b13 h)
  · have h := h.2 hc
    refine Ev.aload_n (k := 0) (pc' := 6) dX11_isPersonOrNobody_5 rfl rfl rfl ?_
    refine Ev.iload_n (k := 1) (pc' := 7) dX11_isPersonOrNobody_6 rfl rfl rfl ?_
    refine Ef.callVZ [.int _] [] (pc' := 10) dX11_isPersonOrNobody_7 rfl cv_RX11_147_X11_isPerson ⟨Nat.le_of_ble_eq_true rfl, Nat.le_of_ble_eq_true rfl⟩ ob_0 rfl rfl rfl (Nat.le_of_ble_eq_true rfl) (okX11_isPerson h) (fun r3 I1 L2 h => ?_)
    refine Ef.ifz_eq (pc' := 13) (tgt := 17) dX11_isPersonOrNobody_10 rfl rfl (fun hc => ?_) (fun hc => ?_)
    · have h := h.1 hc
      refine Ev.iconst (pc' := 18) dX11_isPersonOrNobody_17 rfl ki_0 ?_
      exact Ef.zret (b := false) dX11_isPersonOrNobody_18 rfl h
    · have h := h.2 hc
      exact Ev.sub [] rfl (okX11_isPersonOrNobody_b13 h)
def wpX11_give (a1 : Int32) (a2 : Int32) (I : Ix) (L : Lx) (Q : Bool → Ix → Lx → Prop) : Prop := wpX11_isThing a1 I L (fun r3 I1 L2 => (r3 = false → Q false I1 L2) ∧ (r3 = true → wpX11_isPersonOrNobody a2 I1 L2 (fun r6 I4 L5 => (r6 = false → Q false I4 L5) ∧ (r6 = true → vp_in a1 10 ∧ ((I4 58 a1.toNatClampNeg) = 0 → vp_in a1 10 ∧ ∀ I7 : Ix, I7 = pu I4 54 a1.toNatClampNeg a2 → Q true I7 L5) ∧ (¬ (I4 58 a1.toNatClampNeg) = 0 → Q false I4 L5)))))
set_option maxRecDepth 10000 in
theorem okX11_give {G : Gx} {a1 : Int32} {a2 : Int32} {I : Ix} {L : Lx} {Q : Bool → Ix → Lx → Prop} (h : wpX11_give a1 a2 I L Q) : Mf G MX11_give [.ref 0, .int a1, .int a2] I L (qZ Q) := by
  unfold wpX11_give at h
  refine Mf.of pn_RX11 (Nat.le_of_ble_eq_true rfl) ?_
  refine Ev.aload_n (k := 0) (pc' := 1) dX11_give_0 rfl rfl rfl ?_
  refine Ev.iload_n (k := 1) (pc' := 2) dX11_give_1 rfl rfl rfl ?_
  refine Ef.callVZ [.int _] [] (pc' := 5) dX11_give_2 rfl cv_RX11_124_X11_isThing ⟨Nat.le_of_ble_eq_true rfl, Nat.le_of_ble_eq_true rfl⟩ ob_0 rfl rfl rfl (Nat.le_of_ble_eq_true rfl) (okX11_isThing h) (fun r3 I1 L2 h => ?_)
  refine Ef.ifz_eq (pc' := 8) (tgt := 28) dX11_give_5 rfl rfl (fun hc => ?_) (fun hc => ?_)
  · have h := h.1 hc
    refine Ev.iconst (pc' := 29) dX11_give_28 rfl ki_0 ?_
    exact Ef.zret (b := false) dX11_give_29 rfl h
  · have h := h.2 hc
    refine Ev.aload_n (k := 0) (pc' := 9) dX11_give_8 rfl rfl rfl ?_
    refine Ev.iload_n (k := 2) (pc' := 10) dX11_give_9 rfl rfl rfl ?_
    refine Ef.callVZ [.int _] [] (pc' := 13) dX11_give_10 rfl cv_RX11_181_X11_isPersonOrNobody ⟨Nat.le_of_ble_eq_true rfl, Nat.le_of_ble_eq_true rfl⟩ ob_0 rfl rfl rfl (Nat.le_of_ble_eq_true rfl) (okX11_isPersonOrNobody h) (fun r6 I4 L5 h => ?_)
    refine Ef.ifz_eq (pc' := 16) (tgt := 28) dX11_give_13 rfl rfl (fun hc => ?_) (fun hc => ?_)
    · have h := h.1 hc
      refine Ev.iconst (pc' := 29) dX11_give_28 rfl ki_0 ?_
      exact Ef.zret (b := false) dX11_give_29 rfl h
    · have h := h.2 hc
      refine Ev.aload_n (k := 0) (pc' := 17) dX11_give_16 rfl rfl rfl ?_
      refine Ev.getR (pc' := 20) dX11_give_17 rfl fa_RX11_38 ob_0 fk_11_4 rf_0_4 ?_
      refine Ev.getR (pc' := 23) dX11_give_20 rfl fa_RX11_138 ob_53 fk_2_7 rf_53_7 ?_
      refine Ev.iload_n (k := 1) (pc' := 24) dX11_give_23 rfl rfl rfl ?_
      refine Ev.zaload (j := _) (pc' := 25) dX11_give_24 rfl ar_58 h.1 rfl ?_
      have h := h.2
      refine Ev.if_eq (pc' := 28) (tgt := 30) dX11_give_25 rfl rfl (fun hc => ?_) (fun hc => ?_)
      · have h := h.1 hc
        refine Ev.aload_n (k := 0) (pc' := 31) dX11_give_30 rfl rfl rfl ?_
        refine Ev.getR (pc' := 34) dX11_give_31 rfl fa_RX11_38 ob_0 fk_11_4 rf_0_4 ?_
        refine Ev.getR (pc' := 37) dX11_give_34 rfl fa_RX11_128 ob_53 fk_2_3 rf_53_3 ?_
        refine Ev.iload_n (k := 1) (pc' := 38) dX11_give_37 rfl rfl rfl ?_
        refine Ev.iload_n (k := 2) (pc' := 39) dX11_give_38 rfl rfl rfl ?_
        refine Ev.iastore (j := _) (pc' := 40) dX11_give_39 rfl ar_54 h.1 rfl (fun I7 eI7 => ?_)
        have h := h.2 I7 eI7
        refine Ev.iconst (pc' := 41) dX11_give_40 rfl ki_1 ?_
        exact Ef.zret (b := true) dX11_give_41 rfl h
      · have h := h.2 hc
        refine Ev.iconst (pc' := 29) dX11_give_28 rfl ki_0 ?_
        exact Ef.zret (b := false) dX11_give_29 rfl h
def wpX11_chip (a1 : Int32) (a2 : Int32) (I : Ix) (L : Lx) (Q : Int32 → Ix → Lx → Prop) : Prop := wpX11_isThing a1 I L (fun r3 I1 L2 => (r3 = false → Q (-1) I1 L2) ∧ (r3 = true → (a2 < 0 → Q (-1) I1 L2) ∧ (¬ a2 < 0 → vp_in a1 10 ∧ (a2 ≤ (I1 57 a1.toNatClampNeg) → vp_in a1 10 ∧ vp_in a1 10 ∧ ∀ I4 : Ix, I4 = pu I1 57 a1.toNatClampNeg ((I1 57 a1.toNatClampNeg) - a2) → vp_in a1 10 ∧ Q (I4 57 a1.toNatClampNeg) I4 L2) ∧ (¬ a2 ≤ (I1 57 a1.toNatClampNeg) → Q (-1) I1 L2))))
set_option maxRecDepth 10000 in
theorem okX11_chip {G : Gx} {a1 : Int32} {a2 : Int32} {I : Ix} {L : Lx} {Q : Int32 → Ix → Lx → Prop} (h : wpX11_chip a1 a2 I L Q) : Mf G MX11_chip [.ref 0, .int a1, .int a2] I L (qI Q) := by
  unfold wpX11_chip at h
  refine Mf.of pn_RX11 (Nat.le_of_ble_eq_true rfl) ?_
  refine Ev.aload_n (k := 0) (pc' := 1) dX11_chip_0 rfl rfl rfl ?_
  refine Ev.iload_n (k := 1) (pc' := 2) dX11_chip_1 rfl rfl rfl ?_
  refine Ef.callVZ [.int _] [] (pc' := 5) dX11_chip_2 rfl cv_RX11_124_X11_isThing ⟨Nat.le_of_ble_eq_true rfl, Nat.le_of_ble_eq_true rfl⟩ ob_0 rfl rfl rfl (Nat.le_of_ble_eq_true rfl) (okX11_isThing h) (fun r3 I1 L2 h => ?_)
  refine Ef.ifz_eq (pc' := 8) (tgt := 25) dX11_chip_5 rfl rfl (fun hc => ?_) (fun hc => ?_)
  · have h := h.1 hc
    refine Ev.iconst (pc' := 26) dX11_chip_25 rfl ki_m1 ?_
    exact Ef.iret dX11_chip_26 rfl h
  · have h := h.2 hc
    refine Ev.iload_n (k := 2) (pc' := 9) dX11_chip_8 rfl rfl rfl ?_
    refine Ev.if_lt (pc' := 12) (tgt := 25) dX11_chip_9 rfl rfl (fun hc => ?_) (fun hc => ?_)
    · have h := h.1 hc
      refine Ev.iconst (pc' := 26) dX11_chip_25 rfl ki_m1 ?_
      exact Ef.iret dX11_chip_26 rfl h
    · have h := h.2 hc
      refine Ev.iload_n (k := 2) (pc' := 13) dX11_chip_12 rfl rfl rfl ?_
      refine Ev.aload_n (k := 0) (pc' := 14) dX11_chip_13 rfl rfl rfl ?_
      refine Ev.getR (pc' := 17) dX11_chip_14 rfl fa_RX11_38 ob_0 fk_11_4 rf_0_4 ?_
      refine Ev.getR (pc' := 20) dX11_chip_17 rfl fa_RX11_144 ob_53 fk_2_6 rf_53_6 ?_
      refine Ev.iload_n (k := 1) (pc' := 21) dX11_chip_20 rfl rfl rfl ?_
      refine Ev.iaload (j := _) (pc' := 22) dX11_chip_21 rfl ar_57 h.1 rfl ?_
      have h := h.2
      refine Ev.icmp_le (pc' := 25) (tgt := 27) dX11_chip_22 rfl rfl (fun hc => ?_) (fun hc => ?_)
      · have h := h.1 hc
        refine Ev.aload_n (k := 0) (pc' := 28) dX11_chip_27 rfl rfl rfl ?_
        refine Ev.getR (pc' := 31) dX11_chip_28 rfl fa_RX11_38 ob_0 fk_11_4 rf_0_4 ?_
        refine Ev.getR (pc' := 34) dX11_chip_31 rfl fa_RX11_144 ob_53 fk_2_6 rf_53_6 ?_
        refine Ev.iload_n (k := 1) (pc' := 35) dX11_chip_34 rfl rfl rfl ?_
        refine Ev.dup2 (pc' := 36) dX11_chip_35 rfl rfl rfl ?_
        refine Ev.iaload (j := _) (pc' := 37) dX11_chip_36 rfl ar_57 h.1 rfl ?_
        have h := h.2
        refine Ev.iload_n (k := 2) (pc' := 38) dX11_chip_37 rfl rfl rfl ?_
        refine Ev.isub (pc' := 39) dX11_chip_38 rfl ?_
        refine Ev.iastore (j := _) (pc' := 40) dX11_chip_39 rfl ar_57 h.1 rfl (fun I4 eI4 => ?_)
        have h := h.2 I4 eI4
        refine Ev.aload_n (k := 0) (pc' := 41) dX11_chip_40 rfl rfl rfl ?_
        refine Ev.getR (pc' := 44) dX11_chip_41 rfl fa_RX11_38 ob_0 fk_11_4 rf_0_4 ?_
        refine Ev.getR (pc' := 47) dX11_chip_44 rfl fa_RX11_144 ob_53 fk_2_6 rf_53_6 ?_
        refine Ev.iload_n (k := 1) (pc' := 48) dX11_chip_47 rfl rfl rfl ?_
        refine Ev.iaload (j := _) (pc' := 49) dX11_chip_48 rfl ar_57 h.1 rfl ?_
        have h := h.2
        exact Ef.iret dX11_chip_49 rfl h
      · have h := h.2 hc
        refine Ev.iconst (pc' := 26) dX11_chip_25 rfl ki_m1 ?_
        exact Ef.iret dX11_chip_26 rfl h
def wpX11_asks (a1 : Int32) (a2 : Int32) (I : Ix) (L : Lx) (Q : Int32 → Ix → Lx → Prop) : Prop := wpX11_isPerson a1 I L (fun r3 I1 L2 => (r3 = false → Q (-1000000) I1 L2) ∧ (r3 = true → wpX11_isThing a2 I1 L2 (fun r6 I4 L5 => (r6 = true → wpX0_remember 53 I4 L5 (fun I7 L8 => wpX0_ask 53 a1 a2 I7 L8 (fun r11 I9 L10 => Q r11 I9 L10))) ∧ (r6 = false → Q (-1000000) I4 L5))))
set_option maxRecDepth 10000 in
theorem okX11_asks {G : Gx} {a1 : Int32} {a2 : Int32} {I : Ix} {L : Lx} {Q : Int32 → Ix → Lx → Prop} (h : wpX11_asks a1 a2 I L Q) : Mf G MX11_asks [.ref 0, .int a1, .int a2] I L (qI Q) := by
  unfold wpX11_asks at h
  refine Mf.of pn_RX11 (Nat.le_of_ble_eq_true rfl) ?_
  refine Ev.aload_n (k := 0) (pc' := 1) dX11_asks_0 rfl rfl rfl ?_
  refine Ev.iload_n (k := 1) (pc' := 2) dX11_asks_1 rfl rfl rfl ?_
  refine Ef.callVZ [.int _] [] (pc' := 5) dX11_asks_2 rfl cv_RX11_147_X11_isPerson ⟨Nat.le_of_ble_eq_true rfl, Nat.le_of_ble_eq_true rfl⟩ ob_0 rfl rfl rfl (Nat.le_of_ble_eq_true rfl) (okX11_isPerson h) (fun r3 I1 L2 h => ?_)
  refine Ef.ifz_eq (pc' := 8) (tgt := 16) dX11_asks_5 rfl rfl (fun hc => ?_) (fun hc => ?_)
  · have h := h.1 hc
    refine Ev.ldc (pc' := 18) dX11_asks_16 rfl lc_RX11_184 ?_
    exact Ef.iret dX11_asks_18 rfl h
  · have h := h.2 hc
    refine Ev.aload_n (k := 0) (pc' := 9) dX11_asks_8 rfl rfl rfl ?_
    refine Ev.iload_n (k := 2) (pc' := 10) dX11_asks_9 rfl rfl rfl ?_
    refine Ef.callVZ [.int _] [] (pc' := 13) dX11_asks_10 rfl cv_RX11_124_X11_isThing ⟨Nat.le_of_ble_eq_true rfl, Nat.le_of_ble_eq_true rfl⟩ ob_0 rfl rfl rfl (Nat.le_of_ble_eq_true rfl) (okX11_isThing h) (fun r6 I4 L5 h => ?_)
    refine Ef.ifz_ne (pc' := 16) (tgt := 19) dX11_asks_13 rfl rfl (fun hc => ?_) (fun hc => ?_)
    · have h := h.1 hc
      refine Ev.aload_n (k := 0) (pc' := 20) dX11_asks_19 rfl rfl rfl ?_
      refine Ev.getR (pc' := 23) dX11_asks_20 rfl fa_RX11_47 ob_0 fk_11_5 rf_0_5 ?_
      refine Ev.aload_n (k := 0) (pc' := 24) dX11_asks_23 rfl rfl rfl ?_
      refine Ev.getR (pc' := 27) dX11_asks_24 rfl fa_RX11_38 ob_0 fk_11_4 rf_0_4 ?_
      refine Ef.callVV [.ref _] [] (pc' := 30) dX11_asks_27 rfl cv_RX11_160_X0_remember ⟨Nat.le_of_ble_eq_true rfl, Nat.le_of_ble_eq_true rfl⟩ ob_62 rfl rfl rfl (Nat.le_of_ble_eq_true rfl) (okX0_remember nowAt_53 h) (fun I7 L8 h => ?_)
      refine Ev.aload_n (k := 0) (pc' := 31) dX11_asks_30 rfl rfl rfl ?_
      refine Ev.getR (pc' := 34) dX11_asks_31 rfl fa_RX11_47 ob_0 fk_11_5 rf_0_5 ?_
      refine Ev.aload_n (k := 0) (pc' := 35) dX11_asks_34 rfl rfl rfl ?_
      refine Ev.getR (pc' := 38) dX11_asks_35 rfl fa_RX11_38 ob_0 fk_11_4 rf_0_4 ?_
      refine Ev.iload_n (k := 1) (pc' := 39) dX11_asks_38 rfl rfl rfl ?_
      refine Ev.iload_n (k := 2) (pc' := 40) dX11_asks_39 rfl rfl rfl ?_
      refine Ef.callVI [.ref _, .int _, .int _] [] (pc' := 43) dX11_asks_40 rfl cv_RX11_185_X0_ask ⟨Nat.le_of_ble_eq_true rfl, Nat.le_of_ble_eq_true rfl⟩ ob_62 rfl rfl rfl (Nat.le_of_ble_eq_true rfl) (okX0_ask nowAt_53 h) (fun r11 I9 L10 h => ?_)
      exact Ef.iret dX11_asks_43 rfl h
    · have h := h.2 hc
      refine Ev.ldc (pc' := 18) dX11_asks_16 rfl lc_RX11_184 ?_
      exact Ef.iret dX11_asks_18 rfl h
def wpX9_isDrawn (a1 : Int32) (I : Ix) (L : Lx) (Q : Bool → Ix → Lx → Prop) : Prop := (¬ (I 3 4) = 2 → Q false I L) ∧ ((I 3 4) = 2 → vp_in a1 10 ∧ ((I 68 a1.toNatClampNeg) = 0 → Q false I L) ∧ (¬ (I 68 a1.toNatClampNeg) = 0 → Q true I L))
set_option maxRecDepth 10000 in
theorem okX9_isDrawn {G : Gx} {a1 : Int32} {I : Ix} {L : Lx} {Q : Bool → Ix → Lx → Prop} (h : wpX9_isDrawn a1 I L Q) : Mf G MX9_isDrawn [.ref 69, .int a1] I L (qZ Q) := by
  unfold wpX9_isDrawn at h
  refine Mf.of pn_RX9 (Nat.le_of_ble_eq_true rfl) ?_
  refine Ev.aload_n (k := 0) (pc' := 1) dX9_isDrawn_0 rfl rfl rfl ?_
  refine Ev.getR (pc' := 4) dX9_isDrawn_1 rfl fa_RX9_22 ob_69 fk_9_0 rf_69_0 ?_
  refine Ev.getI (pc' := 7) dX9_isDrawn_4 rfl fa_RX9_55 ob_3 fk_10_4 ?_
  refine Ev.iconst (pc' := 8) dX9_isDrawn_7 rfl ki_2 ?_
  refine Ev.icmp_ne (pc' := 11) (tgt := 27) dX9_isDrawn_8 rfl rfl (fun hc => ?_) (fun hc => ?_)
  · have h := h.1 hc
    refine Ev.iconst (pc' := 28) dX9_isDrawn_27 rfl ki_0 ?_
    exact Ef.zret (b := false) dX9_isDrawn_28 rfl h
  · have h := h.2 hc
    refine Ev.aload_n (k := 0) (pc' := 12) dX9_isDrawn_11 rfl rfl rfl ?_
    refine Ev.getR (pc' := 15) dX9_isDrawn_12 rfl fa_RX9_26 ob_69 fk_9_1 rf_69_1 ?_
    refine Ev.getR (pc' := 18) dX9_isDrawn_15 rfl fa_RX9_90 ob_62 fk_0_6 rf_62_6 ?_
    refine Ev.iload_n (k := 1) (pc' := 19) dX9_isDrawn_18 rfl rfl rfl ?_
    refine Ev.iaload (j := _) (pc' := 20) dX9_isDrawn_19 rfl ar_68 h.1 rfl ?_
    have h := h.2
    refine Ev.if_eq (pc' := 23) (tgt := 27) dX9_isDrawn_20 rfl rfl (fun hc => ?_) (fun hc => ?_)
    · have h := h.1 hc
      refine Ev.iconst (pc' := 28) dX9_isDrawn_27 rfl ki_0 ?_
      exact Ef.zret (b := false) dX9_isDrawn_28 rfl h
    · have h := h.2 hc
      refine Ev.iconst (pc' := 24) dX9_isDrawn_23 rfl ki_1 ?_
      refine Ev.goto (tgt := 28) dX9_isDrawn_24 rfl ?_
      exact Ef.zret (b := true) dX9_isDrawn_28 rfl h
def wpX9_lotsFor (a1 : Int32) (I : Ix) (L : Lx) (Q : Int32 → Ix → Lx → Prop) : Prop := wpX9_isDrawn a1 I L (fun r3 I1 L2 => (r3 = false → Q 1 I1 L2) ∧ (r3 = true → vp_in a1 10 ∧ wpJ6_bitCount_0f7a4 (I1 68 a1.toNatClampNeg) I1 L2 (fun r6 I4 L5 => Q r6 I4 L5)))
set_option maxRecDepth 10000 in
theorem okX9_lotsFor {G : Gx} {a1 : Int32} {I : Ix} {L : Lx} {Q : Int32 → Ix → Lx → Prop} (h : wpX9_lotsFor a1 I L Q) : Mf G MX9_lotsFor [.ref 69, .int a1] I L (qI Q) := by
  unfold wpX9_lotsFor at h
  refine Mf.of pn_RX9 (Nat.le_of_ble_eq_true rfl) ?_
  refine Ev.aload_n (k := 0) (pc' := 1) dX9_lotsFor_0 rfl rfl rfl ?_
  refine Ev.iload_n (k := 1) (pc' := 2) dX9_lotsFor_1 rfl rfl rfl ?_
  refine Ef.callVZ [.int _] [] (pc' := 5) dX9_lotsFor_2 rfl cv_RX9_93_X9_isDrawn ⟨Nat.le_of_ble_eq_true rfl, Nat.le_of_ble_eq_true rfl⟩ ob_69 rfl rfl rfl (Nat.le_of_ble_eq_true rfl) (okX9_isDrawn h) (fun r3 I1 L2 h => ?_)
  refine Ef.ifz_eq (pc' := 8) (tgt := 23) dX9_lotsFor_5 rfl rfl (fun hc => ?_) (fun hc => ?_)
  · have h := h.1 hc
    refine Ev.iconst (pc' := 24) dX9_lotsFor_23 rfl ki_1 ?_
    exact Ef.iret dX9_lotsFor_24 rfl h
  · have h := h.2 hc
    refine Ev.aload_n (k := 0) (pc' := 9) dX9_lotsFor_8 rfl rfl rfl ?_
    refine Ev.getR (pc' := 12) dX9_lotsFor_9 rfl fa_RX9_26 ob_69 fk_9_1 rf_69_1 ?_
    refine Ev.getR (pc' := 15) dX9_lotsFor_12 rfl fa_RX9_90 ob_62 fk_0_6 rf_62_6 ?_
    refine Ev.iload_n (k := 1) (pc' := 16) dX9_lotsFor_15 rfl rfl rfl ?_
    refine Ev.iaload (j := _) (pc' := 17) dX9_lotsFor_16 rfl ar_68 h.1 rfl ?_
    have h := h.2
    refine Ef.callSI [.int _] [] (pc' := 20) dX9_lotsFor_17 rfl cv_RX9_97_J6_bitCount_0f7a4 ⟨Nat.le_of_ble_eq_true rfl, Nat.le_of_ble_eq_true rfl⟩ rfl rfl (Nat.le_of_ble_eq_true rfl) (okJ6_bitCount_0f7a4 h) (fun r6 I4 L5 h => ?_)
    refine Ev.goto (tgt := 24) dX9_lotsFor_20 rfl ?_
    exact Ef.iret dX9_lotsFor_24 rfl h
def wpX9_commonDivisor_l7 (Q : Int32 → Ix → Lx → Prop) (P7 : Int32 → Int32 → Int32 → Ix → Lx → Prop) (v2 : Int32) (v3 : Int32) (v4 : Int32) (I : Ix) (L : Lx) : Prop := (64 ≤ v4 → Q v2 I L) ∧ (¬ 64 ≤ v4 → (v3 = 0 → Q v2 I L) ∧ (¬ v3 = 0 → ¬ v3 = 0 ∧ P7 v3 (jrem v2 v3) (v4 + 1) I L))
def wpX9_commonDivisor_h7 (Q : Int32 → Ix → Lx → Prop) (v2 : Int32) (v3 : Int32) (v4 : Int32) (I : Ix) (L : Lx) : Prop := Lfp (X := Int32 × Int32 × Int32 × Ix × Lx) (fun P z => wpX9_commonDivisor_l7 Q (fun v2 v3 v4 I L => P (v2, v3, v4, I, L)) z.1 z.2.1 z.2.2.1 z.2.2.2.1 z.2.2.2.2) (v2, v3, v4, I, L)
theorem wpX9_commonDivisor_h7_fold {Q : Int32 → Ix → Lx → Prop} {v2 : Int32} {v3 : Int32} {v4 : Int32} {I : Ix} {L : Lx} (h : wpX9_commonDivisor_l7 Q (wpX9_commonDivisor_h7 Q) v2 v3 v4 I L) : wpX9_commonDivisor_h7 Q v2 v3 v4 I L := Lfp.fold h
def wpX9_commonDivisor (a0 : Int32) (a1 : Int32) (I : Ix) (L : Lx) (Q : Int32 → Ix → Lx → Prop) : Prop := wpX9_commonDivisor_h7 Q a0 a1 0 I L
set_option maxRecDepth 10000 in
theorem okX9_commonDivisor_l7 {G : Gx} {Q : Int32 → Ix → Lx → Prop} {P7 : Int32 → Int32 → Int32 → Ix → Lx → Prop} (hP7 : ∀ (v2 : Int32) (v3 : Int32) (v4 : Int32) (I : Ix) (L : Lx), P7 v2 v3 v4 I L → Ef G MX9_commonDivisor (qI Q) 7 [(2, .int v2), (3, .int v3), (4, .int v4)] [] I L) {v2 : Int32} {v3 : Int32} {v4 : Int32} {I : Ix} {L : Lx} (h : wpX9_commonDivisor_l7 Q P7 v2 v3 v4 I L) : Ef G MX9_commonDivisor (qI Q) 7 [(2, .int v2), (3, .int v3), (4, .int v4)] [] I L := by
  unfold wpX9_commonDivisor_l7 at h
  refine Ev.iload (k := 2) (pc' := 9) dX9_commonDivisor_7 rfl rfl ?_
  refine Ev.bipush (pc' := 11) dX9_commonDivisor_9 rfl kb_64 ?_
  refine Ev.icmp_ge (pc' := 14) (tgt := 34) dX9_commonDivisor_11 rfl rfl (fun hc => ?_) (fun hc => ?_)
  · have h := h.1 hc
    refine Ev.iload_n (k := 0) (pc' := 35) dX9_commonDivisor_34 rfl rfl rfl ?_
    exact Ef.iret dX9_commonDivisor_35 rfl h
  · have h := h.2 hc
    refine Ev.iload_n (k := 1) (pc' := 15) dX9_commonDivisor_14 rfl rfl rfl ?_
    refine Ev.if_eq (pc' := 18) (tgt := 34) dX9_commonDivisor_15 rfl rfl (fun hc => ?_) (fun hc => ?_)
    · have h := h.1 hc
      refine Ev.iload_n (k := 0) (pc' := 35) dX9_commonDivisor_34 rfl rfl rfl ?_
      exact Ef.iret dX9_commonDivisor_35 rfl h
    · have h := h.2 hc
      refine Ev.iload_n (k := 0) (pc' := 19) dX9_commonDivisor_18 rfl rfl rfl ?_
      refine Ev.iload_n (k := 1) (pc' := 20) dX9_commonDivisor_19 rfl rfl rfl ?_
      refine Ev.irem (pc' := 21) dX9_commonDivisor_20 rfl h.1 ?_
      have h := h.2
      refine Ev.istore (ls' := [(5, .int _), (2, .int _), (3, .int _), (4, .int _)]) (pc' := 23) dX9_commonDivisor_21 rfl (Nat.le_of_ble_eq_true rfl) rfl ?_
      refine Ev.iload_n (k := 2) (pc' := 24) dX9_commonDivisor_23 rfl rfl rfl ?_
      refine Ev.istore_n (ls' := [(2, .int _), (5, .int _), (3, .int _), (4, .int _)]) (pc' := 25) dX9_commonDivisor_24 rfl rfl (Nat.le_of_ble_eq_true rfl) rfl ?_
      refine Ev.iload (k := 1) (pc' := 27) dX9_commonDivisor_25 rfl rfl ?_
      refine Ev.istore_n (ls' := [(3, .int _), (2, .int _), (5, .int _), (4, .int _)]) (pc' := 28) dX9_commonDivisor_27 rfl rfl (Nat.le_of_ble_eq_true rfl) rfl ?_
      refine Ev.iinc (k := 3) (v := _) (ls' := [(4, .int _), (3, .int _), (2, .int _), (5, .int _)]) (pc' := 31) dX9_commonDivisor_28 rfl rfl (congrArg (_ + ·) ki_1) (Nat.le_of_ble_eq_true rfl) rfl ?_
      refine Ev.goto (tgt := 7) dX9_commonDivisor_31 rfl ?_
      exact Ev.sub [2, 1, 0] rfl (hP7 _ _ _ _ _ h)
set_option maxRecDepth 10000 in
theorem okX9_commonDivisor_h7 {G : Gx} {Q : Int32 → Ix → Lx → Prop} {v2 : Int32} {v3 : Int32} {v4 : Int32} {I : Ix} {L : Lx} (h : wpX9_commonDivisor_h7 Q v2 v3 v4 I L) : Ef G MX9_commonDivisor (qI Q) 7 [(2, .int v2), (3, .int v3), (4, .int v4)] [] I L := by
  unfold wpX9_commonDivisor_h7 at h
  refine Lfp.ind (P := fun z => Ef G MX9_commonDivisor (qI Q) 7 [(2, .int z.1), (3, .int z.2.1), (4, .int z.2.2.1)] [] z.2.2.2.1 z.2.2.2.2) ?_ h
  intro z P' hP' h
  obtain ⟨v2, v3, v4, I, L⟩ := z
  exact okX9_commonDivisor_l7 (fun v2 v3 v4 I L h9 => hP' (v2, v3, v4, I, L) h9) h
set_option maxRecDepth 10000 in
theorem okX9_commonDivisor {G : Gx} {a0 : Int32} {a1 : Int32} {I : Ix} {L : Lx} {Q : Int32 → Ix → Lx → Prop} (h : wpX9_commonDivisor a0 a1 I L Q) : Mf G MX9_commonDivisor [.int a0, .int a1] I L (qI Q) := by
  unfold wpX9_commonDivisor at h
  refine Mf.of pn_RX9 (Nat.le_of_ble_eq_true rfl) ?_
  refine Ev.iload_n (k := 0) (pc' := 1) dX9_commonDivisor_0 rfl rfl rfl ?_
  refine Ev.istore_n (ls' := [(2, .int _), (0, .int _), (1, .int _)]) (pc' := 2) dX9_commonDivisor_1 rfl rfl (Nat.le_of_ble_eq_true rfl) rfl ?_
  refine Ev.iload_n (k := 2) (pc' := 3) dX9_commonDivisor_2 rfl rfl rfl ?_
  refine Ev.istore_n (ls' := [(3, .int _), (2, .int _), (0, .int _), (1, .int _)]) (pc' := 4) dX9_commonDivisor_3 rfl rfl (Nat.le_of_ble_eq_true rfl) rfl ?_
  refine Ev.iconst (pc' := 5) dX9_commonDivisor_4 rfl ki_0 ?_
  refine Ev.istore (ls' := [(4, .int _), (3, .int _), (2, .int _), (0, .int _), (1, .int _)]) (pc' := 7) dX9_commonDivisor_5 rfl (Nat.le_of_ble_eq_true rfl) rfl ?_
  exact Ev.sub [2, 1, 0] rfl (okX9_commonDivisor_h7 h)
def wpX2_copyFrom_l86 (o0 : Nat) (o1 : Nat) (Q : Ix → Lx → Prop) (P86 : Int32 → Ix → Lx → Prop) (v2 : Int32) (I : Ix) (L : Lx) : Prop := (10 ≤ v2 → ∀ I1 : Ix, I1 = va_up I (o0 + 6) (va_cpy (I (o1 + 6)) (I (o0 + 6)) 0 0 6) → ∀ I2 : Ix, I2 = va_up I1 (o0 + 7) (va_cpy (I1 (o1 + 7)) (I1 (o0 + 7)) 0 0 6) → ∀ I3 : Ix, I3 = va_up I2 (o0 + 8) (va_cpy (I2 (o1 + 8)) (I2 (o0 + 8)) 0 0 600) → Q I3 L) ∧ (¬ 10 ≤ v2 → vp_in v2 10 ∧ vp_in v2 10 ∧ ∀ I4 : Ix, I4 = pu I (o0 + 5) v2.toNatClampNeg ((I (o1 + 5) v2.toNatClampNeg) &&& 1) → P86 (v2 + 1) I4 L)
def wpX2_copyFrom_h86 (o0 : Nat) (o1 : Nat) (Q : Ix → Lx → Prop) (v2 : Int32) (I : Ix) (L : Lx) : Prop := Lfp (X := Int32 × Ix × Lx) (fun P z => wpX2_copyFrom_l86 o0 o1 Q (fun v2 I L => P (v2, I, L)) z.1 z.2.1 z.2.2) (v2, I, L)
theorem wpX2_copyFrom_h86_fold {o0 : Nat} {o1 : Nat} {Q : Ix → Lx → Prop} {v2 : Int32} {I : Ix} {L : Lx} (h : wpX2_copyFrom_l86 o0 o1 Q (wpX2_copyFrom_h86 o0 o1 Q) v2 I L) : wpX2_copyFrom_h86 o0 o1 Q v2 I L := Lfp.fold h
def wpX2_copyFrom (o0 : Nat) (o1 : Nat) (I : Ix) (L : Lx) (Q : Ix → Lx → Prop) : Prop := ∀ I1 : Ix, I1 = pu I o0 0 (I o1 0) → ∀ I2 : Ix, I2 = pu I1 o0 1 (I1 o1 1) → ∀ I3 : Ix, I3 = pu I2 o0 2 (I2 o1 2) → ∀ I4 : Ix, I4 = va_up I3 (o0 + 1) (va_cpy (I3 (o1 + 1)) (I3 (o0 + 1)) 0 0 10) → ∀ I5 : Ix, I5 = va_up I4 (o0 + 2) (va_cpy (I4 (o1 + 2)) (I4 (o0 + 2)) 0 0 10) → ∀ I6 : Ix, I6 = va_up I5 (o0 + 3) (va_cpy (I5 (o1 + 3)) (I5 (o0 + 3)) 0 0 10) → ∀ I7 : Ix, I7 = va_up I6 (o0 + 4) (va_cpy (I6 (o1 + 4)) (I6 (o0 + 4)) 0 0 10) → wpX2_copyFrom_h86 o0 o1 Q 0 I7 L
set_option maxRecDepth 10000 in
theorem okX2_copyFrom_l86 {G : Gx} {o0 : Nat} {o1 : Nat} (ho0 : NowAt o0) (ho1 : NowAt o1) {Q : Ix → Lx → Prop} {P86 : Int32 → Ix → Lx → Prop} (hP86 : ∀ (v2 : Int32) (I : Ix) (L : Lx), P86 v2 I L → Ef G MX2_copyFrom (qV Q) 86 [(0, .ref o0), (1, .ref o1), (2, .int v2)] [] I L) {v2 : Int32} {I : Ix} {L : Lx} (h : wpX2_copyFrom_l86 o0 o1 Q P86 v2 I L) : Ef G MX2_copyFrom (qV Q) 86 [(0, .ref o0), (1, .ref o1), (2, .int v2)] [] I L := by
  unfold wpX2_copyFrom_l86 at h
  refine Ev.iload_n (k := 2) (pc' := 87) dX2_copyFrom_86 rfl rfl rfl ?_
  refine Ev.bipush (pc' := 89) dX2_copyFrom_87 rfl kb_10 ?_
  refine Ev.icmp_ge (pc' := 92) (tgt := 110) dX2_copyFrom_89 rfl rfl (fun hc => ?_) (fun hc => ?_)
  · have h := h.1 hc
    refine Ev.aload_n (k := 1) (pc' := 111) dX2_copyFrom_110 rfl rfl rfl ?_
    refine Ev.getR (pc' := 114) dX2_copyFrom_111 rfl fa_RX2_32 (nowOB ho1) fk_2_8 (nowR6 ho1) ?_
    refine Ev.iconst (pc' := 115) dX2_copyFrom_114 rfl ki_0 ?_
    refine Ev.aload_n (k := 0) (pc' := 116) dX2_copyFrom_115 rfl rfl rfl ?_
    refine Ev.getR (pc' := 119) dX2_copyFrom_116 rfl fa_RX2_32 (nowOB ho0) fk_2_8 (nowR6 ho0) ?_
    refine Ev.iconst (pc' := 120) dX2_copyFrom_119 rfl ki_0 ?_
    refine Ev.bipush (pc' := 122) dX2_copyFrom_120 rfl kb_6 ?_
    refine Ev.copyI (pc' := 125) dX2_copyFrom_122 rfl ac_RX2_53 ac_native ac_static ac_init (nowA6 ho1) (nowA6 ho0) rfl (by decide) (by decide) (by decide) (by decide) (by decide) (Nat.le_of_ble_eq_true rfl) (Nat.le_of_ble_eq_true rfl) (fun I1 eI1 => ?_)
    have h := h I1 eI1
    refine Ev.aload_n (k := 1) (pc' := 126) dX2_copyFrom_125 rfl rfl rfl ?_
    refine Ev.getR (pc' := 129) dX2_copyFrom_126 rfl fa_RX2_35 (nowOB ho1) fk_2_9 (nowR7 ho1) ?_
    refine Ev.iconst (pc' := 130) dX2_copyFrom_129 rfl ki_0 ?_
    refine Ev.aload_n (k := 0) (pc' := 131) dX2_copyFrom_130 rfl rfl rfl ?_
    refine Ev.getR (pc' := 134) dX2_copyFrom_131 rfl fa_RX2_35 (nowOB ho0) fk_2_9 (nowR7 ho0) ?_
    refine Ev.iconst (pc' := 135) dX2_copyFrom_134 rfl ki_0 ?_
    refine Ev.bipush (pc' := 137) dX2_copyFrom_135 rfl kb_6 ?_
    refine Ev.copyI (pc' := 140) dX2_copyFrom_137 rfl ac_RX2_53 ac_native ac_static ac_init (nowA7 ho1) (nowA7 ho0) rfl (by decide) (by decide) (by decide) (by decide) (by decide) (Nat.le_of_ble_eq_true rfl) (Nat.le_of_ble_eq_true rfl) (fun I2 eI2 => ?_)
    have h := h I2 eI2
    refine Ev.aload_n (k := 1) (pc' := 141) dX2_copyFrom_140 rfl rfl rfl ?_
    refine Ev.getR (pc' := 144) dX2_copyFrom_141 rfl fa_RX2_38 (nowOB ho1) fk_2_10 (nowR8 ho1) ?_
    refine Ev.iconst (pc' := 145) dX2_copyFrom_144 rfl ki_0 ?_
    refine Ev.aload_n (k := 0) (pc' := 146) dX2_copyFrom_145 rfl rfl rfl ?_
    refine Ev.getR (pc' := 149) dX2_copyFrom_146 rfl fa_RX2_38 (nowOB ho0) fk_2_10 (nowR8 ho0) ?_
    refine Ev.iconst (pc' := 150) dX2_copyFrom_149 rfl ki_0 ?_
    refine Ev.sipush (pc' := 153) dX2_copyFrom_150 rfl ks_600 ?_
    refine Ev.copyI (pc' := 156) dX2_copyFrom_153 rfl ac_RX2_53 ac_native ac_static ac_init (nowA8 ho1) (nowA8 ho0) rfl (by decide) (by decide) (by decide) (by decide) (by decide) (Nat.le_of_ble_eq_true rfl) (Nat.le_of_ble_eq_true rfl) (fun I3 eI3 => ?_)
    have h := h I3 eI3
    exact Ef.vret dX2_copyFrom_156 rfl h
  · have h := h.2 hc
    refine Ev.aload_n (k := 0) (pc' := 93) dX2_copyFrom_92 rfl rfl rfl ?_
    refine Ev.getR (pc' := 96) dX2_copyFrom_93 rfl fa_RX2_28 (nowOB ho0) fk_2_7 (nowR5 ho0) ?_
    refine Ev.iload_n (k := 2) (pc' := 97) dX2_copyFrom_96 rfl rfl rfl ?_
    refine Ev.aload_n (k := 1) (pc' := 98) dX2_copyFrom_97 rfl rfl rfl ?_
    refine Ev.getR (pc' := 101) dX2_copyFrom_98 rfl fa_RX2_28 (nowOB ho1) fk_2_7 (nowR5 ho1) ?_
    refine Ev.iload_n (k := 2) (pc' := 102) dX2_copyFrom_101 rfl rfl rfl ?_
    refine Ev.zaload (j := _) (pc' := 103) dX2_copyFrom_102 rfl (nowA5 ho1) h.1 rfl ?_
    have h := h.2
    refine Ev.zastore (j := _) (pc' := 104) dX2_copyFrom_103 rfl (nowA5 ho0) h.1 rfl rfl (fun I4 eI4 => ?_)
    have h := h.2 I4 eI4
    refine Ev.iinc (k := 2) (v := _) (ls' := [(2, .int _), (0, .ref _), (1, .ref _)]) (pc' := 107) dX2_copyFrom_104 rfl rfl (congrArg (_ + ·) ki_1) (Nat.le_of_ble_eq_true rfl) rfl ?_
    refine Ev.goto (tgt := 86) dX2_copyFrom_107 rfl ?_
    exact Ev.sub [1, 2, 0] rfl (hP86 _ _ _ h)
set_option maxRecDepth 10000 in
theorem okX2_copyFrom_h86 {G : Gx} {o0 : Nat} {o1 : Nat} (ho0 : NowAt o0) (ho1 : NowAt o1) {Q : Ix → Lx → Prop} {v2 : Int32} {I : Ix} {L : Lx} (h : wpX2_copyFrom_h86 o0 o1 Q v2 I L) : Ef G MX2_copyFrom (qV Q) 86 [(0, .ref o0), (1, .ref o1), (2, .int v2)] [] I L := by
  unfold wpX2_copyFrom_h86 at h
  refine Lfp.ind (P := fun z => Ef G MX2_copyFrom (qV Q) 86 [(0, .ref o0), (1, .ref o1), (2, .int z.1)] [] z.2.1 z.2.2) ?_ h
  intro z P' hP' h
  obtain ⟨v2, I, L⟩ := z
  exact okX2_copyFrom_l86 ho0 ho1 (fun v2 I L h9 => hP' (v2, I, L) h9) h
set_option maxRecDepth 10000 in
theorem okX2_copyFrom {G : Gx} {o0 : Nat} {o1 : Nat} (ho0 : NowAt o0) (ho1 : NowAt o1) {I : Ix} {L : Lx} {Q : Ix → Lx → Prop} (h : wpX2_copyFrom o0 o1 I L Q) : Mf G MX2_copyFrom [.ref o0, .ref o1] I L (qV Q) := by
  unfold wpX2_copyFrom at h
  refine Mf.of pn_RX2 (Nat.le_of_ble_eq_true rfl) ?_
  refine Ev.aload_n (k := 0) (pc' := 1) dX2_copyFrom_0 rfl rfl rfl ?_
  refine Ev.aload_n (k := 1) (pc' := 2) dX2_copyFrom_1 rfl rfl rfl ?_
  refine Ev.getI (pc' := 5) dX2_copyFrom_2 rfl fa_RX2_41 (nowOB ho1) fk_2_0 ?_
  refine Ev.putI (pc' := 8) dX2_copyFrom_5 rfl fa_RX2_41 (nowOB ho0) fk_2_0 rfl rfl (fun I1 eI1 => ?_)
  have h := h I1 eI1
  refine Ev.aload_n (k := 0) (pc' := 9) dX2_copyFrom_8 rfl rfl rfl ?_
  refine Ev.aload_n (k := 1) (pc' := 10) dX2_copyFrom_9 rfl rfl rfl ?_
  refine Ev.getI (pc' := 13) dX2_copyFrom_10 rfl fa_RX2_44 (nowOB ho1) fk_2_1 ?_
  refine Ev.putI (pc' := 16) dX2_copyFrom_13 rfl fa_RX2_44 (nowOB ho0) fk_2_1 rfl rfl (fun I2 eI2 => ?_)
  have h := h I2 eI2
  refine Ev.aload_n (k := 0) (pc' := 17) dX2_copyFrom_16 rfl rfl rfl ?_
  refine Ev.aload_n (k := 1) (pc' := 18) dX2_copyFrom_17 rfl rfl rfl ?_
  refine Ev.getI (pc' := 21) dX2_copyFrom_18 rfl fa_RX2_9 (nowOB ho1) fk_2_2 ?_
  refine Ev.putI (pc' := 24) dX2_copyFrom_21 rfl fa_RX2_9 (nowOB ho0) fk_2_2 rfl rfl (fun I3 eI3 => ?_)
  have h := h I3 eI3
  refine Ev.aload_n (k := 1) (pc' := 25) dX2_copyFrom_24 rfl rfl rfl ?_
  refine Ev.getR (pc' := 28) dX2_copyFrom_25 rfl fa_RX2_15 (nowOB ho1) fk_2_3 (nowR1 ho1) ?_
  refine Ev.iconst (pc' := 29) dX2_copyFrom_28 rfl ki_0 ?_
  refine Ev.aload_n (k := 0) (pc' := 30) dX2_copyFrom_29 rfl rfl rfl ?_
  refine Ev.getR (pc' := 33) dX2_copyFrom_30 rfl fa_RX2_15 (nowOB ho0) fk_2_3 (nowR1 ho0) ?_
  refine Ev.iconst (pc' := 34) dX2_copyFrom_33 rfl ki_0 ?_
  refine Ev.bipush (pc' := 36) dX2_copyFrom_34 rfl kb_10 ?_
  refine Ev.copyI (pc' := 39) dX2_copyFrom_36 rfl ac_RX2_53 ac_native ac_static ac_init (nowA1 ho1) (nowA1 ho0) rfl (by decide) (by decide) (by decide) (by decide) (by decide) (Nat.le_of_ble_eq_true rfl) (Nat.le_of_ble_eq_true rfl) (fun I4 eI4 => ?_)
  have h := h I4 eI4
  refine Ev.aload_n (k := 1) (pc' := 40) dX2_copyFrom_39 rfl rfl rfl ?_
  refine Ev.getR (pc' := 43) dX2_copyFrom_40 rfl fa_RX2_19 (nowOB ho1) fk_2_4 (nowR2 ho1) ?_
  refine Ev.iconst (pc' := 44) dX2_copyFrom_43 rfl ki_0 ?_
  refine Ev.aload_n (k := 0) (pc' := 45) dX2_copyFrom_44 rfl rfl rfl ?_
  refine Ev.getR (pc' := 48) dX2_copyFrom_45 rfl fa_RX2_19 (nowOB ho0) fk_2_4 (nowR2 ho0) ?_
  refine Ev.iconst (pc' := 49) dX2_copyFrom_48 rfl ki_0 ?_
  refine Ev.bipush (pc' := 51) dX2_copyFrom_49 rfl kb_10 ?_
  refine Ev.copyI (pc' := 54) dX2_copyFrom_51 rfl ac_RX2_53 ac_native ac_static ac_init (nowA2 ho1) (nowA2 ho0) rfl (by decide) (by decide) (by decide) (by decide) (by decide) (Nat.le_of_ble_eq_true rfl) (Nat.le_of_ble_eq_true rfl) (fun I5 eI5 => ?_)
  have h := h I5 eI5
  refine Ev.aload_n (k := 1) (pc' := 55) dX2_copyFrom_54 rfl rfl rfl ?_
  refine Ev.getR (pc' := 58) dX2_copyFrom_55 rfl fa_RX2_22 (nowOB ho1) fk_2_5 (nowR3 ho1) ?_
  refine Ev.iconst (pc' := 59) dX2_copyFrom_58 rfl ki_0 ?_
  refine Ev.aload_n (k := 0) (pc' := 60) dX2_copyFrom_59 rfl rfl rfl ?_
  refine Ev.getR (pc' := 63) dX2_copyFrom_60 rfl fa_RX2_22 (nowOB ho0) fk_2_5 (nowR3 ho0) ?_
  refine Ev.iconst (pc' := 64) dX2_copyFrom_63 rfl ki_0 ?_
  refine Ev.bipush (pc' := 66) dX2_copyFrom_64 rfl kb_10 ?_
  refine Ev.copyI (pc' := 69) dX2_copyFrom_66 rfl ac_RX2_53 ac_native ac_static ac_init (nowA3 ho1) (nowA3 ho0) rfl (by decide) (by decide) (by decide) (by decide) (by decide) (Nat.le_of_ble_eq_true rfl) (Nat.le_of_ble_eq_true rfl) (fun I6 eI6 => ?_)
  have h := h I6 eI6
  refine Ev.aload_n (k := 1) (pc' := 70) dX2_copyFrom_69 rfl rfl rfl ?_
  refine Ev.getR (pc' := 73) dX2_copyFrom_70 rfl fa_RX2_25 (nowOB ho1) fk_2_6 (nowR4 ho1) ?_
  refine Ev.iconst (pc' := 74) dX2_copyFrom_73 rfl ki_0 ?_
  refine Ev.aload_n (k := 0) (pc' := 75) dX2_copyFrom_74 rfl rfl rfl ?_
  refine Ev.getR (pc' := 78) dX2_copyFrom_75 rfl fa_RX2_25 (nowOB ho0) fk_2_6 (nowR4 ho0) ?_
  refine Ev.iconst (pc' := 79) dX2_copyFrom_78 rfl ki_0 ?_
  refine Ev.bipush (pc' := 81) dX2_copyFrom_79 rfl kb_10 ?_
  refine Ev.copyI (pc' := 84) dX2_copyFrom_81 rfl ac_RX2_53 ac_native ac_static ac_init (nowA4 ho1) (nowA4 ho0) rfl (by decide) (by decide) (by decide) (by decide) (by decide) (Nat.le_of_ble_eq_true rfl) (Nat.le_of_ble_eq_true rfl) (fun I7 eI7 => ?_)
  have h := h I7 eI7
  refine Ev.iconst (pc' := 85) dX2_copyFrom_84 rfl ki_0 ?_
  refine Ev.istore_n (ls' := [(2, .int _), (0, .ref _), (1, .ref _)]) (pc' := 86) dX2_copyFrom_85 rfl rfl (Nat.le_of_ble_eq_true rfl) rfl ?_
  exact Ev.sub [1, 2, 0] rfl (okX2_copyFrom_h86 ho0 ho1 h)
def wpX9_beginDay (o1 : Nat) (a2 : Int32) (a3 : Int32) (I : Ix) (L : Lx) (Q : Ix → Lx → Prop) : Prop := wpX2_copyFrom 70 o1 I L (fun I1 L2 => vp_in a2 10 ∧ vp_in a2 10 ∧ ∀ I3 : Ix, I3 = pu I1 74 a2.toNatClampNeg ((I1 74 a2.toNatClampNeg) - a3) → wpX0_use 70 I3 L2 (fun r6 I4 L5 => wpX0_mend 70 I4 L5 (fun I7 L8 => Q I7 L8)))
set_option maxRecDepth 10000 in
theorem okX9_beginDay {G : Gx} {o1 : Nat} (ho1 : NowAt o1) {a2 : Int32} {a3 : Int32} {I : Ix} {L : Lx} {Q : Ix → Lx → Prop} (h : wpX9_beginDay o1 a2 a3 I L Q) : Mf G MX9_beginDay [.ref 69, .ref o1, .int a2, .int a3] I L (qV Q) := by
  unfold wpX9_beginDay at h
  refine Mf.of pn_RX9 (Nat.le_of_ble_eq_true rfl) ?_
  refine Ev.aload_n (k := 0) (pc' := 1) dX9_beginDay_0 rfl rfl rfl ?_
  refine Ev.getR (pc' := 4) dX9_beginDay_1 rfl fa_RX9_12 ob_69 fk_9_2 rf_69_2 ?_
  refine Ev.aload_n (k := 1) (pc' := 5) dX9_beginDay_4 rfl rfl rfl ?_
  refine Ef.callVV [.ref _] [] (pc' := 8) dX9_beginDay_5 rfl cv_RX9_30_X2_copyFrom ⟨Nat.le_of_ble_eq_true rfl, Nat.le_of_ble_eq_true rfl⟩ ob_70 rfl rfl rfl (Nat.le_of_ble_eq_true rfl) (okX2_copyFrom nowAt_70 ho1 h) (fun I1 L2 h => ?_)
  refine Ev.aload_n (k := 0) (pc' := 9) dX9_beginDay_8 rfl rfl rfl ?_
  refine Ev.getR (pc' := 12) dX9_beginDay_9 rfl fa_RX9_12 ob_69 fk_9_2 rf_69_2 ?_
  refine Ev.getR (pc' := 15) dX9_beginDay_12 rfl fa_RX9_86 ob_70 fk_2_6 rf_70_6 ?_
  refine Ev.iload_n (k := 2) (pc' := 16) dX9_beginDay_15 rfl rfl rfl ?_
  refine Ev.dup2 (pc' := 17) dX9_beginDay_16 rfl rfl rfl ?_
  refine Ev.iaload (j := _) (pc' := 18) dX9_beginDay_17 rfl ar_74 h.1 rfl ?_
  have h := h.2
  refine Ev.iload_n (k := 3) (pc' := 19) dX9_beginDay_18 rfl rfl rfl ?_
  refine Ev.isub (pc' := 20) dX9_beginDay_19 rfl ?_
  refine Ev.iastore (j := _) (pc' := 21) dX9_beginDay_20 rfl ar_74 h.1 rfl (fun I3 eI3 => ?_)
  have h := h.2 I3 eI3
  refine Ev.aload_n (k := 0) (pc' := 22) dX9_beginDay_21 rfl rfl rfl ?_
  refine Ev.getR (pc' := 25) dX9_beginDay_22 rfl fa_RX9_26 ob_69 fk_9_1 rf_69_1 ?_
  refine Ev.aload_n (k := 0) (pc' := 26) dX9_beginDay_25 rfl rfl rfl ?_
  refine Ev.getR (pc' := 29) dX9_beginDay_26 rfl fa_RX9_12 ob_69 fk_9_2 rf_69_2 ?_
  refine Ef.callVI [.ref _] [] (pc' := 32) dX9_beginDay_29 rfl cv_RX9_40_X0_use ⟨Nat.le_of_ble_eq_true rfl, Nat.le_of_ble_eq_true rfl⟩ ob_62 rfl rfl rfl (Nat.le_of_ble_eq_true rfl) (okX0_use nowAt_70 h) (fun r6 I4 L5 h => ?_)
  refine Ev.pop (pc' := 33) dX9_beginDay_32 rfl rfl ?_
  refine Ev.aload_n (k := 0) (pc' := 34) dX9_beginDay_33 rfl rfl rfl ?_
  refine Ev.getR (pc' := 37) dX9_beginDay_34 rfl fa_RX9_26 ob_69 fk_9_1 rf_69_1 ?_
  refine Ev.aload_n (k := 0) (pc' := 38) dX9_beginDay_37 rfl rfl rfl ?_
  refine Ev.getR (pc' := 41) dX9_beginDay_38 rfl fa_RX9_12 ob_69 fk_9_2 rf_69_2 ?_
  refine Ef.callVV [.ref _] [] (pc' := 44) dX9_beginDay_41 rfl cv_RX9_44_X0_mend ⟨Nat.le_of_ble_eq_true rfl, Nat.le_of_ble_eq_true rfl⟩ ob_62 rfl rfl rfl (Nat.le_of_ble_eq_true rfl) (okX0_mend nowAt_70 h) (fun I7 L8 h => ?_)
  exact Ef.vret dX9_beginDay_44 rfl h
def wpX9_isHis (a1 : Int32) (a2 : Int32) (I : Ix) (L : Lx) (Q : Bool → Ix → Lx → Prop) : Prop := wpX9_isDrawn a1 I L (fun r3 I1 L2 => (r3 = false → vp_in a1 10 ∧ (¬ (I1 71 a1.toNatClampNeg) = a2 → Q false I1 L2) ∧ ((I1 71 a1.toNatClampNeg) = a2 → Q true I1 L2)) ∧ (r3 = true → (a2 = (-1) → Q false I1 L2) ∧ (¬ a2 = (-1) → vp_in a1 10 ∧ (¬ ((jush (I1 68 a1.toNatClampNeg) a2) &&& 1) = 1 → Q false I1 L2) ∧ (((jush (I1 68 a1.toNatClampNeg) a2) &&& 1) = 1 → Q true I1 L2))))
set_option maxRecDepth 10000 in
theorem okX9_isHis {G : Gx} {a1 : Int32} {a2 : Int32} {I : Ix} {L : Lx} {Q : Bool → Ix → Lx → Prop} (h : wpX9_isHis a1 a2 I L Q) : Mf G MX9_isHis [.ref 69, .int a1, .int a2] I L (qZ Q) := by
  unfold wpX9_isHis at h
  refine Mf.of pn_RX9 (Nat.le_of_ble_eq_true rfl) ?_
  refine Ev.aload_n (k := 0) (pc' := 1) dX9_isHis_0 rfl rfl rfl ?_
  refine Ev.iload_n (k := 1) (pc' := 2) dX9_isHis_1 rfl rfl rfl ?_
  refine Ef.callVZ [.int _] [] (pc' := 5) dX9_isHis_2 rfl cv_RX9_93_X9_isDrawn ⟨Nat.le_of_ble_eq_true rfl, Nat.le_of_ble_eq_true rfl⟩ ob_69 rfl rfl rfl (Nat.le_of_ble_eq_true rfl) (okX9_isDrawn h) (fun r3 I1 L2 h => ?_)
  refine Ef.ifz_eq (pc' := 8) (tgt := 36) dX9_isHis_5 rfl rfl (fun hc => ?_) (fun hc => ?_)
  · have h := h.1 hc
    refine Ev.aload_n (k := 0) (pc' := 37) dX9_isHis_36 rfl rfl rfl ?_
    refine Ev.getR (pc' := 40) dX9_isHis_37 rfl fa_RX9_12 ob_69 fk_9_2 rf_69_2 ?_
    refine Ev.getR (pc' := 43) dX9_isHis_40 rfl fa_RX9_102 ob_70 fk_2_3 rf_70_3 ?_
    refine Ev.iload_n (k := 1) (pc' := 44) dX9_isHis_43 rfl rfl rfl ?_
    refine Ev.iaload (j := _) (pc' := 45) dX9_isHis_44 rfl ar_71 h.1 rfl ?_
    have h := h.2
    refine Ev.iload_n (k := 2) (pc' := 46) dX9_isHis_45 rfl rfl rfl ?_
    refine Ev.icmp_ne (pc' := 49) (tgt := 53) dX9_isHis_46 rfl rfl (fun hc => ?_) (fun hc => ?_)
    · have h := h.1 hc
      refine Ev.iconst (pc' := 54) dX9_isHis_53 rfl ki_0 ?_
      exact Ef.zret (b := false) dX9_isHis_54 rfl h
    · have h := h.2 hc
      refine Ev.iconst (pc' := 50) dX9_isHis_49 rfl ki_1 ?_
      refine Ev.goto (tgt := 54) dX9_isHis_50 rfl ?_
      exact Ef.zret (b := true) dX9_isHis_54 rfl h
  · have h := h.2 hc
    refine Ev.iload_n (k := 2) (pc' := 9) dX9_isHis_8 rfl rfl rfl ?_
    refine Ev.iconst (pc' := 10) dX9_isHis_9 rfl ki_m1 ?_
    refine Ev.icmp_eq (pc' := 13) (tgt := 34) dX9_isHis_10 rfl rfl (fun hc => ?_) (fun hc => ?_)
    · have h := h.1 hc
      refine Ev.iconst (pc' := 35) dX9_isHis_34 rfl ki_0 ?_
      exact Ef.zret (b := false) dX9_isHis_35 rfl h
    · have h := h.2 hc
      refine Ev.aload_n (k := 0) (pc' := 14) dX9_isHis_13 rfl rfl rfl ?_
      refine Ev.getR (pc' := 17) dX9_isHis_14 rfl fa_RX9_26 ob_69 fk_9_1 rf_69_1 ?_
      refine Ev.getR (pc' := 20) dX9_isHis_17 rfl fa_RX9_90 ob_62 fk_0_6 rf_62_6 ?_
      refine Ev.iload_n (k := 1) (pc' := 21) dX9_isHis_20 rfl rfl rfl ?_
      refine Ev.iaload (j := _) (pc' := 22) dX9_isHis_21 rfl ar_68 h.1 rfl ?_
      have h := h.2
      refine Ev.iload_n (k := 2) (pc' := 23) dX9_isHis_22 rfl rfl rfl ?_
      refine Ev.iushr (pc' := 24) dX9_isHis_23 rfl ?_
      refine Ev.iconst (pc' := 25) dX9_isHis_24 rfl ki_1 ?_
      refine Ev.iand (pc' := 26) dX9_isHis_25 rfl ?_
      refine Ev.iconst (pc' := 27) dX9_isHis_26 rfl ki_1 ?_
      refine Ev.icmp_ne (pc' := 30) (tgt := 34) dX9_isHis_27 rfl rfl (fun hc => ?_) (fun hc => ?_)
      · have h := h.1 hc
        refine Ev.iconst (pc' := 35) dX9_isHis_34 rfl ki_0 ?_
        exact Ef.zret (b := false) dX9_isHis_35 rfl h
      · have h := h.2 hc
        refine Ev.iconst (pc' := 31) dX9_isHis_30 rfl ki_1 ?_
        refine Ev.goto (tgt := 35) dX9_isHis_31 rfl ?_
        exact Ef.zret (b := true) dX9_isHis_35 rfl h
def wpX9_weigh_b105 (o1 : Nat) (Q : Bool → Ix → Lx → Prop) (v2 : Int32) (v5 : Int32) (v6 : Int32) (t0 : Int32) (I : Ix) (L : Lx) : Prop := wpX9_lotsFor v2 I L (fun r3 I1 L2 => ∀ I4 : Ix, I4 = pu I1 69 4 ((((100 - (I1 3 5)) * v5) * r3) + (((I1 3 5) * t0) * v6)) → ∀ I5 : Ix, I5 = pu I4 69 5 ((100 * v6) * r3) → wpX9_commonDivisor (I5 69 4) (I5 69 5) I5 L2 (fun r8 I6 L7 => (r8 ≤ 1 → Q true I6 L7) ∧ (¬ r8 ≤ 1 → ¬ r8 = 0 ∧ ∀ I9 : Ix, I9 = pu I6 69 4 ((I6 69 4) / r8) → ¬ r8 = 0 ∧ ∀ I10 : Ix, I10 = pu I9 69 5 ((I9 69 5) / r8) → Q true I10 L7)))
def wpX9_weigh_b55 (o1 : Nat) (Q : Bool → Ix → Lx → Prop) (v2 : Int32) (v3 : Int32) (v4 : Int32) (t0 : Int32) (I : Ix) (L : Lx) : Prop := wpX9_lotsFor v2 I L (fun r3 I1 L2 => wpX9_beginDay o1 v2 v4 I1 L2 (fun I4 L5 => wpX0_noons 70 (I4 3 4) 1 I4 L5 (fun I6 L7 => wpX9_isHis v2 v3 I6 L7 (fun r10 I8 L9 => (r10 = false → wpX9_weigh_b105 o1 Q v2 t0 r3 0 I8 L9) ∧ (r10 = true → wpX9_weigh_b105 o1 Q v2 t0 r3 1 I8 L9)))))
def wpX9_weigh (o1 : Nat) (a2 : Int32) (a3 : Int32) (a4 : Int32) (I : Ix) (L : Lx) (Q : Bool → Ix → Lx → Prop) : Prop := wpX9_beginDay o1 a2 a4 I L (fun I1 L2 => vp_in a2 10 ∧ ((I1 75 a2.toNatClampNeg) = 0 → wpX0_noons 70 (I1 3 4) 0 I1 L2 (fun I3 L4 => wpX9_isHis a2 a3 I3 L4 (fun r7 I5 L6 => (r7 = false → wpX9_weigh_b55 o1 Q a2 a3 a4 0 I5 L6) ∧ (r7 = true → wpX9_weigh_b55 o1 Q a2 a3 a4 1 I5 L6)))) ∧ (¬ (I1 75 a2.toNatClampNeg) = 0 → Q false I1 L2))
set_option maxRecDepth 10000 in
theorem okX9_weigh_b105 {G : Gx} {o1 : Nat} (ho1 : NowAt o1) {Q : Bool → Ix → Lx → Prop} {v2 : Int32} {v5 : Int32} {v6 : Int32} {t0 : Int32} {I : Ix} {L : Lx} (h : wpX9_weigh_b105 o1 Q v2 v5 v6 t0 I L) : Ef G MX9_weigh (qZ Q) 105 [(0, .ref 69), (2, .int v2), (5, .int v5), (6, .int v6)] [.int t0] I L := by
  unfold wpX9_weigh_b105 at h
  refine Ev.istore (ls' := [(7, .int _), (0, .ref _), (2, .int _), (5, .int _), (6, .int _)]) (pc' := 107) dX9_weigh_105 rfl (Nat.le_of_ble_eq_true rfl) rfl ?_
  refine Ev.aload_n (k := 1) (pc' := 108) dX9_weigh_107 rfl rfl rfl ?_
  refine Ev.iload_n (k := 2) (pc' := 109) dX9_weigh_108 rfl rfl rfl ?_
  refine Ef.callVI [.int _] [] (pc' := 112) dX9_weigh_109 rfl cv_RX9_69_X9_lotsFor ⟨Nat.le_of_ble_eq_true rfl, Nat.le_of_ble_eq_true rfl⟩ ob_69 rfl rfl rfl (Nat.le_of_ble_eq_true rfl) (okX9_lotsFor h) (fun r3 I1 L2 h => ?_)
  refine Ev.istore (ls' := [(8, .int _), (7, .int _), (0, .ref _), (2, .int _), (5, .int _), (6, .int _)]) (pc' := 114) dX9_weigh_112 rfl (Nat.le_of_ble_eq_true rfl) rfl ?_
  refine Ev.aload_n (k := 2) (pc' := 115) dX9_weigh_114 rfl rfl rfl ?_
  refine Ev.getR (pc' := 118) dX9_weigh_115 rfl fa_RX9_22 ob_69 fk_9_0 rf_69_0 ?_
  refine Ev.getI (pc' := 121) dX9_weigh_118 rfl fa_RX9_73 ob_3 fk_10_5 ?_
  refine Ev.istore (ls' := [(9, .int _), (8, .int _), (7, .int _), (0, .ref _), (2, .int _), (5, .int _), (6, .int _)]) (pc' := 123) dX9_weigh_121 rfl (Nat.le_of_ble_eq_true rfl) rfl ?_
  refine Ev.aload_n (k := 3) (pc' := 124) dX9_weigh_123 rfl rfl rfl ?_
  refine Ev.bipush (pc' := 126) dX9_weigh_124 rfl kb_100 ?_
  refine Ev.iload (k := 0) (pc' := 128) dX9_weigh_126 rfl rfl ?_
  refine Ev.isub (pc' := 129) dX9_weigh_128 rfl ?_
  refine Ev.iload (k := 5) (pc' := 131) dX9_weigh_129 rfl rfl ?_
  refine Ev.imul (pc' := 132) dX9_weigh_131 rfl ?_
  refine Ev.iload (k := 1) (pc' := 134) dX9_weigh_132 rfl rfl ?_
  refine Ev.imul (pc' := 135) dX9_weigh_134 rfl ?_
  refine Ev.iload (k := 0) (pc' := 137) dX9_weigh_135 rfl rfl ?_
  refine Ev.iload (k := 2) (pc' := 139) dX9_weigh_137 rfl rfl ?_
  refine Ev.imul (pc' := 140) dX9_weigh_139 rfl ?_
  refine Ev.iload (k := 6) (pc' := 142) dX9_weigh_140 rfl rfl ?_
  refine Ev.imul (pc' := 143) dX9_weigh_142 rfl ?_
  refine Ev.iadd (pc' := 144) dX9_weigh_143 rfl ?_
  refine Ev.putI (pc' := 147) dX9_weigh_144 rfl fa_RX9_76 ob_69 fk_9_4 rfl rfl (fun I4 eI4 => ?_)
  have h := h I4 eI4
  refine Ev.aload_n (k := 3) (pc' := 148) dX9_weigh_147 rfl rfl rfl ?_
  refine Ev.bipush (pc' := 150) dX9_weigh_148 rfl kb_100 ?_
  refine Ev.iload (k := 6) (pc' := 152) dX9_weigh_150 rfl rfl ?_
  refine Ev.imul (pc' := 153) dX9_weigh_152 rfl ?_
  refine Ev.iload (k := 1) (pc' := 155) dX9_weigh_153 rfl rfl ?_
  refine Ev.imul (pc' := 156) dX9_weigh_155 rfl ?_
  refine Ev.putI (pc' := 159) dX9_weigh_156 rfl fa_RX9_79 ob_69 fk_9_5 rfl rfl (fun I5 eI5 => ?_)
  have h := h I5 eI5
  refine Ev.aload_n (k := 3) (pc' := 160) dX9_weigh_159 rfl rfl rfl ?_
  refine Ev.getI (pc' := 163) dX9_weigh_160 rfl fa_RX9_76 ob_69 fk_9_4 ?_
  refine Ev.aload_n (k := 3) (pc' := 164) dX9_weigh_163 rfl rfl rfl ?_
  refine Ev.getI (pc' := 167) dX9_weigh_164 rfl fa_RX9_79 ob_69 fk_9_5 ?_
  refine Ef.callSI [.int _, .int _] [] (pc' := 170) dX9_weigh_167 rfl cv_RX9_82_X9_commonDivisor ⟨Nat.le_of_ble_eq_true rfl, Nat.le_of_ble_eq_true rfl⟩ rfl rfl (Nat.le_of_ble_eq_true rfl) (okX9_commonDivisor h) (fun r8 I6 L7 h => ?_)
  refine Ev.istore (ls' := [(10, .int _), (9, .int _), (8, .int _), (7, .int _), (0, .ref _), (2, .int _), (5, .int _), (6, .int _)]) (pc' := 172) dX9_weigh_170 rfl (Nat.le_of_ble_eq_true rfl) rfl ?_
  refine Ev.iload (k := 0) (pc' := 174) dX9_weigh_172 rfl rfl ?_
  refine Ev.iconst (pc' := 175) dX9_weigh_174 rfl ki_1 ?_
  refine Ev.icmp_le (pc' := 178) (tgt := 200) dX9_weigh_175 rfl rfl (fun hc => ?_) (fun hc => ?_)
  · have h := h.1 hc
    refine Ev.iconst (pc' := 201) dX9_weigh_200 rfl ki_1 ?_
    exact Ef.zret (b := true) dX9_weigh_201 rfl h
  · have h := h.2 hc
    refine Ev.aload_n (k := 4) (pc' := 179) dX9_weigh_178 rfl rfl rfl ?_
    refine Ev.dup (pc' := 180) dX9_weigh_179 rfl rfl ?_
    refine Ev.getI (pc' := 183) dX9_weigh_180 rfl fa_RX9_76 ob_69 fk_9_4 ?_
    refine Ev.iload (k := 0) (pc' := 185) dX9_weigh_183 rfl rfl ?_
    refine Ev.idiv (pc' := 186) dX9_weigh_185 rfl h.1 ?_
    have h := h.2
    refine Ev.putI (pc' := 189) dX9_weigh_186 rfl fa_RX9_76 ob_69 fk_9_4 rfl rfl (fun I9 eI9 => ?_)
    have h := h I9 eI9
    refine Ev.aload_n (k := 4) (pc' := 190) dX9_weigh_189 rfl rfl rfl ?_
    refine Ev.dup (pc' := 191) dX9_weigh_190 rfl rfl ?_
    refine Ev.getI (pc' := 194) dX9_weigh_191 rfl fa_RX9_79 ob_69 fk_9_5 ?_
    refine Ev.iload (k := 0) (pc' := 196) dX9_weigh_194 rfl rfl ?_
    refine Ev.idiv (pc' := 197) dX9_weigh_196 rfl h.1 ?_
    have h := h.2
    refine Ev.putI (pc' := 200) dX9_weigh_197 rfl fa_RX9_79 ob_69 fk_9_5 rfl rfl (fun I10 eI10 => ?_)
    have h := h I10 eI10
    refine Ev.iconst (pc' := 201) dX9_weigh_200 rfl ki_1 ?_
    exact Ef.zret (b := true) dX9_weigh_201 rfl h
set_option maxRecDepth 10000 in
theorem okX9_weigh_b55 {G : Gx} {o1 : Nat} (ho1 : NowAt o1) {Q : Bool → Ix → Lx → Prop} {v2 : Int32} {v3 : Int32} {v4 : Int32} {t0 : Int32} {I : Ix} {L : Lx} (h : wpX9_weigh_b55 o1 Q v2 v3 v4 t0 I L) : Ef G MX9_weigh (qZ Q) 55 [(0, .ref 69), (1, .ref o1), (2, .int v2), (3, .int v3), (4, .int v4)] [.int t0] I L := by
  unfold wpX9_weigh_b55 at h
  refine Ev.istore (ls' := [(5, .int _), (0, .ref _), (1, .ref _), (2, .int _), (3, .int _), (4, .int _)]) (pc' := 57) dX9_weigh_55 rfl (Nat.le_of_ble_eq_true rfl) rfl ?_
  refine Ev.aload_n (k := 1) (pc' := 58) dX9_weigh_57 rfl rfl rfl ?_
  refine Ev.iload_n (k := 3) (pc' := 59) dX9_weigh_58 rfl rfl rfl ?_
  refine Ef.callVI [.int _] [] (pc' := 62) dX9_weigh_59 rfl cv_RX9_69_X9_lotsFor ⟨Nat.le_of_ble_eq_true rfl, Nat.le_of_ble_eq_true rfl⟩ ob_69 rfl rfl rfl (Nat.le_of_ble_eq_true rfl) (okX9_lotsFor h) (fun r3 I1 L2 h => ?_)
  refine Ev.istore (ls' := [(6, .int _), (5, .int _), (0, .ref _), (1, .ref _), (2, .int _), (3, .int _), (4, .int _)]) (pc' := 64) dX9_weigh_62 rfl (Nat.le_of_ble_eq_true rfl) rfl ?_
  refine Ev.aload_n (k := 2) (pc' := 65) dX9_weigh_64 rfl rfl rfl ?_
  refine Ev.aload_n (k := 3) (pc' := 66) dX9_weigh_65 rfl rfl rfl ?_
  refine Ev.iload_n (k := 4) (pc' := 67) dX9_weigh_66 rfl rfl rfl ?_
  refine Ev.iload (k := 6) (pc' := 69) dX9_weigh_67 rfl rfl ?_
  refine Ef.callVV [.ref _, .int _, .int _] [] (pc' := 72) dX9_weigh_69 rfl cv_RX9_47_X9_beginDay ⟨Nat.le_of_ble_eq_true rfl, Nat.le_of_ble_eq_true rfl⟩ ob_69 rfl rfl rfl (Nat.le_of_ble_eq_true rfl) (okX9_beginDay ho1 h) (fun I4 L5 h => ?_)
  refine Ev.aload_n (k := 2) (pc' := 73) dX9_weigh_72 rfl rfl rfl ?_
  refine Ev.getR (pc' := 76) dX9_weigh_73 rfl fa_RX9_26 ob_69 fk_9_1 rf_69_1 ?_
  refine Ev.aload_n (k := 2) (pc' := 77) dX9_weigh_76 rfl rfl rfl ?_
  refine Ev.getR (pc' := 80) dX9_weigh_77 rfl fa_RX9_12 ob_69 fk_9_2 rf_69_2 ?_
  refine Ev.aload_n (k := 2) (pc' := 81) dX9_weigh_80 rfl rfl rfl ?_
  refine Ev.getR (pc' := 84) dX9_weigh_81 rfl fa_RX9_22 ob_69 fk_9_0 rf_69_0 ?_
  refine Ev.getI (pc' := 87) dX9_weigh_84 rfl fa_RX9_55 ob_3 fk_10_4 ?_
  refine Ev.iconst (pc' := 88) dX9_weigh_87 rfl ki_1 ?_
  refine Ef.callVV [.ref _, .int _, .int _] [] (pc' := 91) dX9_weigh_88 rfl cv_RX9_61_X0_noons ⟨Nat.le_of_ble_eq_true rfl, Nat.le_of_ble_eq_true rfl⟩ ob_62 rfl rfl rfl (Nat.le_of_ble_eq_true rfl) (okX0_noons nowAt_70 h) (fun I6 L7 h => ?_)
  refine Ev.aload_n (k := 2) (pc' := 92) dX9_weigh_91 rfl rfl rfl ?_
  refine Ev.iload_n (k := 4) (pc' := 93) dX9_weigh_92 rfl rfl rfl ?_
  refine Ev.iload_n (k := 5) (pc' := 94) dX9_weigh_93 rfl rfl rfl ?_
  refine Ef.callVZ [.int _, .int _] [] (pc' := 97) dX9_weigh_94 rfl cv_RX9_65_X9_isHis ⟨Nat.le_of_ble_eq_true rfl, Nat.le_of_ble_eq_true rfl⟩ ob_69 rfl rfl rfl (Nat.le_of_ble_eq_true rfl) (okX9_isHis h) (fun r10 I8 L9 h => ?_)
  refine Ef.ifz_eq (pc' := 100) (tgt := 104) dX9_weigh_97 rfl rfl (fun hc => ?_) (fun hc => ?_)
  · have h := h.1 hc
    refine Ev.iconst (pc' := 105) dX9_weigh_104 rfl ki_0 ?_
    exact Ev.sub [2, 4, 1, 0] rfl (okX9_weigh_b105 ho1 h)
  · have h := h.2 hc
    refine Ev.iconst (pc' := 101) dX9_weigh_100 rfl ki_1 ?_
    refine Ev.goto (tgt := 105) dX9_weigh_101 rfl ?_
    exact Ev.sub [2, 4, 1, 0] rfl (okX9_weigh_b105 ho1 h)
set_option maxRecDepth 10000 in
theorem okX9_weigh {G : Gx} {o1 : Nat} (ho1 : NowAt o1) {a2 : Int32} {a3 : Int32} {a4 : Int32} {I : Ix} {L : Lx} {Q : Bool → Ix → Lx → Prop} (h : wpX9_weigh o1 a2 a3 a4 I L Q) : Mf G MX9_weigh [.ref 69, .ref o1, .int a2, .int a3, .int a4] I L (qZ Q) := by
  unfold wpX9_weigh at h
  refine Mf.of pn_RX9 (Nat.le_of_ble_eq_true rfl) ?_
  refine Ev.aload_n (k := 0) (pc' := 1) dX9_weigh_0 rfl rfl rfl ?_
  refine Ev.aload_n (k := 1) (pc' := 2) dX9_weigh_1 rfl rfl rfl ?_
  refine Ev.iload_n (k := 2) (pc' := 3) dX9_weigh_2 rfl rfl rfl ?_
  refine Ev.iload (k := 4) (pc' := 5) dX9_weigh_3 rfl rfl ?_
  refine Ef.callVV [.ref _, .int _, .int _] [] (pc' := 8) dX9_weigh_5 rfl cv_RX9_47_X9_beginDay ⟨Nat.le_of_ble_eq_true rfl, Nat.le_of_ble_eq_true rfl⟩ ob_69 rfl rfl rfl (Nat.le_of_ble_eq_true rfl) (okX9_beginDay ho1 h) (fun I1 L2 h => ?_)
  refine Ev.aload_n (k := 0) (pc' := 9) dX9_weigh_8 rfl rfl rfl ?_
  refine Ev.getR (pc' := 12) dX9_weigh_9 rfl fa_RX9_12 ob_69 fk_9_2 rf_69_2 ?_
  refine Ev.getR (pc' := 15) dX9_weigh_12 rfl fa_RX9_51 ob_70 fk_2_7 rf_70_7 ?_
  refine Ev.iload_n (k := 2) (pc' := 16) dX9_weigh_15 rfl rfl rfl ?_
  refine Ev.zaload (j := _) (pc' := 17) dX9_weigh_16 rfl ar_75 h.1 rfl ?_
  have h := h.2
  refine Ev.if_eq (pc' := 20) (tgt := 22) dX9_weigh_17 rfl rfl (fun hc => ?_) (fun hc => ?_)
  · have h := h.1 hc
    refine Ev.aload_n (k := 0) (pc' := 23) dX9_weigh_22 rfl rfl rfl ?_
    refine Ev.getR (pc' := 26) dX9_weigh_23 rfl fa_RX9_26 ob_69 fk_9_1 rf_69_1 ?_
    refine Ev.aload_n (k := 0) (pc' := 27) dX9_weigh_26 rfl rfl rfl ?_
    refine Ev.getR (pc' := 30) dX9_weigh_27 rfl fa_RX9_12 ob_69 fk_9_2 rf_69_2 ?_
    refine Ev.aload_n (k := 0) (pc' := 31) dX9_weigh_30 rfl rfl rfl ?_
    refine Ev.getR (pc' := 34) dX9_weigh_31 rfl fa_RX9_22 ob_69 fk_9_0 rf_69_0 ?_
    refine Ev.getI (pc' := 37) dX9_weigh_34 rfl fa_RX9_55 ob_3 fk_10_4 ?_
    refine Ev.iconst (pc' := 38) dX9_weigh_37 rfl ki_0 ?_
    refine Ef.callVV [.ref _, .int _, .int _] [] (pc' := 41) dX9_weigh_38 rfl cv_RX9_61_X0_noons ⟨Nat.le_of_ble_eq_true rfl, Nat.le_of_ble_eq_true rfl⟩ ob_62 rfl rfl rfl (Nat.le_of_ble_eq_true rfl) (okX0_noons nowAt_70 h) (fun I3 L4 h => ?_)
    refine Ev.aload_n (k := 0) (pc' := 42) dX9_weigh_41 rfl rfl rfl ?_
    refine Ev.iload_n (k := 2) (pc' := 43) dX9_weigh_42 rfl rfl rfl ?_
    refine Ev.iload_n (k := 3) (pc' := 44) dX9_weigh_43 rfl rfl rfl ?_
    refine Ef.callVZ [.int _, .int _] [] (pc' := 47) dX9_weigh_44 rfl cv_RX9_65_X9_isHis ⟨Nat.le_of_ble_eq_true rfl, Nat.le_of_ble_eq_true rfl⟩ ob_69 rfl rfl rfl (Nat.le_of_ble_eq_true rfl) (okX9_isHis h) (fun r7 I5 L6 h => ?_)
    refine Ef.ifz_eq (pc' := 50) (tgt := 54) dX9_weigh_47 rfl rfl (fun hc => ?_) (fun hc => ?_)
    · have h := h.1 hc
      refine Ev.iconst (pc' := 55) dX9_weigh_54 rfl ki_0 ?_
      exact okX9_weigh_b55 ho1 h
    · have h := h.2 hc
      refine Ev.iconst (pc' := 51) dX9_weigh_50 rfl ki_1 ?_
      refine Ev.goto (tgt := 55) dX9_weigh_51 rfl ?_
      exact okX9_weigh_b55 ho1 h
  · have h := h.2 hc
    refine Ev.iconst (pc' := 21) dX9_weigh_20 rfl ki_0 ?_
    exact Ef.zret (b := false) dX9_weigh_21 rfl h
def wpX11_chance (a1 : Int32) (a2 : Int32) (a3 : Int32) (I : Ix) (L : Lx) (Q : Int32 → Ix → Lx → Prop) : Prop := wpX11_isThing a1 I L (fun r3 I1 L2 => (r3 = false → Q (-1) I1 L2) ∧ (r3 = true → wpX11_isPersonOrNobody a2 I1 L2 (fun r6 I4 L5 => (r6 = false → Q (-1) I4 L5) ∧ (r6 = true → (a3 < 0 → Q (-1) I4 L5) ∧ (¬ a3 < 0 → (a3 ≤ 1 → wpX9_weigh 53 a1 a2 0 I4 L5 (fun r9 I7 L8 => (r9 = true → (¬ a3 = 0 → Q (I7 69 5) I7 L8) ∧ (a3 = 0 → Q (I7 69 4) I7 L8)) ∧ (r9 = false → Q (-1) I7 L8))) ∧ (¬ a3 ≤ 1 → Q (-1) I4 L5))))))
set_option maxRecDepth 10000 in
theorem okX11_chance {G : Gx} {a1 : Int32} {a2 : Int32} {a3 : Int32} {I : Ix} {L : Lx} {Q : Int32 → Ix → Lx → Prop} (h : wpX11_chance a1 a2 a3 I L Q) : Mf G MX11_chance [.ref 0, .int a1, .int a2, .int a3] I L (qI Q) := by
  unfold wpX11_chance at h
  refine Mf.of pn_RX11 (Nat.le_of_ble_eq_true rfl) ?_
  refine Ev.aload_n (k := 0) (pc' := 1) dX11_chance_0 rfl rfl rfl ?_
  refine Ev.iload_n (k := 1) (pc' := 2) dX11_chance_1 rfl rfl rfl ?_
  refine Ef.callVZ [.int _] [] (pc' := 5) dX11_chance_2 rfl cv_RX11_124_X11_isThing ⟨Nat.le_of_ble_eq_true rfl, Nat.le_of_ble_eq_true rfl⟩ ob_0 rfl rfl rfl (Nat.le_of_ble_eq_true rfl) (okX11_isThing h) (fun r3 I1 L2 h => ?_)
  refine Ef.ifz_eq (pc' := 8) (tgt := 25) dX11_chance_5 rfl rfl (fun hc => ?_) (fun hc => ?_)
  · have h := h.1 hc
    refine Ev.iconst (pc' := 26) dX11_chance_25 rfl ki_m1 ?_
    exact Ef.iret dX11_chance_26 rfl h
  · have h := h.2 hc
    refine Ev.aload_n (k := 0) (pc' := 9) dX11_chance_8 rfl rfl rfl ?_
    refine Ev.iload_n (k := 2) (pc' := 10) dX11_chance_9 rfl rfl rfl ?_
    refine Ef.callVZ [.int _] [] (pc' := 13) dX11_chance_10 rfl cv_RX11_181_X11_isPersonOrNobody ⟨Nat.le_of_ble_eq_true rfl, Nat.le_of_ble_eq_true rfl⟩ ob_0 rfl rfl rfl (Nat.le_of_ble_eq_true rfl) (okX11_isPersonOrNobody h) (fun r6 I4 L5 h => ?_)
    refine Ef.ifz_eq (pc' := 16) (tgt := 25) dX11_chance_13 rfl rfl (fun hc => ?_) (fun hc => ?_)
    · have h := h.1 hc
      refine Ev.iconst (pc' := 26) dX11_chance_25 rfl ki_m1 ?_
      exact Ef.iret dX11_chance_26 rfl h
    · have h := h.2 hc
      refine Ev.iload_n (k := 3) (pc' := 17) dX11_chance_16 rfl rfl rfl ?_
      refine Ev.if_lt (pc' := 20) (tgt := 25) dX11_chance_17 rfl rfl (fun hc => ?_) (fun hc => ?_)
      · have h := h.1 hc
        refine Ev.iconst (pc' := 26) dX11_chance_25 rfl ki_m1 ?_
        exact Ef.iret dX11_chance_26 rfl h
      · have h := h.2 hc
        refine Ev.iload_n (k := 3) (pc' := 21) dX11_chance_20 rfl rfl rfl ?_
        refine Ev.iconst (pc' := 22) dX11_chance_21 rfl ki_1 ?_
        refine Ev.icmp_le (pc' := 25) (tgt := 27) dX11_chance_22 rfl rfl (fun hc => ?_) (fun hc => ?_)
        · have h := h.1 hc
          refine Ev.aload_n (k := 0) (pc' := 28) dX11_chance_27 rfl rfl rfl ?_
          refine Ev.getR (pc' := 31) dX11_chance_28 rfl fa_RX11_56 ob_0 fk_11_6 rf_0_6 ?_
          refine Ev.aload_n (k := 0) (pc' := 32) dX11_chance_31 rfl rfl rfl ?_
          refine Ev.getR (pc' := 35) dX11_chance_32 rfl fa_RX11_38 ob_0 fk_11_4 rf_0_4 ?_
          refine Ev.iload_n (k := 1) (pc' := 36) dX11_chance_35 rfl rfl rfl ?_
          refine Ev.iload_n (k := 2) (pc' := 37) dX11_chance_36 rfl rfl rfl ?_
          refine Ev.iconst (pc' := 38) dX11_chance_37 rfl ki_0 ?_
          refine Ef.callVZ [.ref _, .int _, .int _, .int _] [] (pc' := 41) dX11_chance_38 rfl cv_RX11_188_X9_weigh ⟨Nat.le_of_ble_eq_true rfl, Nat.le_of_ble_eq_true rfl⟩ ob_69 rfl rfl rfl (Nat.le_of_ble_eq_true rfl) (okX9_weigh nowAt_53 h) (fun r9 I7 L8 h => ?_)
          refine Ef.ifz_ne (pc' := 44) (tgt := 46) dX11_chance_41 rfl rfl (fun hc => ?_) (fun hc => ?_)
          · have h := h.1 hc
            refine Ev.iload_n (k := 3) (pc' := 47) dX11_chance_46 rfl rfl rfl ?_
            refine Ev.if_ne (pc' := 50) (tgt := 60) dX11_chance_47 rfl rfl (fun hc => ?_) (fun hc => ?_)
            · have h := h.1 hc
              refine Ev.aload_n (k := 0) (pc' := 61) dX11_chance_60 rfl rfl rfl ?_
              refine Ev.getR (pc' := 64) dX11_chance_61 rfl fa_RX11_56 ob_0 fk_11_6 rf_0_6 ?_
              refine Ev.getI (pc' := 67) dX11_chance_64 rfl fa_RX11_195 ob_69 fk_9_5 ?_
              exact Ef.iret dX11_chance_67 rfl h
            · have h := h.2 hc
              refine Ev.aload_n (k := 0) (pc' := 51) dX11_chance_50 rfl rfl rfl ?_
              refine Ev.getR (pc' := 54) dX11_chance_51 rfl fa_RX11_56 ob_0 fk_11_6 rf_0_6 ?_
              refine Ev.getI (pc' := 57) dX11_chance_54 rfl fa_RX11_192 ob_69 fk_9_4 ?_
              refine Ev.goto (tgt := 67) dX11_chance_57 rfl ?_
              exact Ef.iret dX11_chance_67 rfl h
          · have h := h.2 hc
            refine Ev.iconst (pc' := 45) dX11_chance_44 rfl ki_m1 ?_
            exact Ef.iret dX11_chance_45 rfl h
        · have h := h.2 hc
          refine Ev.iconst (pc' := 26) dX11_chance_25 rfl ki_m1 ?_
          exact Ef.iret dX11_chance_26 rfl h
def wpX5_isSpent_l4 (Q : Bool → Ix → Lx → Prop) (P4 : Int32 → Int32 → Ix → Lx → Prop) (v1 : Int32) (v2 : Int32) (I : Ix) (L : Lx) : Prop := ((I 3 3) ≤ v2 → (v1 ≤ 20000 → Q false I L) ∧ (¬ v1 ≤ 20000 → Q true I L)) ∧ (¬ (I 3 3) ≤ v2 → P4 (v1 * ((I 3 2) + 1)) (v2 + 1) I L)
def wpX5_isSpent_h4 (Q : Bool → Ix → Lx → Prop) (v1 : Int32) (v2 : Int32) (I : Ix) (L : Lx) : Prop := Lfp (X := Int32 × Int32 × Ix × Lx) (fun P z => wpX5_isSpent_l4 Q (fun v1 v2 I L => P (v1, v2, I, L)) z.1 z.2.1 z.2.2.1 z.2.2.2) (v1, v2, I, L)
theorem wpX5_isSpent_h4_fold {Q : Bool → Ix → Lx → Prop} {v1 : Int32} {v2 : Int32} {I : Ix} {L : Lx} (h : wpX5_isSpent_l4 Q (wpX5_isSpent_h4 Q) v1 v2 I L) : wpX5_isSpent_h4 Q v1 v2 I L := Lfp.fold h
def wpX5_isSpent (I : Ix) (L : Lx) (Q : Bool → Ix → Lx → Prop) : Prop := wpX5_isSpent_h4 Q 1 0 I L
set_option maxRecDepth 10000 in
theorem okX5_isSpent_l4 {G : Gx} {Q : Bool → Ix → Lx → Prop} {P4 : Int32 → Int32 → Ix → Lx → Prop} (hP4 : ∀ (v1 : Int32) (v2 : Int32) (I : Ix) (L : Lx), P4 v1 v2 I L → Ef G MX5_isSpent (qZ Q) 4 [(0, .ref 80), (1, .int v1), (2, .int v2)] [] I L) {v1 : Int32} {v2 : Int32} {I : Ix} {L : Lx} (h : wpX5_isSpent_l4 Q P4 v1 v2 I L) : Ef G MX5_isSpent (qZ Q) 4 [(0, .ref 80), (1, .int v1), (2, .int v2)] [] I L := by
  unfold wpX5_isSpent_l4 at h
  refine Ev.iload_n (k := 2) (pc' := 5) dX5_isSpent_4 rfl rfl rfl ?_
  refine Ev.aload_n (k := 0) (pc' := 6) dX5_isSpent_5 rfl rfl rfl ?_
  refine Ev.getR (pc' := 9) dX5_isSpent_6 rfl fa_RX5_24 ob_80 fk_5_0 rf_80_0 ?_
  refine Ev.getI (pc' := 12) dX5_isSpent_9 rfl fa_RX5_32 ob_3 fk_10_3 ?_
  refine Ev.icmp_ge (pc' := 15) (tgt := 33) dX5_isSpent_12 rfl rfl (fun hc => ?_) (fun hc => ?_)
  · have h := h.1 hc
    refine Ev.iload_n (k := 1) (pc' := 34) dX5_isSpent_33 rfl rfl rfl ?_
    refine Ev.sipush (pc' := 37) dX5_isSpent_34 rfl ks_20000 ?_
    refine Ev.icmp_le (pc' := 40) (tgt := 44) dX5_isSpent_37 rfl rfl (fun hc => ?_) (fun hc => ?_)
    · have h := h.1 hc
      refine Ev.iconst (pc' := 45) dX5_isSpent_44 rfl ki_0 ?_
      exact Ef.zret (b := false) dX5_isSpent_45 rfl h
    · have h := h.2 hc
      refine Ev.iconst (pc' := 41) dX5_isSpent_40 rfl ki_1 ?_
      refine Ev.goto (tgt := 45) dX5_isSpent_41 rfl ?_
      exact Ef.zret (b := true) dX5_isSpent_45 rfl h
  · have h := h.2 hc
    refine Ev.iload_n (k := 1) (pc' := 16) dX5_isSpent_15 rfl rfl rfl ?_
    refine Ev.aload_n (k := 0) (pc' := 17) dX5_isSpent_16 rfl rfl rfl ?_
    refine Ev.getR (pc' := 20) dX5_isSpent_17 rfl fa_RX5_24 ob_80 fk_5_0 rf_80_0 ?_
    refine Ev.getI (pc' := 23) dX5_isSpent_20 rfl fa_RX5_38 ob_3 fk_10_2 ?_
    refine Ev.iconst (pc' := 24) dX5_isSpent_23 rfl ki_1 ?_
    refine Ev.iadd (pc' := 25) dX5_isSpent_24 rfl ?_
    refine Ev.imul (pc' := 26) dX5_isSpent_25 rfl ?_
    refine Ev.istore_n (ls' := [(1, .int _), (0, .ref _), (2, .int _)]) (pc' := 27) dX5_isSpent_26 rfl rfl (Nat.le_of_ble_eq_true rfl) rfl ?_
    refine Ev.iinc (k := 2) (v := _) (ls' := [(2, .int _), (1, .int _), (0, .ref _)]) (pc' := 30) dX5_isSpent_27 rfl rfl (congrArg (_ + ·) ki_1) (Nat.le_of_ble_eq_true rfl) rfl ?_
    refine Ev.goto (tgt := 4) dX5_isSpent_30 rfl ?_
    exact Ev.sub [2, 1, 0] rfl (hP4 _ _ _ _ h)
set_option maxRecDepth 10000 in
theorem okX5_isSpent_h4 {G : Gx} {Q : Bool → Ix → Lx → Prop} {v1 : Int32} {v2 : Int32} {I : Ix} {L : Lx} (h : wpX5_isSpent_h4 Q v1 v2 I L) : Ef G MX5_isSpent (qZ Q) 4 [(0, .ref 80), (1, .int v1), (2, .int v2)] [] I L := by
  unfold wpX5_isSpent_h4 at h
  refine Lfp.ind (P := fun z => Ef G MX5_isSpent (qZ Q) 4 [(0, .ref 80), (1, .int z.1), (2, .int z.2.1)] [] z.2.2.1 z.2.2.2) ?_ h
  intro z P' hP' h
  obtain ⟨v1, v2, I, L⟩ := z
  exact okX5_isSpent_l4 (fun v1 v2 I L h9 => hP' (v1, v2, I, L) h9) h
set_option maxRecDepth 10000 in
theorem okX5_isSpent {G : Gx} {I : Ix} {L : Lx} {Q : Bool → Ix → Lx → Prop} (h : wpX5_isSpent I L Q) : Mf G MX5_isSpent [.ref 80] I L (qZ Q) := by
  unfold wpX5_isSpent at h
  refine Mf.of pn_RX5 (Nat.le_of_ble_eq_true rfl) ?_
  refine Ev.iconst (pc' := 1) dX5_isSpent_0 rfl ki_1 ?_
  refine Ev.istore_n (ls' := [(1, .int _), (0, .ref _)]) (pc' := 2) dX5_isSpent_1 rfl rfl (Nat.le_of_ble_eq_true rfl) rfl ?_
  refine Ev.iconst (pc' := 3) dX5_isSpent_2 rfl ki_0 ?_
  refine Ev.istore_n (ls' := [(2, .int _), (1, .int _), (0, .ref _)]) (pc' := 4) dX5_isSpent_3 rfl rfl (Nat.le_of_ble_eq_true rfl) rfl ?_
  exact Ev.sub [2, 1, 0] rfl (okX5_isSpent_h4 h)
def wpX5_choiceOf (a1 : Int32) (a2 : Int32) (I : Ix) (L : Lx) (Q : Int32 → Ix → Lx → Prop) : Prop := vp_in ((a1 * 11) + a2) 66 ∧ Q (I 81 ((a1 * 11) + a2).toNatClampNeg) I L
set_option maxRecDepth 10000 in
theorem okX5_choiceOf {G : Gx} {a1 : Int32} {a2 : Int32} {I : Ix} {L : Lx} {Q : Int32 → Ix → Lx → Prop} (h : wpX5_choiceOf a1 a2 I L Q) : Mf G MX5_choiceOf [.ref 80, .int a1, .int a2] I L (qI Q) := by
  unfold wpX5_choiceOf at h
  refine Mf.of pn_RX5 (Nat.le_of_ble_eq_true rfl) ?_
  refine Ev.aload_n (k := 0) (pc' := 1) dX5_choiceOf_0 rfl rfl rfl ?_
  refine Ev.getR (pc' := 4) dX5_choiceOf_1 rfl fa_RX5_9 ob_80 fk_5_2 rf_80_2 ?_
  refine Ev.iload_n (k := 1) (pc' := 5) dX5_choiceOf_4 rfl rfl rfl ?_
  refine Ev.bipush (pc' := 7) dX5_choiceOf_5 rfl kb_11 ?_
  refine Ev.imul (pc' := 8) dX5_choiceOf_7 rfl ?_
  refine Ev.iload_n (k := 2) (pc' := 9) dX5_choiceOf_8 rfl rfl rfl ?_
  refine Ev.iadd (pc' := 10) dX5_choiceOf_9 rfl ?_
  refine Ev.iaload (j := _) (pc' := 11) dX5_choiceOf_10 rfl ar_81 h.1 rfl ?_
  have h := h.2
  exact Ef.iret dX5_choiceOf_11 rfl h
def wpX5_choose (a1 : Int32) (a2 : Int32) (I : Ix) (L : Lx) (Q : Ix → Lx → Prop) : Prop := vp_in a1 6 ∧ ∀ I1 : Ix, I1 = pu I 83 a1.toNatClampNeg a2 → wpX5_choiceOf a1 a2 I1 L (fun r4 I2 L3 => vp_in a1 6 ∧ ∀ I5 : Ix, I5 = pu I2 84 a1.toNatClampNeg r4 → Q I5 L3)
set_option maxRecDepth 10000 in
theorem okX5_choose {G : Gx} {a1 : Int32} {a2 : Int32} {I : Ix} {L : Lx} {Q : Ix → Lx → Prop} (h : wpX5_choose a1 a2 I L Q) : Mf G MX5_choose [.ref 80, .int a1, .int a2] I L (qV Q) := by
  unfold wpX5_choose at h
  refine Mf.of pn_RX5 (Nat.le_of_ble_eq_true rfl) ?_
  refine Ev.aload_n (k := 0) (pc' := 1) dX5_choose_0 rfl rfl rfl ?_
  refine Ev.getR (pc' := 4) dX5_choose_1 rfl fa_RX5_18 ob_80 fk_5_4 rf_80_4 ?_
  refine Ev.iload_n (k := 1) (pc' := 5) dX5_choose_4 rfl rfl rfl ?_
  refine Ev.iload_n (k := 2) (pc' := 6) dX5_choose_5 rfl rfl rfl ?_
  refine Ev.iastore (j := _) (pc' := 7) dX5_choose_6 rfl ar_83 h.1 rfl (fun I1 eI1 => ?_)
  have h := h.2 I1 eI1
  refine Ev.aload_n (k := 0) (pc' := 8) dX5_choose_7 rfl rfl rfl ?_
  refine Ev.getR (pc' := 11) dX5_choose_8 rfl fa_RX5_21 ob_80 fk_5_5 rf_80_5 ?_
  refine Ev.iload_n (k := 1) (pc' := 12) dX5_choose_11 rfl rfl rfl ?_
  refine Ev.aload_n (k := 0) (pc' := 13) dX5_choose_12 rfl rfl rfl ?_
  refine Ev.iload_n (k := 1) (pc' := 14) dX5_choose_13 rfl rfl rfl ?_
  refine Ev.iload_n (k := 2) (pc' := 15) dX5_choose_14 rfl rfl rfl ?_
  refine Ef.callVI [.int _, .int _] [.int _, .ref _] (pc' := 18) dX5_choose_15 rfl cv_RX5_104_X5_choiceOf ⟨Nat.le_of_ble_eq_true rfl, Nat.le_of_ble_eq_true rfl⟩ ob_80 rfl rfl rfl (Nat.le_of_ble_eq_true rfl) (okX5_choiceOf h) (fun r4 I2 L3 h => ?_)
  refine Ev.iastore (j := _) (pc' := 19) dX5_choose_18 rfl ar_84 h.1 rfl (fun I5 eI5 => ?_)
  have h := h.2 I5 eI5
  exact Ef.vret dX5_choose_19 rfl h
def wpX5_goOn_l10 (Q : Bool → Ix → Lx → Prop) (P10 : Int32 → Ix → Lx → Prop) (v1 : Int32) (I : Ix) (L : Lx) : Prop := (v1 < 0 → Q false I L) ∧ (¬ v1 < 0 → vp_in v1 6 ∧ vp_in v1 6 ∧ ((I 82 v1.toNatClampNeg) ≤ ((I 83 v1.toNatClampNeg) + 1) → wpX5_choose v1 0 I L (fun I1 L2 => P10 (v1 + (-1)) I1 L2)) ∧ (¬ (I 82 v1.toNatClampNeg) ≤ ((I 83 v1.toNatClampNeg) + 1) → vp_in v1 6 ∧ wpX5_choose v1 ((I 83 v1.toNatClampNeg) + 1) I L (fun I3 L4 => Q true I3 L4)))
def wpX5_goOn_h10 (Q : Bool → Ix → Lx → Prop) (v1 : Int32) (I : Ix) (L : Lx) : Prop := Lfp (X := Int32 × Ix × Lx) (fun P z => wpX5_goOn_l10 Q (fun v1 I L => P (v1, I, L)) z.1 z.2.1 z.2.2) (v1, I, L)
theorem wpX5_goOn_h10_fold {Q : Bool → Ix → Lx → Prop} {v1 : Int32} {I : Ix} {L : Lx} (h : wpX5_goOn_l10 Q (wpX5_goOn_h10 Q) v1 I L) : wpX5_goOn_h10 Q v1 I L := Lfp.fold h
def wpX5_goOn (I : Ix) (L : Lx) (Q : Bool → Ix → Lx → Prop) : Prop := wpX5_goOn_h10 Q ((I 3 3) - 1) I L
set_option maxRecDepth 10000 in
theorem okX5_goOn_l10 {G : Gx} {Q : Bool → Ix → Lx → Prop} {P10 : Int32 → Ix → Lx → Prop} (hP10 : ∀ (v1 : Int32) (I : Ix) (L : Lx), P10 v1 I L → Ef G MX5_goOn (qZ Q) 10 [(0, .ref 80), (1, .int v1)] [] I L) {v1 : Int32} {I : Ix} {L : Lx} (h : wpX5_goOn_l10 Q P10 v1 I L) : Ef G MX5_goOn (qZ Q) 10 [(0, .ref 80), (1, .int v1)] [] I L := by
  unfold wpX5_goOn_l10 at h
  refine Ev.iload_n (k := 1) (pc' := 11) dX5_goOn_10 rfl rfl rfl ?_
  refine Ev.if_lt (pc' := 14) (tgt := 58) dX5_goOn_11 rfl rfl (fun hc => ?_) (fun hc => ?_)
  · have h := h.1 hc
    refine Ev.iconst (pc' := 59) dX5_goOn_58 rfl ki_0 ?_
    exact Ef.zret (b := false) dX5_goOn_59 rfl h
  · have h := h.2 hc
    refine Ev.aload_n (k := 0) (pc' := 15) dX5_goOn_14 rfl rfl rfl ?_
    refine Ev.getR (pc' := 18) dX5_goOn_15 rfl fa_RX5_18 ob_80 fk_5_4 rf_80_4 ?_
    refine Ev.iload_n (k := 1) (pc' := 19) dX5_goOn_18 rfl rfl rfl ?_
    refine Ev.iaload (j := _) (pc' := 20) dX5_goOn_19 rfl ar_83 h.1 rfl ?_
    have h := h.2
    refine Ev.iconst (pc' := 21) dX5_goOn_20 rfl ki_1 ?_
    refine Ev.iadd (pc' := 22) dX5_goOn_21 rfl ?_
    refine Ev.aload_n (k := 0) (pc' := 23) dX5_goOn_22 rfl rfl rfl ?_
    refine Ev.getR (pc' := 26) dX5_goOn_23 rfl fa_RX5_15 ob_80 fk_5_3 rf_80_3 ?_
    refine Ev.iload_n (k := 1) (pc' := 27) dX5_goOn_26 rfl rfl rfl ?_
    refine Ev.iaload (j := _) (pc' := 28) dX5_goOn_27 rfl ar_82 h.1 rfl ?_
    have h := h.2
    refine Ev.icmp_ge (pc' := 31) (tgt := 46) dX5_goOn_28 rfl rfl (fun hc => ?_) (fun hc => ?_)
    · have h := h.1 hc
      refine Ev.aload_n (k := 0) (pc' := 47) dX5_goOn_46 rfl rfl rfl ?_
      refine Ev.iload_n (k := 1) (pc' := 48) dX5_goOn_47 rfl rfl rfl ?_
      refine Ev.iconst (pc' := 49) dX5_goOn_48 rfl ki_0 ?_
      refine Ef.callVV [.int _, .int _] [] (pc' := 52) dX5_goOn_49 rfl cv_RX5_101_X5_choose ⟨Nat.le_of_ble_eq_true rfl, Nat.le_of_ble_eq_true rfl⟩ ob_80 rfl rfl rfl (Nat.le_of_ble_eq_true rfl) (okX5_choose h) (fun I1 L2 h => ?_)
      refine Ev.iinc (k := 1) (v := _) (ls' := [(1, .int _), (0, .ref _)]) (pc' := 55) dX5_goOn_52 rfl rfl (congrArg (_ + ·) ki_m1) (Nat.le_of_ble_eq_true rfl) rfl ?_
      refine Ev.goto (tgt := 10) dX5_goOn_55 rfl ?_
      exact Ev.sub [1, 0] rfl (hP10 _ _ _ h)
    · have h := h.2 hc
      refine Ev.aload_n (k := 0) (pc' := 32) dX5_goOn_31 rfl rfl rfl ?_
      refine Ev.iload_n (k := 1) (pc' := 33) dX5_goOn_32 rfl rfl rfl ?_
      refine Ev.aload_n (k := 0) (pc' := 34) dX5_goOn_33 rfl rfl rfl ?_
      refine Ev.getR (pc' := 37) dX5_goOn_34 rfl fa_RX5_18 ob_80 fk_5_4 rf_80_4 ?_
      refine Ev.iload_n (k := 1) (pc' := 38) dX5_goOn_37 rfl rfl rfl ?_
      refine Ev.iaload (j := _) (pc' := 39) dX5_goOn_38 rfl ar_83 h.1 rfl ?_
      have h := h.2
      refine Ev.iconst (pc' := 40) dX5_goOn_39 rfl ki_1 ?_
      refine Ev.iadd (pc' := 41) dX5_goOn_40 rfl ?_
      refine Ef.callVV [.int _, .int _] [] (pc' := 44) dX5_goOn_41 rfl cv_RX5_101_X5_choose ⟨Nat.le_of_ble_eq_true rfl, Nat.le_of_ble_eq_true rfl⟩ ob_80 rfl rfl rfl (Nat.le_of_ble_eq_true rfl) (okX5_choose h) (fun I3 L4 h => ?_)
      refine Ev.iconst (pc' := 45) dX5_goOn_44 rfl ki_1 ?_
      exact Ef.zret (b := true) dX5_goOn_45 rfl h
set_option maxRecDepth 10000 in
theorem okX5_goOn_h10 {G : Gx} {Q : Bool → Ix → Lx → Prop} {v1 : Int32} {I : Ix} {L : Lx} (h : wpX5_goOn_h10 Q v1 I L) : Ef G MX5_goOn (qZ Q) 10 [(0, .ref 80), (1, .int v1)] [] I L := by
  unfold wpX5_goOn_h10 at h
  refine Lfp.ind (P := fun z => Ef G MX5_goOn (qZ Q) 10 [(0, .ref 80), (1, .int z.1)] [] z.2.1 z.2.2) ?_ h
  intro z P' hP' h
  obtain ⟨v1, I, L⟩ := z
  exact okX5_goOn_l10 (fun v1 I L h9 => hP' (v1, I, L) h9) h
set_option maxRecDepth 10000 in
theorem okX5_goOn {G : Gx} {I : Ix} {L : Lx} {Q : Bool → Ix → Lx → Prop} (h : wpX5_goOn I L Q) : Mf G MX5_goOn [.ref 80] I L (qZ Q) := by
  unfold wpX5_goOn at h
  refine Mf.of pn_RX5 (Nat.le_of_ble_eq_true rfl) ?_
  refine Ev.aload_n (k := 0) (pc' := 1) dX5_goOn_0 rfl rfl rfl ?_
  refine Ev.getR (pc' := 4) dX5_goOn_1 rfl fa_RX5_24 ob_80 fk_5_0 rf_80_0 ?_
  refine Ev.getI (pc' := 7) dX5_goOn_4 rfl fa_RX5_32 ob_3 fk_10_3 ?_
  refine Ev.iconst (pc' := 8) dX5_goOn_7 rfl ki_1 ?_
  refine Ev.isub (pc' := 9) dX5_goOn_8 rfl ?_
  refine Ev.istore_n (ls' := [(1, .int _), (0, .ref _)]) (pc' := 10) dX5_goOn_9 rfl rfl (Nat.le_of_ble_eq_true rfl) rfl ?_
  exact Ev.sub [1, 0] rfl (okX5_goOn_h10 h)
def wpX5_walk (a1 : Int32) (a2 : Int32) (I : Ix) (L : Lx) (Q : Int32 → Ix → Lx → Prop) : Prop := vp_in a1 6 ∧ vp_in a2 10 ∧ wpX1_minutes_4 (I 59 a1.toNatClampNeg) (I 16 a2.toNatClampNeg) I L (fun r3 I1 L2 => Q r3 I1 L2)
set_option maxRecDepth 10000 in
theorem okX5_walk {G : Gx} {a1 : Int32} {a2 : Int32} {I : Ix} {L : Lx} {Q : Int32 → Ix → Lx → Prop} (h : wpX5_walk a1 a2 I L Q) : Mf G MX5_walk [.ref 80, .int a1, .int a2] I L (qI Q) := by
  unfold wpX5_walk at h
  refine Mf.of pn_RX5 (Nat.le_of_ble_eq_true rfl) ?_
  refine Ev.aload_n (k := 0) (pc' := 1) dX5_walk_0 rfl rfl rfl ?_
  refine Ev.getR (pc' := 4) dX5_walk_1 rfl fa_RX5_24 ob_80 fk_5_0 rf_80_0 ?_
  refine Ev.getR (pc' := 7) dX5_walk_4 rfl fa_RX5_82 ob_3 fk_10_0 rf_3_0 ?_
  refine Ev.aload_n (k := 0) (pc' := 8) dX5_walk_7 rfl rfl rfl ?_
  refine Ev.getR (pc' := 11) dX5_walk_8 rfl fa_RX5_28 ob_80 fk_5_1 rf_80_1 ?_
  refine Ev.getR (pc' := 14) dX5_walk_11 rfl fa_RX5_130 ob_53 fk_2_8 rf_53_8 ?_
  refine Ev.iload_n (k := 1) (pc' := 15) dX5_walk_14 rfl rfl rfl ?_
  refine Ev.iaload (j := _) (pc' := 16) dX5_walk_15 rfl ar_59 h.1 rfl ?_
  have h := h.2
  refine Ev.aload_n (k := 0) (pc' := 17) dX5_walk_16 rfl rfl rfl ?_
  refine Ev.getR (pc' := 20) dX5_walk_17 rfl fa_RX5_24 ob_80 fk_5_0 rf_80_0 ?_
  refine Ev.getR (pc' := 23) dX5_walk_20 rfl fa_RX5_76 ob_3 fk_10_7 rf_3_7 ?_
  refine Ev.iload_n (k := 2) (pc' := 24) dX5_walk_23 rfl rfl rfl ?_
  refine Ev.iaload (j := _) (pc' := 25) dX5_walk_24 rfl ar_16 h.1 rfl ?_
  have h := h.2
  refine Ef.callVI [.int _, .int _] [] (pc' := 28) dX5_walk_25 rfl cv_RX5_133_X1_minutes_4 ⟨Nat.le_of_ble_eq_true rfl, Nat.le_of_ble_eq_true rfl⟩ ob_4 rfl rfl rfl (Nat.le_of_ble_eq_true rfl) (okX1_minutes_4 h) (fun r3 I1 L2 h => ?_)
  exact Ef.iret dX5_walk_28 rfl h
def wpX5_isAhead_b61 (Q : Bool → Ix → Lx → Prop) (I : Ix) (L : Lx) : Prop := Q true I L
def wpX5_isAhead_b46 (Q : Bool → Ix → Lx → Prop) (v1 : Int32) (v2 : Int32) (v4 : Int32) (I : Ix) (L : Lx) : Prop := (0 < v4 → wpX5_isAhead_b61 Q I L) ∧ (¬ 0 < v4 → (¬ v4 = 0 → Q false I L) ∧ (v4 = 0 → (v2 ≤ v1 → Q false I L) ∧ (¬ v2 ≤ v1 → wpX5_isAhead_b61 Q I L)))
def wpX5_isAhead (a1 : Int32) (a2 : Int32) (a3 : Int32) (I : Ix) (L : Lx) (Q : Bool → Ix → Lx → Prop) : Prop := vp_in a1 6 ∧ vp_in a2 6 ∧ (¬ (I 3 4) = 0 → wpX5_isAhead_b46 Q a1 a2 ((I 24 a1.toNatClampNeg) - (I 24 a2.toNatClampNeg)) I L) ∧ ((I 3 4) = 0 → wpX5_walk a2 a3 I L (fun r3 I1 L2 => wpX5_walk a1 a3 I1 L2 (fun r6 I4 L5 => wpX5_isAhead_b46 Q a1 a2 (r3 - r6) I4 L5)))
set_option maxRecDepth 10000 in
theorem okX5_isAhead_b61 {G : Gx} {Q : Bool → Ix → Lx → Prop} {I : Ix} {L : Lx} (h : wpX5_isAhead_b61 Q I L) : Ef G MX5_isAhead (qZ Q) 61 [] [] I L := by
  unfold wpX5_isAhead_b61 at h
  refine Ev.iconst (pc' := 62) dX5_isAhead_61 rfl ki_1 ?_
  refine Ev.goto (tgt := 66) dX5_isAhead_62 rfl ?_
  exact Ef.zret (b := true) dX5_isAhead_66 rfl h
set_option maxRecDepth 10000 in
theorem okX5_isAhead_b46 {G : Gx} {Q : Bool → Ix → Lx → Prop} {v1 : Int32} {v2 : Int32} {v4 : Int32} {I : Ix} {L : Lx} (h : wpX5_isAhead_b46 Q v1 v2 v4 I L) : Ef G MX5_isAhead (qZ Q) 46 [(1, .int v1), (2, .int v2), (4, .int v4)] [] I L := by
  unfold wpX5_isAhead_b46 at h
  refine Ev.iload (k := 2) (pc' := 48) dX5_isAhead_46 rfl rfl ?_
  refine Ev.if_gt (pc' := 51) (tgt := 61) dX5_isAhead_48 rfl rfl (fun hc => ?_) (fun hc => ?_)
  · have h := h.1 hc
    exact Ev.sub [] rfl (okX5_isAhead_b61 h)
  · have h := h.2 hc
    refine Ev.iload (k := 2) (pc' := 53) dX5_isAhead_51 rfl rfl ?_
    refine Ev.if_ne (pc' := 56) (tgt := 65) dX5_isAhead_53 rfl rfl (fun hc => ?_) (fun hc => ?_)
    · have h := h.1 hc
      refine Ev.iconst (pc' := 66) dX5_isAhead_65 rfl ki_0 ?_
      exact Ef.zret (b := false) dX5_isAhead_66 rfl h
    · have h := h.2 hc
      refine Ev.iload_n (k := 0) (pc' := 57) dX5_isAhead_56 rfl rfl rfl ?_
      refine Ev.iload_n (k := 1) (pc' := 58) dX5_isAhead_57 rfl rfl rfl ?_
      refine Ev.icmp_ge (pc' := 61) (tgt := 65) dX5_isAhead_58 rfl rfl (fun hc => ?_) (fun hc => ?_)
      · have h := h.1 hc
        refine Ev.iconst (pc' := 66) dX5_isAhead_65 rfl ki_0 ?_
        exact Ef.zret (b := false) dX5_isAhead_66 rfl h
      · have h := h.2 hc
        exact Ev.sub [] rfl (okX5_isAhead_b61 h)
set_option maxRecDepth 10000 in
theorem okX5_isAhead {G : Gx} {a1 : Int32} {a2 : Int32} {a3 : Int32} {I : Ix} {L : Lx} {Q : Bool → Ix → Lx → Prop} (h : wpX5_isAhead a1 a2 a3 I L Q) : Mf G MX5_isAhead [.ref 80, .int a1, .int a2, .int a3] I L (qZ Q) := by
  unfold wpX5_isAhead at h
  refine Mf.of pn_RX5 (Nat.le_of_ble_eq_true rfl) ?_
  refine Ev.aload_n (k := 0) (pc' := 1) dX5_isAhead_0 rfl rfl rfl ?_
  refine Ev.getR (pc' := 4) dX5_isAhead_1 rfl fa_RX5_24 ob_80 fk_5_0 rf_80_0 ?_
  refine Ev.getR (pc' := 7) dX5_isAhead_4 rfl fa_RX5_127 ob_3 fk_10_15 rf_3_15 ?_
  refine Ev.iload_n (k := 1) (pc' := 8) dX5_isAhead_7 rfl rfl rfl ?_
  refine Ev.iaload (j := _) (pc' := 9) dX5_isAhead_8 rfl ar_24 h.1 rfl ?_
  have h := h.2
  refine Ev.aload_n (k := 0) (pc' := 10) dX5_isAhead_9 rfl rfl rfl ?_
  refine Ev.getR (pc' := 13) dX5_isAhead_10 rfl fa_RX5_24 ob_80 fk_5_0 rf_80_0 ?_
  refine Ev.getR (pc' := 16) dX5_isAhead_13 rfl fa_RX5_127 ob_3 fk_10_15 rf_3_15 ?_
  refine Ev.iload_n (k := 2) (pc' := 17) dX5_isAhead_16 rfl rfl rfl ?_
  refine Ev.iaload (j := _) (pc' := 18) dX5_isAhead_17 rfl ar_24 h.1 rfl ?_
  have h := h.2
  refine Ev.isub (pc' := 19) dX5_isAhead_18 rfl ?_
  refine Ev.istore (ls' := [(4, .int _), (0, .ref _), (1, .int _), (2, .int _), (3, .int _)]) (pc' := 21) dX5_isAhead_19 rfl (Nat.le_of_ble_eq_true rfl) rfl ?_
  refine Ev.aload_n (k := 1) (pc' := 22) dX5_isAhead_21 rfl rfl rfl ?_
  refine Ev.getR (pc' := 25) dX5_isAhead_22 rfl fa_RX5_24 ob_80 fk_5_0 rf_80_0 ?_
  refine Ev.getI (pc' := 28) dX5_isAhead_25 rfl fa_RX5_120 ob_3 fk_10_4 ?_
  refine Ev.if_ne (pc' := 31) (tgt := 46) dX5_isAhead_28 rfl rfl (fun hc => ?_) (fun hc => ?_)
  · have h := h.1 hc
    exact Ev.sub [2, 3, 0] rfl (okX5_isAhead_b46 h)
  · have h := h.2 hc
    refine Ev.aload_n (k := 1) (pc' := 32) dX5_isAhead_31 rfl rfl rfl ?_
    refine Ev.iload_n (k := 3) (pc' := 33) dX5_isAhead_32 rfl rfl rfl ?_
    refine Ev.iload_n (k := 4) (pc' := 34) dX5_isAhead_33 rfl rfl rfl ?_
    refine Ef.callVI [.int _, .int _] [] (pc' := 37) dX5_isAhead_34 rfl cv_RX5_79_X5_walk ⟨Nat.le_of_ble_eq_true rfl, Nat.le_of_ble_eq_true rfl⟩ ob_80 rfl rfl rfl (Nat.le_of_ble_eq_true rfl) (okX5_walk h) (fun r3 I1 L2 h => ?_)
    refine Ev.aload_n (k := 1) (pc' := 38) dX5_isAhead_37 rfl rfl rfl ?_
    refine Ev.iload_n (k := 2) (pc' := 39) dX5_isAhead_38 rfl rfl rfl ?_
    refine Ev.iload_n (k := 4) (pc' := 40) dX5_isAhead_39 rfl rfl rfl ?_
    refine Ef.callVI [.int _, .int _] [.int _] (pc' := 43) dX5_isAhead_40 rfl cv_RX5_79_X5_walk ⟨Nat.le_of_ble_eq_true rfl, Nat.le_of_ble_eq_true rfl⟩ ob_80 rfl rfl rfl (Nat.le_of_ble_eq_true rfl) (okX5_walk h) (fun r6 I4 L5 h => ?_)
    refine Ev.isub (pc' := 44) dX5_isAhead_43 rfl ?_
    refine Ev.istore (ls' := [(4, .int _), (0, .ref _), (1, .int _), (2, .int _), (3, .int _)]) (pc' := 46) dX5_isAhead_44 rfl (Nat.le_of_ble_eq_true rfl) rfl ?_
    exact Ev.sub [2, 3, 0] rfl (okX5_isAhead_b46 h)
def wpX5_payFor_l48 (Q : Int32 → Ix → Lx → Prop) (P48 : Int32 → Int32 → Int32 → Int32 → Int32 → Ix → Lx → Prop) (v1 : Int32) (v2 : Int32) (v3 : Int32) (v4 : Int32) (v5 : Int32) (I : Ix) (L : Lx) : Prop := ((I 3 3) ≤ v5 → (¬ (I 3 4) = 2 → Q v3 I L) ∧ ((I 3 4) = 2 → ¬ v4 = 0 ∧ Q (v3 / v4) I L)) ∧ (¬ (I 3 3) ≤ v5 → (v5 = v1 → P48 v1 v2 v3 v4 (v5 + 1) I L) ∧ (¬ v5 = v1 → vp_in v5 6 ∧ (¬ (I 84 v5.toNatClampNeg) = v2 → P48 v1 v2 v3 v4 (v5 + 1) I L) ∧ ((I 84 v5.toNatClampNeg) = v2 → wpX10_isTaker_3 v5 v2 I L (fun r3 I1 L2 => (r3 = false → P48 v1 v2 v3 v4 (v5 + 1) I1 L2) ∧ (r3 = true → ((I1 3 4) = 2 → P48 v1 v2 v3 (v4 + 1) (v5 + 1) I1 L2) ∧ (¬ (I1 3 4) = 2 → wpX5_isAhead v5 v1 v2 I1 L2 (fun r6 I4 L5 => (r6 = false → P48 v1 v2 v3 (v4 + 1) (v5 + 1) I4 L5) ∧ (r6 = true → Q 0 I4 L5))))))))
def wpX5_payFor_h48 (Q : Int32 → Ix → Lx → Prop) (v1 : Int32) (v2 : Int32) (v3 : Int32) (v4 : Int32) (v5 : Int32) (I : Ix) (L : Lx) : Prop := Lfp (X := Int32 × Int32 × Int32 × Int32 × Int32 × Ix × Lx) (fun P z => wpX5_payFor_l48 Q (fun v1 v2 v3 v4 v5 I L => P (v1, v2, v3, v4, v5, I, L)) z.1 z.2.1 z.2.2.1 z.2.2.2.1 z.2.2.2.2.1 z.2.2.2.2.2.1 z.2.2.2.2.2.2) (v1, v2, v3, v4, v5, I, L)
theorem wpX5_payFor_h48_fold {Q : Int32 → Ix → Lx → Prop} {v1 : Int32} {v2 : Int32} {v3 : Int32} {v4 : Int32} {v5 : Int32} {I : Ix} {L : Lx} (h : wpX5_payFor_l48 Q (wpX5_payFor_h48 Q) v1 v2 v3 v4 v5 I L) : wpX5_payFor_h48 Q v1 v2 v3 v4 v5 I L := Lfp.fold h
def wpX5_payFor (a1 : Int32) (a2 : Int32) (I : Ix) (L : Lx) (Q : Int32 → Ix → Lx → Prop) : Prop := (a2 = (-1) → Q 0 I L) ∧ (¬ a2 = (-1) → wpX10_isTaker_3 a1 a2 I L (fun r3 I1 L2 => (r3 = true → vp_in a2 10 ∧ vp_in a2 10 ∧ wpX5_payFor_h48 Q a1 a2 (((I1 57 a2.toNatClampNeg) * (I1 55 a2.toNatClampNeg)) / 100) 1 0 I1 L2) ∧ (r3 = false → Q 0 I1 L2)))
set_option maxRecDepth 10000 in
theorem okX5_payFor_l48 {G : Gx} {Q : Int32 → Ix → Lx → Prop} {P48 : Int32 → Int32 → Int32 → Int32 → Int32 → Ix → Lx → Prop} (hP48 : ∀ (v1 : Int32) (v2 : Int32) (v3 : Int32) (v4 : Int32) (v5 : Int32) (I : Ix) (L : Lx), P48 v1 v2 v3 v4 v5 I L → Ef G MX5_payFor (qI Q) 48 [(0, .ref 80), (1, .int v1), (2, .int v2), (3, .int v3), (4, .int v4), (5, .int v5)] [] I L) {v1 : Int32} {v2 : Int32} {v3 : Int32} {v4 : Int32} {v5 : Int32} {I : Ix} {L : Lx} (h : wpX5_payFor_l48 Q P48 v1 v2 v3 v4 v5 I L) : Ef G MX5_payFor (qI Q) 48 [(0, .ref 80), (1, .int v1), (2, .int v2), (3, .int v3), (4, .int v4), (5, .int v5)] [] I L := by
  unfold wpX5_payFor_l48 at h
  refine Ev.iload (k := 5) (pc' := 50) dX5_payFor_48 rfl rfl ?_
  refine Ev.aload_n (k := 0) (pc' := 51) dX5_payFor_50 rfl rfl rfl ?_
  refine Ev.getR (pc' := 54) dX5_payFor_51 rfl fa_RX5_24 ob_80 fk_5_0 rf_80_0 ?_
  refine Ev.getI (pc' := 57) dX5_payFor_54 rfl fa_RX5_32 ob_3 fk_10_3 ?_
  refine Ev.icmp_ge (pc' := 60) (tgt := 123) dX5_payFor_57 rfl rfl (fun hc => ?_) (fun hc => ?_)
  · have h := h.1 hc
    refine Ev.aload_n (k := 0) (pc' := 124) dX5_payFor_123 rfl rfl rfl ?_
    refine Ev.getR (pc' := 127) dX5_payFor_124 rfl fa_RX5_24 ob_80 fk_5_0 rf_80_0 ?_
    refine Ev.getI (pc' := 130) dX5_payFor_127 rfl fa_RX5_120 ob_3 fk_10_4 ?_
    refine Ev.iconst (pc' := 131) dX5_payFor_130 rfl ki_2 ?_
    refine Ev.icmp_ne (pc' := 134) (tgt := 141) dX5_payFor_131 rfl rfl (fun hc => ?_) (fun hc => ?_)
    · have h := h.1 hc
      refine Ev.iload_n (k := 3) (pc' := 142) dX5_payFor_141 rfl rfl rfl ?_
      exact Ef.iret dX5_payFor_142 rfl h
    · have h := h.2 hc
      refine Ev.iload_n (k := 3) (pc' := 135) dX5_payFor_134 rfl rfl rfl ?_
      refine Ev.iload (k := 4) (pc' := 137) dX5_payFor_135 rfl rfl ?_
      refine Ev.idiv (pc' := 138) dX5_payFor_137 rfl h.1 ?_
      have h := h.2
      refine Ev.goto (tgt := 142) dX5_payFor_138 rfl ?_
      exact Ef.iret dX5_payFor_142 rfl h
  · have h := h.2 hc
    refine Ev.iload (k := 5) (pc' := 62) dX5_payFor_60 rfl rfl ?_
    refine Ev.iload_n (k := 1) (pc' := 63) dX5_payFor_62 rfl rfl rfl ?_
    refine Ev.icmp_eq (pc' := 66) (tgt := 117) dX5_payFor_63 rfl rfl (fun hc => ?_) (fun hc => ?_)
    · have h := h.1 hc
      refine Ev.iinc (k := 5) (v := _) (ls' := [(5, .int _), (0, .ref _), (1, .int _), (2, .int _), (3, .int _), (4, .int _)]) (pc' := 120) dX5_payFor_117 rfl rfl (congrArg (_ + ·) ki_1) (Nat.le_of_ble_eq_true rfl) rfl ?_
      refine Ev.goto (tgt := 48) dX5_payFor_120 rfl ?_
      exact Ev.sub [1, 2, 3, 4, 5, 0] rfl (hP48 _ _ _ _ _ _ _ h)
    · have h := h.2 hc
      refine Ev.aload_n (k := 0) (pc' := 67) dX5_payFor_66 rfl rfl rfl ?_
      refine Ev.getR (pc' := 70) dX5_payFor_67 rfl fa_RX5_21 ob_80 fk_5_5 rf_80_5 ?_
      refine Ev.iload (k := 5) (pc' := 72) dX5_payFor_70 rfl rfl ?_
      refine Ev.iaload (j := _) (pc' := 73) dX5_payFor_72 rfl ar_84 h.1 rfl ?_
      have h := h.2
      refine Ev.iload_n (k := 2) (pc' := 74) dX5_payFor_73 rfl rfl rfl ?_
      refine Ev.icmp_ne (pc' := 77) (tgt := 117) dX5_payFor_74 rfl rfl (fun hc => ?_) (fun hc => ?_)
      · have h := h.1 hc
        refine Ev.iinc (k := 5) (v := _) (ls' := [(5, .int _), (0, .ref _), (1, .int _), (2, .int _), (3, .int _), (4, .int _)]) (pc' := 120) dX5_payFor_117 rfl rfl (congrArg (_ + ·) ki_1) (Nat.le_of_ble_eq_true rfl) rfl ?_
        refine Ev.goto (tgt := 48) dX5_payFor_120 rfl ?_
        exact Ev.sub [1, 2, 3, 4, 5, 0] rfl (hP48 _ _ _ _ _ _ _ h)
      · have h := h.2 hc
        refine Ev.aload_n (k := 0) (pc' := 78) dX5_payFor_77 rfl rfl rfl ?_
        refine Ev.getR (pc' := 81) dX5_payFor_78 rfl fa_RX5_24 ob_80 fk_5_0 rf_80_0 ?_
        refine Ev.iload (k := 5) (pc' := 83) dX5_payFor_81 rfl rfl ?_
        refine Ev.iload_n (k := 2) (pc' := 84) dX5_payFor_83 rfl rfl rfl ?_
        refine Ef.callVZ [.int _, .int _] [] (pc' := 87) dX5_payFor_84 rfl cv_RX5_110_X10_isTaker_3 ⟨Nat.le_of_ble_eq_true rfl, Nat.le_of_ble_eq_true rfl⟩ ob_3 rfl rfl rfl (Nat.le_of_ble_eq_true rfl) (okX10_isTaker_3 h) (fun r3 I1 L2 h => ?_)
        refine Ef.ifz_eq (pc' := 90) (tgt := 117) dX5_payFor_87 rfl rfl (fun hc => ?_) (fun hc => ?_)
        · have h := h.1 hc
          refine Ev.iinc (k := 5) (v := _) (ls' := [(5, .int _), (0, .ref _), (1, .int _), (2, .int _), (3, .int _), (4, .int _)]) (pc' := 120) dX5_payFor_117 rfl rfl (congrArg (_ + ·) ki_1) (Nat.le_of_ble_eq_true rfl) rfl ?_
          refine Ev.goto (tgt := 48) dX5_payFor_120 rfl ?_
          exact Ev.sub [1, 2, 3, 4, 5, 0] rfl (hP48 _ _ _ _ _ _ _ h)
        · have h := h.2 hc
          refine Ev.iinc (k := 4) (v := _) (ls' := [(4, .int _), (0, .ref _), (1, .int _), (2, .int _), (3, .int _), (5, .int _)]) (pc' := 93) dX5_payFor_90 rfl rfl (congrArg (_ + ·) ki_1) (Nat.le_of_ble_eq_true rfl) rfl ?_
          refine Ev.aload_n (k := 1) (pc' := 94) dX5_payFor_93 rfl rfl rfl ?_
          refine Ev.getR (pc' := 97) dX5_payFor_94 rfl fa_RX5_24 ob_80 fk_5_0 rf_80_0 ?_
          refine Ev.getI (pc' := 100) dX5_payFor_97 rfl fa_RX5_120 ob_3 fk_10_4 ?_
          refine Ev.iconst (pc' := 101) dX5_payFor_100 rfl ki_2 ?_
          refine Ev.icmp_eq (pc' := 104) (tgt := 117) dX5_payFor_101 rfl rfl (fun hc => ?_) (fun hc => ?_)
          · have h := h.1 hc
            refine Ev.iinc (k := 5) (v := _) (ls' := [(5, .int _), (4, .int _), (0, .ref _), (1, .int _), (2, .int _), (3, .int _)]) (pc' := 120) dX5_payFor_117 rfl rfl (congrArg (_ + ·) ki_1) (Nat.le_of_ble_eq_true rfl) rfl ?_
            refine Ev.goto (tgt := 48) dX5_payFor_120 rfl ?_
            exact Ev.sub [2, 3, 4, 5, 1, 0] rfl (hP48 _ _ _ _ _ _ _ h)
          · have h := h.2 hc
            refine Ev.aload_n (k := 1) (pc' := 105) dX5_payFor_104 rfl rfl rfl ?_
            refine Ev.iload (k := 5) (pc' := 107) dX5_payFor_105 rfl rfl ?_
            refine Ev.iload_n (k := 2) (pc' := 108) dX5_payFor_107 rfl rfl rfl ?_
            refine Ev.iload_n (k := 3) (pc' := 109) dX5_payFor_108 rfl rfl rfl ?_
            refine Ef.callVZ [.int _, .int _, .int _] [] (pc' := 112) dX5_payFor_109 rfl cv_RX5_123_X5_isAhead ⟨Nat.le_of_ble_eq_true rfl, Nat.le_of_ble_eq_true rfl⟩ ob_80 rfl rfl rfl (Nat.le_of_ble_eq_true rfl) (okX5_isAhead h) (fun r6 I4 L5 h => ?_)
            refine Ef.ifz_eq (pc' := 115) (tgt := 117) dX5_payFor_112 rfl rfl (fun hc => ?_) (fun hc => ?_)
            · have h := h.1 hc
              refine Ev.iinc (k := 5) (v := _) (ls' := [(5, .int _), (4, .int _), (0, .ref _), (1, .int _), (2, .int _), (3, .int _)]) (pc' := 120) dX5_payFor_117 rfl rfl (congrArg (_ + ·) ki_1) (Nat.le_of_ble_eq_true rfl) rfl ?_
              refine Ev.goto (tgt := 48) dX5_payFor_120 rfl ?_
              exact Ev.sub [2, 3, 4, 5, 1, 0] rfl (hP48 _ _ _ _ _ _ _ h)
            · have h := h.2 hc
              refine Ev.iconst (pc' := 116) dX5_payFor_115 rfl ki_0 ?_
              exact Ef.iret dX5_payFor_116 rfl h
set_option maxRecDepth 10000 in
theorem okX5_payFor_h48 {G : Gx} {Q : Int32 → Ix → Lx → Prop} {v1 : Int32} {v2 : Int32} {v3 : Int32} {v4 : Int32} {v5 : Int32} {I : Ix} {L : Lx} (h : wpX5_payFor_h48 Q v1 v2 v3 v4 v5 I L) : Ef G MX5_payFor (qI Q) 48 [(0, .ref 80), (1, .int v1), (2, .int v2), (3, .int v3), (4, .int v4), (5, .int v5)] [] I L := by
  unfold wpX5_payFor_h48 at h
  refine Lfp.ind (P := fun z => Ef G MX5_payFor (qI Q) 48 [(0, .ref 80), (1, .int z.1), (2, .int z.2.1), (3, .int z.2.2.1), (4, .int z.2.2.2.1), (5, .int z.2.2.2.2.1)] [] z.2.2.2.2.2.1 z.2.2.2.2.2.2) ?_ h
  intro z P' hP' h
  obtain ⟨v1, v2, v3, v4, v5, I, L⟩ := z
  exact okX5_payFor_l48 (fun v1 v2 v3 v4 v5 I L h9 => hP' (v1, v2, v3, v4, v5, I, L) h9) h
set_option maxRecDepth 10000 in
theorem okX5_payFor {G : Gx} {a1 : Int32} {a2 : Int32} {I : Ix} {L : Lx} {Q : Int32 → Ix → Lx → Prop} (h : wpX5_payFor a1 a2 I L Q) : Mf G MX5_payFor [.ref 80, .int a1, .int a2] I L (qI Q) := by
  unfold wpX5_payFor at h
  refine Mf.of pn_RX5 (Nat.le_of_ble_eq_true rfl) ?_
  refine Ev.iload_n (k := 2) (pc' := 1) dX5_payFor_0 rfl rfl rfl ?_
  refine Ev.iconst (pc' := 2) dX5_payFor_1 rfl ki_m1 ?_
  refine Ev.icmp_eq (pc' := 5) (tgt := 17) dX5_payFor_2 rfl rfl (fun hc => ?_) (fun hc => ?_)
  · have h := h.1 hc
    refine Ev.iconst (pc' := 18) dX5_payFor_17 rfl ki_0 ?_
    exact Ef.iret dX5_payFor_18 rfl h
  · have h := h.2 hc
    refine Ev.aload_n (k := 0) (pc' := 6) dX5_payFor_5 rfl rfl rfl ?_
    refine Ev.getR (pc' := 9) dX5_payFor_6 rfl fa_RX5_24 ob_80 fk_5_0 rf_80_0 ?_
    refine Ev.iload_n (k := 1) (pc' := 10) dX5_payFor_9 rfl rfl rfl ?_
    refine Ev.iload_n (k := 2) (pc' := 11) dX5_payFor_10 rfl rfl rfl ?_
    refine Ef.callVZ [.int _, .int _] [] (pc' := 14) dX5_payFor_11 rfl cv_RX5_110_X10_isTaker_3 ⟨Nat.le_of_ble_eq_true rfl, Nat.le_of_ble_eq_true rfl⟩ ob_3 rfl rfl rfl (Nat.le_of_ble_eq_true rfl) (okX10_isTaker_3 h) (fun r3 I1 L2 h => ?_)
    refine Ef.ifz_ne (pc' := 17) (tgt := 19) dX5_payFor_14 rfl rfl (fun hc => ?_) (fun hc => ?_)
    · have h := h.1 hc
      refine Ev.aload_n (k := 0) (pc' := 20) dX5_payFor_19 rfl rfl rfl ?_
      refine Ev.getR (pc' := 23) dX5_payFor_20 rfl fa_RX5_28 ob_80 fk_5_1 rf_80_1 ?_
      refine Ev.getR (pc' := 26) dX5_payFor_23 rfl fa_RX5_114 ob_53 fk_2_6 rf_53_6 ?_
      refine Ev.iload_n (k := 2) (pc' := 27) dX5_payFor_26 rfl rfl rfl ?_
      refine Ev.iaload (j := _) (pc' := 28) dX5_payFor_27 rfl ar_57 h.1 rfl ?_
      have h := h.2
      refine Ev.aload_n (k := 0) (pc' := 29) dX5_payFor_28 rfl rfl rfl ?_
      refine Ev.getR (pc' := 32) dX5_payFor_29 rfl fa_RX5_28 ob_80 fk_5_1 rf_80_1 ?_
      refine Ev.getR (pc' := 35) dX5_payFor_32 rfl fa_RX5_117 ob_53 fk_2_4 rf_53_4 ?_
      refine Ev.iload_n (k := 2) (pc' := 36) dX5_payFor_35 rfl rfl rfl ?_
      refine Ev.iaload (j := _) (pc' := 37) dX5_payFor_36 rfl ar_55 h.1 rfl ?_
      have h := h.2
      refine Ev.imul (pc' := 38) dX5_payFor_37 rfl ?_
      refine Ev.bipush (pc' := 40) dX5_payFor_38 rfl kb_100 ?_
      refine Ev.idiv (pc' := 41) dX5_payFor_40 rfl (by decide) ?_
      refine Ev.istore_n (ls' := [(3, .int _), (0, .ref _), (1, .int _), (2, .int _)]) (pc' := 42) dX5_payFor_41 rfl rfl (Nat.le_of_ble_eq_true rfl) rfl ?_
      refine Ev.iconst (pc' := 43) dX5_payFor_42 rfl ki_1 ?_
      refine Ev.istore (ls' := [(4, .int _), (3, .int _), (0, .ref _), (1, .int _), (2, .int _)]) (pc' := 45) dX5_payFor_43 rfl (Nat.le_of_ble_eq_true rfl) rfl ?_
      refine Ev.iconst (pc' := 46) dX5_payFor_45 rfl ki_0 ?_
      refine Ev.istore (ls' := [(5, .int _), (4, .int _), (3, .int _), (0, .ref _), (1, .int _), (2, .int _)]) (pc' := 48) dX5_payFor_46 rfl (Nat.le_of_ble_eq_true rfl) rfl ?_
      exact Ev.sub [3, 4, 5, 2, 1, 0] rfl (okX5_payFor_h48 h)
    · have h := h.2 hc
      refine Ev.iconst (pc' := 18) dX5_payFor_17 rfl ki_0 ?_
      exact Ef.iret dX5_payFor_18 rfl h
def wpX5_isAtRest_l27 (Q : Bool → Ix → Lx → Prop) (P2 : Int32 → Ix → Lx → Prop) (P27 : Int32 → Int32 → Int32 → Ix → Lx → Prop) (v1 : Int32) (v2 : Int32) (v3 : Int32) (I : Ix) (L : Lx) : Prop := vp_in v1 6 ∧ ((I 82 v1.toNatClampNeg) ≤ v3 → P2 (v1 + 1) I L) ∧ (¬ (I 82 v1.toNatClampNeg) ≤ v3 → wpX5_choiceOf v1 v3 I L (fun r3 I1 L2 => wpX5_payFor v1 r3 I1 L2 (fun r6 I4 L5 => (r6 ≤ v2 → P27 v1 v2 (v3 + 1) I4 L5) ∧ (¬ r6 ≤ v2 → Q false I4 L5))))
def wpX5_isAtRest_h27 (Q : Bool → Ix → Lx → Prop) (P2 : Int32 → Ix → Lx → Prop) (v1 : Int32) (v2 : Int32) (v3 : Int32) (I : Ix) (L : Lx) : Prop := Lfp (X := Int32 × Int32 × Int32 × Ix × Lx) (fun P z => wpX5_isAtRest_l27 Q P2 (fun v1 v2 v3 I L => P (v1, v2, v3, I, L)) z.1 z.2.1 z.2.2.1 z.2.2.2.1 z.2.2.2.2) (v1, v2, v3, I, L)
theorem wpX5_isAtRest_h27_fold {Q : Bool → Ix → Lx → Prop} {P2 : Int32 → Ix → Lx → Prop} {v1 : Int32} {v2 : Int32} {v3 : Int32} {I : Ix} {L : Lx} (h : wpX5_isAtRest_l27 Q P2 (wpX5_isAtRest_h27 Q P2) v1 v2 v3 I L) : wpX5_isAtRest_h27 Q P2 v1 v2 v3 I L := Lfp.fold h
def wpX5_isAtRest_l2 (Q : Bool → Ix → Lx → Prop) (P2 : Int32 → Ix → Lx → Prop) (v1 : Int32) (I : Ix) (L : Lx) : Prop := ((I 3 3) ≤ v1 → Q true I L) ∧ (¬ (I 3 3) ≤ v1 → vp_in v1 6 ∧ wpX5_payFor v1 (I 84 v1.toNatClampNeg) I L (fun r3 I1 L2 => wpX5_isAtRest_h27 Q P2 v1 r3 0 I1 L2))
def wpX5_isAtRest_h2 (Q : Bool → Ix → Lx → Prop) (v1 : Int32) (I : Ix) (L : Lx) : Prop := Lfp (X := Int32 × Ix × Lx) (fun P z => wpX5_isAtRest_l2 Q (fun v1 I L => P (v1, I, L)) z.1 z.2.1 z.2.2) (v1, I, L)
theorem wpX5_isAtRest_h2_fold {Q : Bool → Ix → Lx → Prop} {v1 : Int32} {I : Ix} {L : Lx} (h : wpX5_isAtRest_l2 Q (wpX5_isAtRest_h2 Q) v1 I L) : wpX5_isAtRest_h2 Q v1 I L := Lfp.fold h
def wpX5_isAtRest (I : Ix) (L : Lx) (Q : Bool → Ix → Lx → Prop) : Prop := wpX5_isAtRest_h2 Q 0 I L
set_option maxRecDepth 10000 in
theorem okX5_isAtRest_l27 {G : Gx} {Q : Bool → Ix → Lx → Prop} {P2 : Int32 → Ix → Lx → Prop} {P27 : Int32 → Int32 → Int32 → Ix → Lx → Prop} (hP2 : ∀ (v1 : Int32) (I : Ix) (L : Lx), P2 v1 I L → Ef G MX5_isAtRest (qZ Q) 2 [(0, .ref 80), (1, .int v1)] [] I L) (hP27 : ∀ (v1 : Int32) (v2 : Int32) (v3 : Int32) (I : Ix) (L : Lx), P27 v1 v2 v3 I L → Ef G MX5_isAtRest (qZ Q) 27 [(0, .ref 80), (1, .int v1), (2, .int v2), (3, .int v3)] [] I L) {v1 : Int32} {v2 : Int32} {v3 : Int32} {I : Ix} {L : Lx} (h : wpX5_isAtRest_l27 Q P2 P27 v1 v2 v3 I L) : Ef G MX5_isAtRest (qZ Q) 27 [(0, .ref 80), (1, .int v1), (2, .int v2), (3, .int v3)] [] I L := by
  unfold wpX5_isAtRest_l27 at h
  refine Ev.iload_n (k := 3) (pc' := 28) dX5_isAtRest_27 rfl rfl rfl ?_
  refine Ev.aload_n (k := 0) (pc' := 29) dX5_isAtRest_28 rfl rfl rfl ?_
  refine Ev.getR (pc' := 32) dX5_isAtRest_29 rfl fa_RX5_15 ob_80 fk_5_3 rf_80_3 ?_
  refine Ev.iload_n (k := 1) (pc' := 33) dX5_isAtRest_32 rfl rfl rfl ?_
  refine Ev.iaload (j := _) (pc' := 34) dX5_isAtRest_33 rfl ar_82 h.1 rfl ?_
  have h := h.2
  refine Ev.icmp_ge (pc' := 37) (tgt := 60) dX5_isAtRest_34 rfl rfl (fun hc => ?_) (fun hc => ?_)
  · have h := h.1 hc
    refine Ev.iinc (k := 1) (v := _) (ls' := [(1, .int _), (0, .ref _), (2, .int _), (3, .int _)]) (pc' := 63) dX5_isAtRest_60 rfl rfl (congrArg (_ + ·) ki_1) (Nat.le_of_ble_eq_true rfl) rfl ?_
    refine Ev.goto (tgt := 2) dX5_isAtRest_63 rfl ?_
    exact Ev.sub [1, 0] rfl (hP2 _ _ _ h)
  · have h := h.2 hc
    refine Ev.aload_n (k := 0) (pc' := 38) dX5_isAtRest_37 rfl rfl rfl ?_
    refine Ev.iload_n (k := 1) (pc' := 39) dX5_isAtRest_38 rfl rfl rfl ?_
    refine Ev.aload_n (k := 0) (pc' := 40) dX5_isAtRest_39 rfl rfl rfl ?_
    refine Ev.iload_n (k := 1) (pc' := 41) dX5_isAtRest_40 rfl rfl rfl ?_
    refine Ev.iload_n (k := 3) (pc' := 42) dX5_isAtRest_41 rfl rfl rfl ?_
    refine Ef.callVI [.int _, .int _] [.int _, .ref _] (pc' := 45) dX5_isAtRest_42 rfl cv_RX5_104_X5_choiceOf ⟨Nat.le_of_ble_eq_true rfl, Nat.le_of_ble_eq_true rfl⟩ ob_80 rfl rfl rfl (Nat.le_of_ble_eq_true rfl) (okX5_choiceOf h) (fun r3 I1 L2 h => ?_)
    refine Ef.callVI [.int _, .int _] [] (pc' := 48) dX5_isAtRest_45 rfl cv_RX5_107_X5_payFor ⟨Nat.le_of_ble_eq_true rfl, Nat.le_of_ble_eq_true rfl⟩ ob_80 rfl rfl rfl (Nat.le_of_ble_eq_true rfl) (okX5_payFor h) (fun r6 I4 L5 h => ?_)
    refine Ev.iload_n (k := 2) (pc' := 49) dX5_isAtRest_48 rfl rfl rfl ?_
    refine Ev.icmp_le (pc' := 52) (tgt := 54) dX5_isAtRest_49 rfl rfl (fun hc => ?_) (fun hc => ?_)
    · have h := h.1 hc
      refine Ev.iinc (k := 3) (v := _) (ls' := [(3, .int _), (0, .ref _), (1, .int _), (2, .int _)]) (pc' := 57) dX5_isAtRest_54 rfl rfl (congrArg (_ + ·) ki_1) (Nat.le_of_ble_eq_true rfl) rfl ?_
      refine Ev.goto (tgt := 27) dX5_isAtRest_57 rfl ?_
      exact Ev.sub [1, 2, 3, 0] rfl (hP27 _ _ _ _ _ h)
    · have h := h.2 hc
      refine Ev.iconst (pc' := 53) dX5_isAtRest_52 rfl ki_0 ?_
      exact Ef.zret (b := false) dX5_isAtRest_53 rfl h
set_option maxRecDepth 10000 in
theorem okX5_isAtRest_h27 {G : Gx} {Q : Bool → Ix → Lx → Prop} {P2 : Int32 → Ix → Lx → Prop} (hP2 : ∀ (v1 : Int32) (I : Ix) (L : Lx), P2 v1 I L → Ef G MX5_isAtRest (qZ Q) 2 [(0, .ref 80), (1, .int v1)] [] I L) {v1 : Int32} {v2 : Int32} {v3 : Int32} {I : Ix} {L : Lx} (h : wpX5_isAtRest_h27 Q P2 v1 v2 v3 I L) : Ef G MX5_isAtRest (qZ Q) 27 [(0, .ref 80), (1, .int v1), (2, .int v2), (3, .int v3)] [] I L := by
  unfold wpX5_isAtRest_h27 at h
  refine Lfp.ind (P := fun z => Ef G MX5_isAtRest (qZ Q) 27 [(0, .ref 80), (1, .int z.1), (2, .int z.2.1), (3, .int z.2.2.1)] [] z.2.2.2.1 z.2.2.2.2) ?_ h
  intro z P' hP' h
  obtain ⟨v1, v2, v3, I, L⟩ := z
  exact okX5_isAtRest_l27 hP2 (fun v1 v2 v3 I L h9 => hP' (v1, v2, v3, I, L) h9) h
set_option maxRecDepth 10000 in
theorem okX5_isAtRest_l2 {G : Gx} {Q : Bool → Ix → Lx → Prop} {P2 : Int32 → Ix → Lx → Prop} (hP2 : ∀ (v1 : Int32) (I : Ix) (L : Lx), P2 v1 I L → Ef G MX5_isAtRest (qZ Q) 2 [(0, .ref 80), (1, .int v1)] [] I L) {v1 : Int32} {I : Ix} {L : Lx} (h : wpX5_isAtRest_l2 Q P2 v1 I L) : Ef G MX5_isAtRest (qZ Q) 2 [(0, .ref 80), (1, .int v1)] [] I L := by
  unfold wpX5_isAtRest_l2 at h
  refine Ev.iload_n (k := 1) (pc' := 3) dX5_isAtRest_2 rfl rfl rfl ?_
  refine Ev.aload_n (k := 0) (pc' := 4) dX5_isAtRest_3 rfl rfl rfl ?_
  refine Ev.getR (pc' := 7) dX5_isAtRest_4 rfl fa_RX5_24 ob_80 fk_5_0 rf_80_0 ?_
  refine Ev.getI (pc' := 10) dX5_isAtRest_7 rfl fa_RX5_32 ob_3 fk_10_3 ?_
  refine Ev.icmp_ge (pc' := 13) (tgt := 66) dX5_isAtRest_10 rfl rfl (fun hc => ?_) (fun hc => ?_)
  · have h := h.1 hc
    refine Ev.iconst (pc' := 67) dX5_isAtRest_66 rfl ki_1 ?_
    exact Ef.zret (b := true) dX5_isAtRest_67 rfl h
  · have h := h.2 hc
    refine Ev.aload_n (k := 0) (pc' := 14) dX5_isAtRest_13 rfl rfl rfl ?_
    refine Ev.iload_n (k := 1) (pc' := 15) dX5_isAtRest_14 rfl rfl rfl ?_
    refine Ev.aload_n (k := 0) (pc' := 16) dX5_isAtRest_15 rfl rfl rfl ?_
    refine Ev.getR (pc' := 19) dX5_isAtRest_16 rfl fa_RX5_21 ob_80 fk_5_5 rf_80_5 ?_
    refine Ev.iload_n (k := 1) (pc' := 20) dX5_isAtRest_19 rfl rfl rfl ?_
    refine Ev.iaload (j := _) (pc' := 21) dX5_isAtRest_20 rfl ar_84 h.1 rfl ?_
    have h := h.2
    refine Ef.callVI [.int _, .int _] [] (pc' := 24) dX5_isAtRest_21 rfl cv_RX5_107_X5_payFor ⟨Nat.le_of_ble_eq_true rfl, Nat.le_of_ble_eq_true rfl⟩ ob_80 rfl rfl rfl (Nat.le_of_ble_eq_true rfl) (okX5_payFor h) (fun r3 I1 L2 h => ?_)
    refine Ev.istore_n (ls' := [(2, .int _), (0, .ref _), (1, .int _)]) (pc' := 25) dX5_isAtRest_24 rfl rfl (Nat.le_of_ble_eq_true rfl) rfl ?_
    refine Ev.iconst (pc' := 26) dX5_isAtRest_25 rfl ki_0 ?_
    refine Ev.istore_n (ls' := [(3, .int _), (2, .int _), (0, .ref _), (1, .int _)]) (pc' := 27) dX5_isAtRest_26 rfl rfl (Nat.le_of_ble_eq_true rfl) rfl ?_
    exact Ev.sub [2, 3, 1, 0] rfl (okX5_isAtRest_h27 hP2 h)
set_option maxRecDepth 10000 in
theorem okX5_isAtRest_h2 {G : Gx} {Q : Bool → Ix → Lx → Prop} {v1 : Int32} {I : Ix} {L : Lx} (h : wpX5_isAtRest_h2 Q v1 I L) : Ef G MX5_isAtRest (qZ Q) 2 [(0, .ref 80), (1, .int v1)] [] I L := by
  unfold wpX5_isAtRest_h2 at h
  refine Lfp.ind (P := fun z => Ef G MX5_isAtRest (qZ Q) 2 [(0, .ref 80), (1, .int z.1)] [] z.2.1 z.2.2) ?_ h
  intro z P' hP' h
  obtain ⟨v1, I, L⟩ := z
  exact okX5_isAtRest_l2 (fun v1 I L h9 => hP' (v1, I, L) h9) h
set_option maxRecDepth 10000 in
theorem okX5_isAtRest {G : Gx} {I : Ix} {L : Lx} {Q : Bool → Ix → Lx → Prop} (h : wpX5_isAtRest I L Q) : Mf G MX5_isAtRest [.ref 80] I L (qZ Q) := by
  unfold wpX5_isAtRest at h
  refine Mf.of pn_RX5 (Nat.le_of_ble_eq_true rfl) ?_
  refine Ev.iconst (pc' := 1) dX5_isAtRest_0 rfl ki_0 ?_
  refine Ev.istore_n (ls' := [(1, .int _), (0, .ref _)]) (pc' := 2) dX5_isAtRest_1 rfl rfl (Nat.le_of_ble_eq_true rfl) rfl ?_
  exact Ev.sub [1, 0] rfl (okX5_isAtRest_h2 h)
def wpX5_payOfAll_l4 (Q : Int32 → Ix → Lx → Prop) (P4 : Int32 → Int32 → Ix → Lx → Prop) (v1 : Int32) (v2 : Int32) (I : Ix) (L : Lx) : Prop := ((I 3 3) ≤ v2 → Q v1 I L) ∧ (¬ (I 3 3) ≤ v2 → vp_in v2 6 ∧ wpX5_payFor v2 (I 84 v2.toNatClampNeg) I L (fun r3 I1 L2 => P4 (v1 + r3) (v2 + 1) I1 L2))
def wpX5_payOfAll_h4 (Q : Int32 → Ix → Lx → Prop) (v1 : Int32) (v2 : Int32) (I : Ix) (L : Lx) : Prop := Lfp (X := Int32 × Int32 × Ix × Lx) (fun P z => wpX5_payOfAll_l4 Q (fun v1 v2 I L => P (v1, v2, I, L)) z.1 z.2.1 z.2.2.1 z.2.2.2) (v1, v2, I, L)
theorem wpX5_payOfAll_h4_fold {Q : Int32 → Ix → Lx → Prop} {v1 : Int32} {v2 : Int32} {I : Ix} {L : Lx} (h : wpX5_payOfAll_l4 Q (wpX5_payOfAll_h4 Q) v1 v2 I L) : wpX5_payOfAll_h4 Q v1 v2 I L := Lfp.fold h
def wpX5_payOfAll (I : Ix) (L : Lx) (Q : Int32 → Ix → Lx → Prop) : Prop := wpX5_payOfAll_h4 Q 0 0 I L
set_option maxRecDepth 10000 in
theorem okX5_payOfAll_l4 {G : Gx} {Q : Int32 → Ix → Lx → Prop} {P4 : Int32 → Int32 → Ix → Lx → Prop} (hP4 : ∀ (v1 : Int32) (v2 : Int32) (I : Ix) (L : Lx), P4 v1 v2 I L → Ef G MX5_payOfAll (qI Q) 4 [(0, .ref 80), (1, .int v1), (2, .int v2)] [] I L) {v1 : Int32} {v2 : Int32} {I : Ix} {L : Lx} (h : wpX5_payOfAll_l4 Q P4 v1 v2 I L) : Ef G MX5_payOfAll (qI Q) 4 [(0, .ref 80), (1, .int v1), (2, .int v2)] [] I L := by
  unfold wpX5_payOfAll_l4 at h
  refine Ev.iload_n (k := 2) (pc' := 5) dX5_payOfAll_4 rfl rfl rfl ?_
  refine Ev.aload_n (k := 0) (pc' := 6) dX5_payOfAll_5 rfl rfl rfl ?_
  refine Ev.getR (pc' := 9) dX5_payOfAll_6 rfl fa_RX5_24 ob_80 fk_5_0 rf_80_0 ?_
  refine Ev.getI (pc' := 12) dX5_payOfAll_9 rfl fa_RX5_32 ob_3 fk_10_3 ?_
  refine Ev.icmp_ge (pc' := 15) (tgt := 35) dX5_payOfAll_12 rfl rfl (fun hc => ?_) (fun hc => ?_)
  · have h := h.1 hc
    refine Ev.iload_n (k := 1) (pc' := 36) dX5_payOfAll_35 rfl rfl rfl ?_
    exact Ef.iret dX5_payOfAll_36 rfl h
  · have h := h.2 hc
    refine Ev.iload_n (k := 1) (pc' := 16) dX5_payOfAll_15 rfl rfl rfl ?_
    refine Ev.aload_n (k := 0) (pc' := 17) dX5_payOfAll_16 rfl rfl rfl ?_
    refine Ev.iload_n (k := 2) (pc' := 18) dX5_payOfAll_17 rfl rfl rfl ?_
    refine Ev.aload_n (k := 0) (pc' := 19) dX5_payOfAll_18 rfl rfl rfl ?_
    refine Ev.getR (pc' := 22) dX5_payOfAll_19 rfl fa_RX5_21 ob_80 fk_5_5 rf_80_5 ?_
    refine Ev.iload_n (k := 2) (pc' := 23) dX5_payOfAll_22 rfl rfl rfl ?_
    refine Ev.iaload (j := _) (pc' := 24) dX5_payOfAll_23 rfl ar_84 h.1 rfl ?_
    have h := h.2
    refine Ef.callVI [.int _, .int _] [.int _] (pc' := 27) dX5_payOfAll_24 rfl cv_RX5_107_X5_payFor ⟨Nat.le_of_ble_eq_true rfl, Nat.le_of_ble_eq_true rfl⟩ ob_80 rfl rfl rfl (Nat.le_of_ble_eq_true rfl) (okX5_payFor h) (fun r3 I1 L2 h => ?_)
    refine Ev.iadd (pc' := 28) dX5_payOfAll_27 rfl ?_
    refine Ev.istore_n (ls' := [(1, .int _), (0, .ref _), (2, .int _)]) (pc' := 29) dX5_payOfAll_28 rfl rfl (Nat.le_of_ble_eq_true rfl) rfl ?_
    refine Ev.iinc (k := 2) (v := _) (ls' := [(2, .int _), (1, .int _), (0, .ref _)]) (pc' := 32) dX5_payOfAll_29 rfl rfl (congrArg (_ + ·) ki_1) (Nat.le_of_ble_eq_true rfl) rfl ?_
    refine Ev.goto (tgt := 4) dX5_payOfAll_32 rfl ?_
    exact Ev.sub [2, 1, 0] rfl (hP4 _ _ _ _ h)
set_option maxRecDepth 10000 in
theorem okX5_payOfAll_h4 {G : Gx} {Q : Int32 → Ix → Lx → Prop} {v1 : Int32} {v2 : Int32} {I : Ix} {L : Lx} (h : wpX5_payOfAll_h4 Q v1 v2 I L) : Ef G MX5_payOfAll (qI Q) 4 [(0, .ref 80), (1, .int v1), (2, .int v2)] [] I L := by
  unfold wpX5_payOfAll_h4 at h
  refine Lfp.ind (P := fun z => Ef G MX5_payOfAll (qI Q) 4 [(0, .ref 80), (1, .int z.1), (2, .int z.2.1)] [] z.2.2.1 z.2.2.2) ?_ h
  intro z P' hP' h
  obtain ⟨v1, v2, I, L⟩ := z
  exact okX5_payOfAll_l4 (fun v1 v2 I L h9 => hP' (v1, v2, I, L) h9) h
set_option maxRecDepth 10000 in
theorem okX5_payOfAll {G : Gx} {I : Ix} {L : Lx} {Q : Int32 → Ix → Lx → Prop} (h : wpX5_payOfAll I L Q) : Mf G MX5_payOfAll [.ref 80] I L (qI Q) := by
  unfold wpX5_payOfAll at h
  refine Mf.of pn_RX5 (Nat.le_of_ble_eq_true rfl) ?_
  refine Ev.iconst (pc' := 1) dX5_payOfAll_0 rfl ki_0 ?_
  refine Ev.istore_n (ls' := [(1, .int _), (0, .ref _)]) (pc' := 2) dX5_payOfAll_1 rfl rfl (Nat.le_of_ble_eq_true rfl) rfl ?_
  refine Ev.iconst (pc' := 3) dX5_payOfAll_2 rfl ki_0 ?_
  refine Ev.istore_n (ls' := [(2, .int _), (1, .int _), (0, .ref _)]) (pc' := 4) dX5_payOfAll_3 rfl rfl (Nat.le_of_ble_eq_true rfl) rfl ?_
  exact Ev.sub [2, 1, 0] rfl (okX5_payOfAll_h4 h)
def wpX5_lost_b108 (Q : Int32 → Ix → Lx → Prop) (P4 : Int32 → Int32 → Ix → Lx → Prop) (v2 : Int32) (v3 : Int32) (t0 : Int32) (I : Ix) (L : Lx) : Prop := P4 (t0 + (v3 - 1)) (v2 + 1) I L
def wpX5_lost_l26 (Q : Int32 → Ix → Lx → Prop) (P4 : Int32 → Int32 → Ix → Lx → Prop) (P26 : Int32 → Int32 → Int32 → Int32 → Int32 → Int32 → Ix → Lx → Prop) (v1 : Int32) (v2 : Int32) (v3 : Int32) (v4 : Int32) (v5 : Int32) (v6 : Int32) (I : Ix) (L : Lx) : Prop := ((I 3 3) ≤ v6 → (¬ v4 = 0 → wpX5_lost_b108 Q P4 v2 v3 v1 I L) ∧ (v4 = 0 → (v5 = 0 → P4 (v1 + v3) (v2 + 1) I L) ∧ (¬ v5 = 0 → wpX5_lost_b108 Q P4 v2 v3 v1 I L))) ∧ (¬ (I 3 3) ≤ v6 → vp_in v6 6 ∧ (¬ (I 84 v6.toNatClampNeg) = v2 → P26 v1 v2 v3 v4 v5 (v6 + 1) I L) ∧ ((I 84 v6.toNatClampNeg) = v2 → wpX10_isTaker_3 v6 v2 I L (fun r3 I1 L2 => vp_in v2 10 ∧ (¬ (I1 54 v2.toNatClampNeg) = v6 → P26 v1 v2 (v3 + 1) (v4 ||| (b2i r3)) (v5 ||| 0) (v6 + 1) I1 L2) ∧ ((I1 54 v2.toNatClampNeg) = v6 → P26 v1 v2 (v3 + 1) (v4 ||| (b2i r3)) (v5 ||| 1) (v6 + 1) I1 L2))))
def wpX5_lost_h26 (Q : Int32 → Ix → Lx → Prop) (P4 : Int32 → Int32 → Ix → Lx → Prop) (v1 : Int32) (v2 : Int32) (v3 : Int32) (v4 : Int32) (v5 : Int32) (v6 : Int32) (I : Ix) (L : Lx) : Prop := Lfp (X := Int32 × Int32 × Int32 × Int32 × Int32 × Int32 × Ix × Lx) (fun P z => wpX5_lost_l26 Q P4 (fun v1 v2 v3 v4 v5 v6 I L => P (v1, v2, v3, v4, v5, v6, I, L)) z.1 z.2.1 z.2.2.1 z.2.2.2.1 z.2.2.2.2.1 z.2.2.2.2.2.1 z.2.2.2.2.2.2.1 z.2.2.2.2.2.2.2) (v1, v2, v3, v4, v5, v6, I, L)
theorem wpX5_lost_h26_fold {Q : Int32 → Ix → Lx → Prop} {P4 : Int32 → Int32 → Ix → Lx → Prop} {v1 : Int32} {v2 : Int32} {v3 : Int32} {v4 : Int32} {v5 : Int32} {v6 : Int32} {I : Ix} {L : Lx} (h : wpX5_lost_l26 Q P4 (wpX5_lost_h26 Q P4) v1 v2 v3 v4 v5 v6 I L) : wpX5_lost_h26 Q P4 v1 v2 v3 v4 v5 v6 I L := Lfp.fold h
def wpX5_lost_l4 (Q : Int32 → Ix → Lx → Prop) (P4 : Int32 → Int32 → Ix → Lx → Prop) (v1 : Int32) (v2 : Int32) (I : Ix) (L : Lx) : Prop := ((I 3 2) ≤ v2 → Q v1 I L) ∧ (¬ (I 3 2) ≤ v2 → wpX5_lost_h26 Q P4 v1 v2 0 0 0 0 I L)
def wpX5_lost_h4 (Q : Int32 → Ix → Lx → Prop) (v1 : Int32) (v2 : Int32) (I : Ix) (L : Lx) : Prop := Lfp (X := Int32 × Int32 × Ix × Lx) (fun P z => wpX5_lost_l4 Q (fun v1 v2 I L => P (v1, v2, I, L)) z.1 z.2.1 z.2.2.1 z.2.2.2) (v1, v2, I, L)
theorem wpX5_lost_h4_fold {Q : Int32 → Ix → Lx → Prop} {v1 : Int32} {v2 : Int32} {I : Ix} {L : Lx} (h : wpX5_lost_l4 Q (wpX5_lost_h4 Q) v1 v2 I L) : wpX5_lost_h4 Q v1 v2 I L := Lfp.fold h
def wpX5_lost (I : Ix) (L : Lx) (Q : Int32 → Ix → Lx → Prop) : Prop := wpX5_lost_h4 Q 0 0 I L
set_option maxRecDepth 10000 in
theorem okX5_lost_b108 {G : Gx} {Q : Int32 → Ix → Lx → Prop} {P4 : Int32 → Int32 → Ix → Lx → Prop} (hP4 : ∀ (v1 : Int32) (v2 : Int32) (I : Ix) (L : Lx), P4 v1 v2 I L → Ef G MX5_lost (qI Q) 4 [(0, .ref 80), (1, .int v1), (2, .int v2)] [] I L) {v2 : Int32} {v3 : Int32} {t0 : Int32} {I : Ix} {L : Lx} (h : wpX5_lost_b108 Q P4 v2 v3 t0 I L) : Ef G MX5_lost (qI Q) 108 [(0, .ref 80), (2, .int v2), (3, .int v3)] [.int t0] I L := by
  unfold wpX5_lost_b108 at h
  refine Ev.iload_n (k := 2) (pc' := 109) dX5_lost_108 rfl rfl rfl ?_
  refine Ev.iconst (pc' := 110) dX5_lost_109 rfl ki_1 ?_
  refine Ev.isub (pc' := 111) dX5_lost_110 rfl ?_
  refine Ev.goto (tgt := 115) dX5_lost_111 rfl ?_
  refine Ev.iadd (pc' := 116) dX5_lost_115 rfl ?_
  refine Ev.istore_n (ls' := [(1, .int _), (0, .ref _), (2, .int _), (3, .int _)]) (pc' := 117) dX5_lost_116 rfl rfl (Nat.le_of_ble_eq_true rfl) rfl ?_
  refine Ev.iinc (k := 2) (v := _) (ls' := [(2, .int _), (1, .int _), (0, .ref _), (3, .int _)]) (pc' := 120) dX5_lost_117 rfl rfl (congrArg (_ + ·) ki_1) (Nat.le_of_ble_eq_true rfl) rfl ?_
  refine Ev.goto (tgt := 4) dX5_lost_120 rfl ?_
  exact Ev.sub [2, 1, 0] rfl (hP4 _ _ _ _ h)
set_option maxRecDepth 10000 in
theorem okX5_lost_l26 {G : Gx} {Q : Int32 → Ix → Lx → Prop} {P4 : Int32 → Int32 → Ix → Lx → Prop} {P26 : Int32 → Int32 → Int32 → Int32 → Int32 → Int32 → Ix → Lx → Prop} (hP4 : ∀ (v1 : Int32) (v2 : Int32) (I : Ix) (L : Lx), P4 v1 v2 I L → Ef G MX5_lost (qI Q) 4 [(0, .ref 80), (1, .int v1), (2, .int v2)] [] I L) (hP26 : ∀ (v1 : Int32) (v2 : Int32) (v3 : Int32) (v4 : Int32) (v5 : Int32) (v6 : Int32) (I : Ix) (L : Lx), P26 v1 v2 v3 v4 v5 v6 I L → Ef G MX5_lost (qI Q) 26 [(0, .ref 80), (1, .int v1), (2, .int v2), (3, .int v3), (4, .int v4), (5, .int v5), (6, .int v6)] [] I L) {v1 : Int32} {v2 : Int32} {v3 : Int32} {v4 : Int32} {v5 : Int32} {v6 : Int32} {I : Ix} {L : Lx} (h : wpX5_lost_l26 Q P4 P26 v1 v2 v3 v4 v5 v6 I L) : Ef G MX5_lost (qI Q) 26 [(0, .ref 80), (1, .int v1), (2, .int v2), (3, .int v3), (4, .int v4), (5, .int v5), (6, .int v6)] [] I L := by
  unfold wpX5_lost_l26 at h
  refine Ev.iload (k := 6) (pc' := 28) dX5_lost_26 rfl rfl ?_
  refine Ev.aload_n (k := 0) (pc' := 29) dX5_lost_28 rfl rfl rfl ?_
  refine Ev.getR (pc' := 32) dX5_lost_29 rfl fa_RX5_24 ob_80 fk_5_0 rf_80_0 ?_
  refine Ev.getI (pc' := 35) dX5_lost_32 rfl fa_RX5_32 ob_3 fk_10_3 ?_
  refine Ev.icmp_ge (pc' := 38) (tgt := 97) dX5_lost_35 rfl rfl (fun hc => ?_) (fun hc => ?_)
  · have h := h.1 hc
    refine Ev.iload_n (k := 1) (pc' := 98) dX5_lost_97 rfl rfl rfl ?_
    refine Ev.iload (k := 4) (pc' := 100) dX5_lost_98 rfl rfl ?_
    refine Ev.if_ne (pc' := 103) (tgt := 108) dX5_lost_100 rfl rfl (fun hc => ?_) (fun hc => ?_)
    · have h := h.1 hc
      exact Ev.sub [0, 2, 3] rfl (okX5_lost_b108 hP4 h)
    · have h := h.2 hc
      refine Ev.iload (k := 5) (pc' := 105) dX5_lost_103 rfl rfl ?_
      refine Ev.if_eq (pc' := 108) (tgt := 114) dX5_lost_105 rfl rfl (fun hc => ?_) (fun hc => ?_)
      · have h := h.1 hc
        refine Ev.iload_n (k := 3) (pc' := 115) dX5_lost_114 rfl rfl rfl ?_
        refine Ev.iadd (pc' := 116) dX5_lost_115 rfl ?_
        refine Ev.istore_n (ls' := [(1, .int _), (0, .ref _), (2, .int _), (3, .int _), (4, .int _), (5, .int _), (6, .int _)]) (pc' := 117) dX5_lost_116 rfl rfl (Nat.le_of_ble_eq_true rfl) rfl ?_
        refine Ev.iinc (k := 2) (v := _) (ls' := [(2, .int _), (1, .int _), (0, .ref _), (3, .int _), (4, .int _), (5, .int _), (6, .int _)]) (pc' := 120) dX5_lost_117 rfl rfl (congrArg (_ + ·) ki_1) (Nat.le_of_ble_eq_true rfl) rfl ?_
        refine Ev.goto (tgt := 4) dX5_lost_120 rfl ?_
        exact Ev.sub [2, 1, 0] rfl (hP4 _ _ _ _ h)
      · have h := h.2 hc
        exact Ev.sub [0, 2, 3] rfl (okX5_lost_b108 hP4 h)
  · have h := h.2 hc
    refine Ev.aload_n (k := 0) (pc' := 39) dX5_lost_38 rfl rfl rfl ?_
    refine Ev.getR (pc' := 42) dX5_lost_39 rfl fa_RX5_21 ob_80 fk_5_5 rf_80_5 ?_
    refine Ev.iload (k := 6) (pc' := 44) dX5_lost_42 rfl rfl ?_
    refine Ev.iaload (j := _) (pc' := 45) dX5_lost_44 rfl ar_84 h.1 rfl ?_
    have h := h.2
    refine Ev.iload_n (k := 2) (pc' := 46) dX5_lost_45 rfl rfl rfl ?_
    refine Ev.icmp_ne (pc' := 49) (tgt := 91) dX5_lost_46 rfl rfl (fun hc => ?_) (fun hc => ?_)
    · have h := h.1 hc
      refine Ev.iinc (k := 6) (v := _) (ls' := [(6, .int _), (0, .ref _), (1, .int _), (2, .int _), (3, .int _), (4, .int _), (5, .int _)]) (pc' := 94) dX5_lost_91 rfl rfl (congrArg (_ + ·) ki_1) (Nat.le_of_ble_eq_true rfl) rfl ?_
      refine Ev.goto (tgt := 26) dX5_lost_94 rfl ?_
      exact Ev.sub [1, 2, 3, 4, 5, 6, 0] rfl (hP26 _ _ _ _ _ _ _ _ h)
    · have h := h.2 hc
      refine Ev.iinc (k := 3) (v := _) (ls' := [(3, .int _), (0, .ref _), (1, .int _), (2, .int _), (4, .int _), (5, .int _), (6, .int _)]) (pc' := 52) dX5_lost_49 rfl rfl (congrArg (_ + ·) ki_1) (Nat.le_of_ble_eq_true rfl) rfl ?_
      refine Ev.iload (k := 4) (pc' := 54) dX5_lost_52 rfl rfl ?_
      refine Ev.aload_n (k := 1) (pc' := 55) dX5_lost_54 rfl rfl rfl ?_
      refine Ev.getR (pc' := 58) dX5_lost_55 rfl fa_RX5_24 ob_80 fk_5_0 rf_80_0 ?_
      refine Ev.iload (k := 6) (pc' := 60) dX5_lost_58 rfl rfl ?_
      refine Ev.iload_n (k := 3) (pc' := 61) dX5_lost_60 rfl rfl rfl ?_
      refine Ef.callVZ [.int _, .int _] [.int _] (pc' := 64) dX5_lost_61 rfl cv_RX5_110_X10_isTaker_3 ⟨Nat.le_of_ble_eq_true rfl, Nat.le_of_ble_eq_true rfl⟩ ob_3 rfl rfl rfl (Nat.le_of_ble_eq_true rfl) (okX10_isTaker_3 h) (fun r3 I1 L2 h => ?_)
      refine Ev.ior (pc' := 65) dX5_lost_64 rfl ?_
      refine Ev.istore (ls' := [(4, .int _), (3, .int _), (0, .ref _), (1, .int _), (2, .int _), (5, .int _), (6, .int _)]) (pc' := 67) dX5_lost_65 rfl (Nat.le_of_ble_eq_true rfl) rfl ?_
      refine Ev.iload (k := 5) (pc' := 69) dX5_lost_67 rfl rfl ?_
      refine Ev.aload_n (k := 2) (pc' := 70) dX5_lost_69 rfl rfl rfl ?_
      refine Ev.getR (pc' := 73) dX5_lost_70 rfl fa_RX5_28 ob_80 fk_5_1 rf_80_1 ?_
      refine Ev.getR (pc' := 76) dX5_lost_73 rfl fa_RX5_136 ob_53 fk_2_3 rf_53_3 ?_
      refine Ev.iload_n (k := 4) (pc' := 77) dX5_lost_76 rfl rfl rfl ?_
      refine Ev.iaload (j := _) (pc' := 78) dX5_lost_77 rfl ar_54 h.1 rfl ?_
      have h := h.2
      refine Ev.iload (k := 6) (pc' := 80) dX5_lost_78 rfl rfl ?_
      refine Ev.icmp_ne (pc' := 83) (tgt := 87) dX5_lost_80 rfl rfl (fun hc => ?_) (fun hc => ?_)
      · have h := h.1 hc
        refine Ev.iconst (pc' := 88) dX5_lost_87 rfl ki_0 ?_
        refine Ev.ior (pc' := 89) dX5_lost_88 rfl ?_
        refine Ev.istore (ls' := [(5, .int _), (4, .int _), (3, .int _), (0, .ref _), (1, .int _), (2, .int _), (6, .int _)]) (pc' := 91) dX5_lost_89 rfl (Nat.le_of_ble_eq_true rfl) rfl ?_
        refine Ev.iinc (k := 6) (v := _) (ls' := [(6, .int _), (5, .int _), (4, .int _), (3, .int _), (0, .ref _), (1, .int _), (2, .int _)]) (pc' := 94) dX5_lost_91 rfl rfl (congrArg (_ + ·) ki_1) (Nat.le_of_ble_eq_true rfl) rfl ?_
        refine Ev.goto (tgt := 26) dX5_lost_94 rfl ?_
        exact Ev.sub [4, 5, 6, 3, 2, 1, 0] rfl (hP26 _ _ _ _ _ _ _ _ h)
      · have h := h.2 hc
        refine Ev.iconst (pc' := 84) dX5_lost_83 rfl ki_1 ?_
        refine Ev.goto (tgt := 88) dX5_lost_84 rfl ?_
        refine Ev.ior (pc' := 89) dX5_lost_88 rfl ?_
        refine Ev.istore (ls' := [(5, .int _), (4, .int _), (3, .int _), (0, .ref _), (1, .int _), (2, .int _), (6, .int _)]) (pc' := 91) dX5_lost_89 rfl (Nat.le_of_ble_eq_true rfl) rfl ?_
        refine Ev.iinc (k := 6) (v := _) (ls' := [(6, .int _), (5, .int _), (4, .int _), (3, .int _), (0, .ref _), (1, .int _), (2, .int _)]) (pc' := 94) dX5_lost_91 rfl rfl (congrArg (_ + ·) ki_1) (Nat.le_of_ble_eq_true rfl) rfl ?_
        refine Ev.goto (tgt := 26) dX5_lost_94 rfl ?_
        exact Ev.sub [4, 5, 6, 3, 2, 1, 0] rfl (hP26 _ _ _ _ _ _ _ _ h)
set_option maxRecDepth 10000 in
theorem okX5_lost_h26 {G : Gx} {Q : Int32 → Ix → Lx → Prop} {P4 : Int32 → Int32 → Ix → Lx → Prop} (hP4 : ∀ (v1 : Int32) (v2 : Int32) (I : Ix) (L : Lx), P4 v1 v2 I L → Ef G MX5_lost (qI Q) 4 [(0, .ref 80), (1, .int v1), (2, .int v2)] [] I L) {v1 : Int32} {v2 : Int32} {v3 : Int32} {v4 : Int32} {v5 : Int32} {v6 : Int32} {I : Ix} {L : Lx} (h : wpX5_lost_h26 Q P4 v1 v2 v3 v4 v5 v6 I L) : Ef G MX5_lost (qI Q) 26 [(0, .ref 80), (1, .int v1), (2, .int v2), (3, .int v3), (4, .int v4), (5, .int v5), (6, .int v6)] [] I L := by
  unfold wpX5_lost_h26 at h
  refine Lfp.ind (P := fun z => Ef G MX5_lost (qI Q) 26 [(0, .ref 80), (1, .int z.1), (2, .int z.2.1), (3, .int z.2.2.1), (4, .int z.2.2.2.1), (5, .int z.2.2.2.2.1), (6, .int z.2.2.2.2.2.1)] [] z.2.2.2.2.2.2.1 z.2.2.2.2.2.2.2) ?_ h
  intro z P' hP' h
  obtain ⟨v1, v2, v3, v4, v5, v6, I, L⟩ := z
  exact okX5_lost_l26 hP4 (fun v1 v2 v3 v4 v5 v6 I L h9 => hP' (v1, v2, v3, v4, v5, v6, I, L) h9) h
set_option maxRecDepth 10000 in
theorem okX5_lost_l4 {G : Gx} {Q : Int32 → Ix → Lx → Prop} {P4 : Int32 → Int32 → Ix → Lx → Prop} (hP4 : ∀ (v1 : Int32) (v2 : Int32) (I : Ix) (L : Lx), P4 v1 v2 I L → Ef G MX5_lost (qI Q) 4 [(0, .ref 80), (1, .int v1), (2, .int v2)] [] I L) {v1 : Int32} {v2 : Int32} {I : Ix} {L : Lx} (h : wpX5_lost_l4 Q P4 v1 v2 I L) : Ef G MX5_lost (qI Q) 4 [(0, .ref 80), (1, .int v1), (2, .int v2)] [] I L := by
  unfold wpX5_lost_l4 at h
  refine Ev.iload_n (k := 2) (pc' := 5) dX5_lost_4 rfl rfl rfl ?_
  refine Ev.aload_n (k := 0) (pc' := 6) dX5_lost_5 rfl rfl rfl ?_
  refine Ev.getR (pc' := 9) dX5_lost_6 rfl fa_RX5_24 ob_80 fk_5_0 rf_80_0 ?_
  refine Ev.getI (pc' := 12) dX5_lost_9 rfl fa_RX5_38 ob_3 fk_10_2 ?_
  refine Ev.icmp_ge (pc' := 15) (tgt := 123) dX5_lost_12 rfl rfl (fun hc => ?_) (fun hc => ?_)
  · have h := h.1 hc
    refine Ev.iload_n (k := 1) (pc' := 124) dX5_lost_123 rfl rfl rfl ?_
    exact Ef.iret dX5_lost_124 rfl h
  · have h := h.2 hc
    refine Ev.iconst (pc' := 16) dX5_lost_15 rfl ki_0 ?_
    refine Ev.istore_n (ls' := [(3, .int _), (0, .ref _), (1, .int _), (2, .int _)]) (pc' := 17) dX5_lost_16 rfl rfl (Nat.le_of_ble_eq_true rfl) rfl ?_
    refine Ev.iconst (pc' := 18) dX5_lost_17 rfl ki_0 ?_
    refine Ev.istore (ls' := [(4, .int _), (3, .int _), (0, .ref _), (1, .int _), (2, .int _)]) (pc' := 20) dX5_lost_18 rfl (Nat.le_of_ble_eq_true rfl) rfl ?_
    refine Ev.iconst (pc' := 21) dX5_lost_20 rfl ki_0 ?_
    refine Ev.istore (ls' := [(5, .int _), (4, .int _), (3, .int _), (0, .ref _), (1, .int _), (2, .int _)]) (pc' := 23) dX5_lost_21 rfl (Nat.le_of_ble_eq_true rfl) rfl ?_
    refine Ev.iconst (pc' := 24) dX5_lost_23 rfl ki_0 ?_
    refine Ev.istore (ls' := [(6, .int _), (5, .int _), (4, .int _), (3, .int _), (0, .ref _), (1, .int _), (2, .int _)]) (pc' := 26) dX5_lost_24 rfl (Nat.le_of_ble_eq_true rfl) rfl ?_
    exact Ev.sub [4, 5, 6, 3, 2, 1, 0] rfl (okX5_lost_h26 hP4 h)
set_option maxRecDepth 10000 in
theorem okX5_lost_h4 {G : Gx} {Q : Int32 → Ix → Lx → Prop} {v1 : Int32} {v2 : Int32} {I : Ix} {L : Lx} (h : wpX5_lost_h4 Q v1 v2 I L) : Ef G MX5_lost (qI Q) 4 [(0, .ref 80), (1, .int v1), (2, .int v2)] [] I L := by
  unfold wpX5_lost_h4 at h
  refine Lfp.ind (P := fun z => Ef G MX5_lost (qI Q) 4 [(0, .ref 80), (1, .int z.1), (2, .int z.2.1)] [] z.2.2.1 z.2.2.2) ?_ h
  intro z P' hP' h
  obtain ⟨v1, v2, I, L⟩ := z
  exact okX5_lost_l4 (fun v1 v2 I L h9 => hP' (v1, v2, I, L) h9) h
set_option maxRecDepth 10000 in
theorem okX5_lost {G : Gx} {I : Ix} {L : Lx} {Q : Int32 → Ix → Lx → Prop} (h : wpX5_lost I L Q) : Mf G MX5_lost [.ref 80] I L (qI Q) := by
  unfold wpX5_lost at h
  refine Mf.of pn_RX5 (Nat.le_of_ble_eq_true rfl) ?_
  refine Ev.iconst (pc' := 1) dX5_lost_0 rfl ki_0 ?_
  refine Ev.istore_n (ls' := [(1, .int _), (0, .ref _)]) (pc' := 2) dX5_lost_1 rfl rfl (Nat.le_of_ble_eq_true rfl) rfl ?_
  refine Ev.iconst (pc' := 3) dX5_lost_2 rfl ki_0 ?_
  refine Ev.istore_n (ls' := [(2, .int _), (1, .int _), (0, .ref _)]) (pc' := 4) dX5_lost_3 rfl rfl (Nat.le_of_ble_eq_true rfl) rfl ?_
  exact Ev.sub [2, 1, 0] rfl (okX5_lost_h4 h)
def wpX5_addChoice (a1 : Int32) (a2 : Int32) (I : Ix) (L : Lx) (Q : Ix → Lx → Prop) : Prop := vp_in a1 6 ∧ vp_in ((a1 * 11) + (I 82 a1.toNatClampNeg)) 66 ∧ ∀ I1 : Ix, I1 = pu I 81 ((a1 * 11) + (I 82 a1.toNatClampNeg)).toNatClampNeg a2 → vp_in a1 6 ∧ vp_in a1 6 ∧ ∀ I2 : Ix, I2 = pu I1 82 a1.toNatClampNeg ((I1 82 a1.toNatClampNeg) + 1) → Q I2 L
set_option maxRecDepth 10000 in
theorem okX5_addChoice {G : Gx} {a1 : Int32} {a2 : Int32} {I : Ix} {L : Lx} {Q : Ix → Lx → Prop} (h : wpX5_addChoice a1 a2 I L Q) : Mf G MX5_addChoice [.ref 80, .int a1, .int a2] I L (qV Q) := by
  unfold wpX5_addChoice at h
  refine Mf.of pn_RX5 (Nat.le_of_ble_eq_true rfl) ?_
  refine Ev.aload_n (k := 0) (pc' := 1) dX5_addChoice_0 rfl rfl rfl ?_
  refine Ev.getR (pc' := 4) dX5_addChoice_1 rfl fa_RX5_9 ob_80 fk_5_2 rf_80_2 ?_
  refine Ev.iload_n (k := 1) (pc' := 5) dX5_addChoice_4 rfl rfl rfl ?_
  refine Ev.bipush (pc' := 7) dX5_addChoice_5 rfl kb_11 ?_
  refine Ev.imul (pc' := 8) dX5_addChoice_7 rfl ?_
  refine Ev.aload_n (k := 0) (pc' := 9) dX5_addChoice_8 rfl rfl rfl ?_
  refine Ev.getR (pc' := 12) dX5_addChoice_9 rfl fa_RX5_15 ob_80 fk_5_3 rf_80_3 ?_
  refine Ev.iload_n (k := 1) (pc' := 13) dX5_addChoice_12 rfl rfl rfl ?_
  refine Ev.iaload (j := _) (pc' := 14) dX5_addChoice_13 rfl ar_82 h.1 rfl ?_
  have h := h.2
  refine Ev.iadd (pc' := 15) dX5_addChoice_14 rfl ?_
  refine Ev.iload_n (k := 2) (pc' := 16) dX5_addChoice_15 rfl rfl rfl ?_
  refine Ev.iastore (j := _) (pc' := 17) dX5_addChoice_16 rfl ar_81 h.1 rfl (fun I1 eI1 => ?_)
  have h := h.2 I1 eI1
  refine Ev.aload_n (k := 0) (pc' := 18) dX5_addChoice_17 rfl rfl rfl ?_
  refine Ev.getR (pc' := 21) dX5_addChoice_18 rfl fa_RX5_15 ob_80 fk_5_3 rf_80_3 ?_
  refine Ev.iload_n (k := 1) (pc' := 22) dX5_addChoice_21 rfl rfl rfl ?_
  refine Ev.dup2 (pc' := 23) dX5_addChoice_22 rfl rfl rfl ?_
  refine Ev.iaload (j := _) (pc' := 24) dX5_addChoice_23 rfl ar_82 h.1 rfl ?_
  have h := h.2
  refine Ev.iconst (pc' := 25) dX5_addChoice_24 rfl ki_1 ?_
  refine Ev.iadd (pc' := 26) dX5_addChoice_25 rfl ?_
  refine Ev.iastore (j := _) (pc' := 27) dX5_addChoice_26 rfl ar_82 h.1 rfl (fun I2 eI2 => ?_)
  have h := h.2 I2 eI2
  exact Ef.vret dX5_addChoice_27 rfl h
def wpX5_listChoices_b72 (Q : Ix → Lx → Prop) (P2 : Int32 → Ix → Lx → Prop) (P22 : Int32 → Int32 → Ix → Lx → Prop) (v1 : Int32) (v2 : Int32) (t0 : Int32) (I : Ix) (L : Lx) : Prop := (t0 = 0 → P22 v1 (v2 + 1) I L) ∧ (¬ t0 = 0 → vp_in v2 10 ∧ (¬ (I 58 v2.toNatClampNeg) = 0 → P22 v1 (v2 + 1) I L) ∧ ((I 58 v2.toNatClampNeg) = 0 → wpX5_addChoice v1 v2 I L (fun I1 L2 => P22 v1 (v2 + 1) I1 L2)))
def wpX5_listChoices_l22 (Q : Ix → Lx → Prop) (P2 : Int32 → Ix → Lx → Prop) (P22 : Int32 → Int32 → Ix → Lx → Prop) (v1 : Int32) (v2 : Int32) (I : Ix) (L : Lx) : Prop := ((I 3 2) ≤ v2 → wpX5_addChoice v1 (-1) I L (fun I1 L2 => wpX5_choose v1 0 I1 L2 (fun I3 L4 => P2 (v1 + 1) I3 L4))) ∧ (¬ (I 3 2) ≤ v2 → vp_in v2 10 ∧ wpX5_walk v1 v2 I L (fun r7 I5 L6 => vp_in (I 16 v2.toNatClampNeg) 8 ∧ ((60 + (I5 6 (I 16 v2.toNatClampNeg).toNatClampNeg)) < r7 → wpX5_listChoices_b72 Q P2 P22 v1 v2 0 I5 L6) ∧ (¬ (60 + (I5 6 (I 16 v2.toNatClampNeg).toNatClampNeg)) < r7 → wpX5_listChoices_b72 Q P2 P22 v1 v2 1 I5 L6)))
def wpX5_listChoices_h22 (Q : Ix → Lx → Prop) (P2 : Int32 → Ix → Lx → Prop) (v1 : Int32) (v2 : Int32) (I : Ix) (L : Lx) : Prop := Lfp (X := Int32 × Int32 × Ix × Lx) (fun P z => wpX5_listChoices_l22 Q P2 (fun v1 v2 I L => P (v1, v2, I, L)) z.1 z.2.1 z.2.2.1 z.2.2.2) (v1, v2, I, L)
theorem wpX5_listChoices_h22_fold {Q : Ix → Lx → Prop} {P2 : Int32 → Ix → Lx → Prop} {v1 : Int32} {v2 : Int32} {I : Ix} {L : Lx} (h : wpX5_listChoices_l22 Q P2 (wpX5_listChoices_h22 Q P2) v1 v2 I L) : wpX5_listChoices_h22 Q P2 v1 v2 I L := Lfp.fold h
def wpX5_listChoices_l2 (Q : Ix → Lx → Prop) (P2 : Int32 → Ix → Lx → Prop) (v1 : Int32) (I : Ix) (L : Lx) : Prop := ((I 3 3) ≤ v1 → Q I L) ∧ (¬ (I 3 3) ≤ v1 → vp_in v1 6 ∧ ∀ I1 : Ix, I1 = pu I 82 v1.toNatClampNeg 0 → wpX5_listChoices_h22 Q P2 v1 0 I1 L)
def wpX5_listChoices_h2 (Q : Ix → Lx → Prop) (v1 : Int32) (I : Ix) (L : Lx) : Prop := Lfp (X := Int32 × Ix × Lx) (fun P z => wpX5_listChoices_l2 Q (fun v1 I L => P (v1, I, L)) z.1 z.2.1 z.2.2) (v1, I, L)
theorem wpX5_listChoices_h2_fold {Q : Ix → Lx → Prop} {v1 : Int32} {I : Ix} {L : Lx} (h : wpX5_listChoices_l2 Q (wpX5_listChoices_h2 Q) v1 I L) : wpX5_listChoices_h2 Q v1 I L := Lfp.fold h
def wpX5_listChoices (I : Ix) (L : Lx) (Q : Ix → Lx → Prop) : Prop := wpX5_listChoices_h2 Q 0 I L
set_option maxRecDepth 10000 in
theorem okX5_listChoices_b72 {G : Gx} {Q : Ix → Lx → Prop} {P2 : Int32 → Ix → Lx → Prop} {P22 : Int32 → Int32 → Ix → Lx → Prop} (hP2 : ∀ (v1 : Int32) (I : Ix) (L : Lx), P2 v1 I L → Ef G MX5_listChoices (qV Q) 2 [(0, .ref 80), (1, .int v1)] [] I L) (hP22 : ∀ (v1 : Int32) (v2 : Int32) (I : Ix) (L : Lx), P22 v1 v2 I L → Ef G MX5_listChoices (qV Q) 22 [(0, .ref 80), (1, .int v1), (2, .int v2)] [] I L) {v1 : Int32} {v2 : Int32} {t0 : Int32} {I : Ix} {L : Lx} (h : wpX5_listChoices_b72 Q P2 P22 v1 v2 t0 I L) : Ef G MX5_listChoices (qV Q) 72 [(0, .ref 80), (1, .int v1), (2, .int v2)] [.int t0] I L := by
  unfold wpX5_listChoices_b72 at h
  refine Ev.istore (ls' := [(4, .int _), (0, .ref _), (1, .int _), (2, .int _)]) (pc' := 74) dX5_listChoices_72 rfl (Nat.le_of_ble_eq_true rfl) rfl ?_
  refine Ev.iload (k := 0) (pc' := 76) dX5_listChoices_74 rfl rfl ?_
  refine Ev.if_eq (pc' := 79) (tgt := 97) dX5_listChoices_76 rfl rfl (fun hc => ?_) (fun hc => ?_)
  · have h := h.1 hc
    refine Ev.iinc (k := 3) (v := _) (ls' := [(2, .int _), (4, .int _), (0, .ref _), (1, .int _)]) (pc' := 100) dX5_listChoices_97 rfl rfl (congrArg (_ + ·) ki_1) (Nat.le_of_ble_eq_true rfl) rfl ?_
    refine Ev.goto (tgt := 22) dX5_listChoices_100 rfl ?_
    exact Ev.sub [2, 3, 0] rfl (hP22 _ _ _ _ h)
  · have h := h.2 hc
    refine Ev.aload_n (k := 1) (pc' := 80) dX5_listChoices_79 rfl rfl rfl ?_
    refine Ev.getR (pc' := 83) dX5_listChoices_80 rfl fa_RX5_28 ob_80 fk_5_1 rf_80_1 ?_
    refine Ev.getR (pc' := 86) dX5_listChoices_83 rfl fa_RX5_91 ob_53 fk_2_7 rf_53_7 ?_
    refine Ev.iload_n (k := 3) (pc' := 87) dX5_listChoices_86 rfl rfl rfl ?_
    refine Ev.zaload (j := _) (pc' := 88) dX5_listChoices_87 rfl ar_58 h.1 rfl ?_
    have h := h.2
    refine Ev.if_ne (pc' := 91) (tgt := 97) dX5_listChoices_88 rfl rfl (fun hc => ?_) (fun hc => ?_)
    · have h := h.1 hc
      refine Ev.iinc (k := 3) (v := _) (ls' := [(2, .int _), (4, .int _), (0, .ref _), (1, .int _)]) (pc' := 100) dX5_listChoices_97 rfl rfl (congrArg (_ + ·) ki_1) (Nat.le_of_ble_eq_true rfl) rfl ?_
      refine Ev.goto (tgt := 22) dX5_listChoices_100 rfl ?_
      exact Ev.sub [2, 3, 0] rfl (hP22 _ _ _ _ h)
    · have h := h.2 hc
      refine Ev.aload_n (k := 1) (pc' := 92) dX5_listChoices_91 rfl rfl rfl ?_
      refine Ev.iload_n (k := 2) (pc' := 93) dX5_listChoices_92 rfl rfl rfl ?_
      refine Ev.iload_n (k := 3) (pc' := 94) dX5_listChoices_93 rfl rfl rfl ?_
      refine Ef.callVV [.int _, .int _] [] (pc' := 97) dX5_listChoices_94 rfl cv_RX5_97_X5_addChoice ⟨Nat.le_of_ble_eq_true rfl, Nat.le_of_ble_eq_true rfl⟩ ob_80 rfl rfl rfl (Nat.le_of_ble_eq_true rfl) (okX5_addChoice h) (fun I1 L2 h => ?_)
      refine Ev.iinc (k := 3) (v := _) (ls' := [(2, .int _), (4, .int _), (0, .ref _), (1, .int _)]) (pc' := 100) dX5_listChoices_97 rfl rfl (congrArg (_ + ·) ki_1) (Nat.le_of_ble_eq_true rfl) rfl ?_
      refine Ev.goto (tgt := 22) dX5_listChoices_100 rfl ?_
      exact Ev.sub [2, 3, 0] rfl (hP22 _ _ _ _ h)
set_option maxRecDepth 10000 in
theorem okX5_listChoices_l22 {G : Gx} {Q : Ix → Lx → Prop} {P2 : Int32 → Ix → Lx → Prop} {P22 : Int32 → Int32 → Ix → Lx → Prop} (hP2 : ∀ (v1 : Int32) (I : Ix) (L : Lx), P2 v1 I L → Ef G MX5_listChoices (qV Q) 2 [(0, .ref 80), (1, .int v1)] [] I L) (hP22 : ∀ (v1 : Int32) (v2 : Int32) (I : Ix) (L : Lx), P22 v1 v2 I L → Ef G MX5_listChoices (qV Q) 22 [(0, .ref 80), (1, .int v1), (2, .int v2)] [] I L) {v1 : Int32} {v2 : Int32} {I : Ix} {L : Lx} (h : wpX5_listChoices_l22 Q P2 P22 v1 v2 I L) : Ef G MX5_listChoices (qV Q) 22 [(0, .ref 80), (1, .int v1), (2, .int v2)] [] I L := by
  unfold wpX5_listChoices_l22 at h
  refine Ev.iload_n (k := 2) (pc' := 23) dX5_listChoices_22 rfl rfl rfl ?_
  refine Ev.aload_n (k := 0) (pc' := 24) dX5_listChoices_23 rfl rfl rfl ?_
  refine Ev.getR (pc' := 27) dX5_listChoices_24 rfl fa_RX5_24 ob_80 fk_5_0 rf_80_0 ?_
  refine Ev.getI (pc' := 30) dX5_listChoices_27 rfl fa_RX5_38 ob_3 fk_10_2 ?_
  refine Ev.icmp_ge (pc' := 33) (tgt := 103) dX5_listChoices_30 rfl rfl (fun hc => ?_) (fun hc => ?_)
  · have h := h.1 hc
    refine Ev.aload_n (k := 0) (pc' := 104) dX5_listChoices_103 rfl rfl rfl ?_
    refine Ev.iload_n (k := 1) (pc' := 105) dX5_listChoices_104 rfl rfl rfl ?_
    refine Ev.iconst (pc' := 106) dX5_listChoices_105 rfl ki_m1 ?_
    refine Ef.callVV [.int _, .int _] [] (pc' := 109) dX5_listChoices_106 rfl cv_RX5_97_X5_addChoice ⟨Nat.le_of_ble_eq_true rfl, Nat.le_of_ble_eq_true rfl⟩ ob_80 rfl rfl rfl (Nat.le_of_ble_eq_true rfl) (okX5_addChoice h) (fun I1 L2 h => ?_)
    refine Ev.aload_n (k := 0) (pc' := 110) dX5_listChoices_109 rfl rfl rfl ?_
    refine Ev.iload_n (k := 1) (pc' := 111) dX5_listChoices_110 rfl rfl rfl ?_
    refine Ev.iconst (pc' := 112) dX5_listChoices_111 rfl ki_0 ?_
    refine Ef.callVV [.int _, .int _] [] (pc' := 115) dX5_listChoices_112 rfl cv_RX5_101_X5_choose ⟨Nat.le_of_ble_eq_true rfl, Nat.le_of_ble_eq_true rfl⟩ ob_80 rfl rfl rfl (Nat.le_of_ble_eq_true rfl) (okX5_choose h) (fun I3 L4 h => ?_)
    refine Ev.iinc (k := 1) (v := _) (ls' := [(1, .int _), (0, .ref _), (2, .int _)]) (pc' := 118) dX5_listChoices_115 rfl rfl (congrArg (_ + ·) ki_1) (Nat.le_of_ble_eq_true rfl) rfl ?_
    refine Ev.goto (tgt := 2) dX5_listChoices_118 rfl ?_
    exact Ev.sub [1, 0] rfl (hP2 _ _ _ h)
  · have h := h.2 hc
    refine Ev.aload_n (k := 0) (pc' := 34) dX5_listChoices_33 rfl rfl rfl ?_
    refine Ev.getR (pc' := 37) dX5_listChoices_34 rfl fa_RX5_24 ob_80 fk_5_0 rf_80_0 ?_
    refine Ev.getR (pc' := 40) dX5_listChoices_37 rfl fa_RX5_76 ob_3 fk_10_7 rf_3_7 ?_
    refine Ev.iload_n (k := 2) (pc' := 41) dX5_listChoices_40 rfl rfl rfl ?_
    refine Ev.iaload (j := _) (pc' := 42) dX5_listChoices_41 rfl ar_16 h.1 rfl ?_
    have h := h.2
    refine Ev.istore_n (ls' := [(3, .int _), (0, .ref _), (1, .int _), (2, .int _)]) (pc' := 43) dX5_listChoices_42 rfl rfl (Nat.le_of_ble_eq_true rfl) rfl ?_
    refine Ev.aload_n (k := 1) (pc' := 44) dX5_listChoices_43 rfl rfl rfl ?_
    refine Ev.iload_n (k := 2) (pc' := 45) dX5_listChoices_44 rfl rfl rfl ?_
    refine Ev.iload_n (k := 3) (pc' := 46) dX5_listChoices_45 rfl rfl rfl ?_
    refine Ef.callVI [.int _, .int _] [] (pc' := 49) dX5_listChoices_46 rfl cv_RX5_79_X5_walk ⟨Nat.le_of_ble_eq_true rfl, Nat.le_of_ble_eq_true rfl⟩ ob_80 rfl rfl rfl (Nat.le_of_ble_eq_true rfl) (okX5_walk h) (fun r7 I5 L6 h => ?_)
    refine Ev.bipush (pc' := 51) dX5_listChoices_49 rfl kb_60 ?_
    refine Ev.aload_n (k := 1) (pc' := 52) dX5_listChoices_51 rfl rfl rfl ?_
    refine Ev.getR (pc' := 55) dX5_listChoices_52 rfl fa_RX5_24 ob_80 fk_5_0 rf_80_0 ?_
    refine Ev.getR (pc' := 58) dX5_listChoices_55 rfl fa_RX5_82 ob_3 fk_10_0 rf_3_0 ?_
    refine Ev.getR (pc' := 61) dX5_listChoices_58 rfl fa_RX5_86 ob_4 fk_1_3 rf_4_3 ?_
    refine Ev.iload_n (k := 0) (pc' := 62) dX5_listChoices_61 rfl rfl rfl ?_
    refine Ev.iaload (j := _) (pc' := 63) dX5_listChoices_62 rfl ar_6 h.1 rfl ?_
    have h := h.2
    refine Ev.iadd (pc' := 64) dX5_listChoices_63 rfl ?_
    refine Ev.icmp_gt (pc' := 67) (tgt := 71) dX5_listChoices_64 rfl rfl (fun hc => ?_) (fun hc => ?_)
    · have h := h.1 hc
      refine Ev.iconst (pc' := 72) dX5_listChoices_71 rfl ki_0 ?_
      exact Ev.sub [1, 2, 3] rfl (okX5_listChoices_b72 hP2 hP22 h)
    · have h := h.2 hc
      refine Ev.iconst (pc' := 68) dX5_listChoices_67 rfl ki_1 ?_
      refine Ev.goto (tgt := 72) dX5_listChoices_68 rfl ?_
      exact Ev.sub [1, 2, 3] rfl (okX5_listChoices_b72 hP2 hP22 h)
set_option maxRecDepth 10000 in
theorem okX5_listChoices_h22 {G : Gx} {Q : Ix → Lx → Prop} {P2 : Int32 → Ix → Lx → Prop} (hP2 : ∀ (v1 : Int32) (I : Ix) (L : Lx), P2 v1 I L → Ef G MX5_listChoices (qV Q) 2 [(0, .ref 80), (1, .int v1)] [] I L) {v1 : Int32} {v2 : Int32} {I : Ix} {L : Lx} (h : wpX5_listChoices_h22 Q P2 v1 v2 I L) : Ef G MX5_listChoices (qV Q) 22 [(0, .ref 80), (1, .int v1), (2, .int v2)] [] I L := by
  unfold wpX5_listChoices_h22 at h
  refine Lfp.ind (P := fun z => Ef G MX5_listChoices (qV Q) 22 [(0, .ref 80), (1, .int z.1), (2, .int z.2.1)] [] z.2.2.1 z.2.2.2) ?_ h
  intro z P' hP' h
  obtain ⟨v1, v2, I, L⟩ := z
  exact okX5_listChoices_l22 hP2 (fun v1 v2 I L h9 => hP' (v1, v2, I, L) h9) h
set_option maxRecDepth 10000 in
theorem okX5_listChoices_l2 {G : Gx} {Q : Ix → Lx → Prop} {P2 : Int32 → Ix → Lx → Prop} (hP2 : ∀ (v1 : Int32) (I : Ix) (L : Lx), P2 v1 I L → Ef G MX5_listChoices (qV Q) 2 [(0, .ref 80), (1, .int v1)] [] I L) {v1 : Int32} {I : Ix} {L : Lx} (h : wpX5_listChoices_l2 Q P2 v1 I L) : Ef G MX5_listChoices (qV Q) 2 [(0, .ref 80), (1, .int v1)] [] I L := by
  unfold wpX5_listChoices_l2 at h
  refine Ev.iload_n (k := 1) (pc' := 3) dX5_listChoices_2 rfl rfl rfl ?_
  refine Ev.aload_n (k := 0) (pc' := 4) dX5_listChoices_3 rfl rfl rfl ?_
  refine Ev.getR (pc' := 7) dX5_listChoices_4 rfl fa_RX5_24 ob_80 fk_5_0 rf_80_0 ?_
  refine Ev.getI (pc' := 10) dX5_listChoices_7 rfl fa_RX5_32 ob_3 fk_10_3 ?_
  refine Ev.icmp_ge (pc' := 13) (tgt := 121) dX5_listChoices_10 rfl rfl (fun hc => ?_) (fun hc => ?_)
  · have h := h.1 hc
    exact Ef.vret dX5_listChoices_121 rfl h
  · have h := h.2 hc
    refine Ev.aload_n (k := 0) (pc' := 14) dX5_listChoices_13 rfl rfl rfl ?_
    refine Ev.getR (pc' := 17) dX5_listChoices_14 rfl fa_RX5_15 ob_80 fk_5_3 rf_80_3 ?_
    refine Ev.iload_n (k := 1) (pc' := 18) dX5_listChoices_17 rfl rfl rfl ?_
    refine Ev.iconst (pc' := 19) dX5_listChoices_18 rfl ki_0 ?_
    refine Ev.iastore (j := _) (pc' := 20) dX5_listChoices_19 rfl ar_82 h.1 rfl (fun I1 eI1 => ?_)
    have h := h.2 I1 eI1
    refine Ev.iconst (pc' := 21) dX5_listChoices_20 rfl ki_0 ?_
    refine Ev.istore_n (ls' := [(2, .int _), (0, .ref _), (1, .int _)]) (pc' := 22) dX5_listChoices_21 rfl rfl (Nat.le_of_ble_eq_true rfl) rfl ?_
    exact Ev.sub [1, 2, 0] rfl (okX5_listChoices_h22 hP2 h)
set_option maxRecDepth 10000 in
theorem okX5_listChoices_h2 {G : Gx} {Q : Ix → Lx → Prop} {v1 : Int32} {I : Ix} {L : Lx} (h : wpX5_listChoices_h2 Q v1 I L) : Ef G MX5_listChoices (qV Q) 2 [(0, .ref 80), (1, .int v1)] [] I L := by
  unfold wpX5_listChoices_h2 at h
  refine Lfp.ind (P := fun z => Ef G MX5_listChoices (qV Q) 2 [(0, .ref 80), (1, .int z.1)] [] z.2.1 z.2.2) ?_ h
  intro z P' hP' h
  obtain ⟨v1, I, L⟩ := z
  exact okX5_listChoices_l2 (fun v1 I L h9 => hP' (v1, I, L) h9) h
set_option maxRecDepth 10000 in
theorem okX5_listChoices {G : Gx} {I : Ix} {L : Lx} {Q : Ix → Lx → Prop} (h : wpX5_listChoices I L Q) : Mf G MX5_listChoices [.ref 80] I L (qV Q) := by
  unfold wpX5_listChoices at h
  refine Mf.of pn_RX5 (Nat.le_of_ble_eq_true rfl) ?_
  refine Ev.iconst (pc' := 1) dX5_listChoices_0 rfl ki_0 ?_
  refine Ev.istore_n (ls' := [(1, .int _), (0, .ref _)]) (pc' := 2) dX5_listChoices_1 rfl rfl (Nat.le_of_ble_eq_true rfl) rfl ?_
  exact Ev.sub [1, 0] rfl (okX5_listChoices_h2 h)
def wpX5_seek_b92 (Q : Bool → Ix → Lx → Prop) (P24 : Int32 → Int32 → Int32 → Ix → Lx → Prop) (v1 : Int32) (v3 : Int32) (I : Ix) (L : Lx) : Prop := wpX5_goOn I L (fun r3 I1 L2 => P24 v1 (b2i r3) (v3 + 1) I1 L2)
def wpX5_seek_l24 (Q : Bool → Ix → Lx → Prop) (P24 : Int32 → Int32 → Int32 → Ix → Lx → Prop) (v1 : Int32) (v2 : Int32) (v3 : Int32) (I : Ix) (L : Lx) : Prop := (20000 ≤ v3 → Q false I L) ∧ (¬ 20000 ≤ v3 → (v2 = 0 → Q false I L) ∧ (¬ v2 = 0 → wpX5_isAtRest I L (fun r3 I1 L2 => (r3 = false → wpX5_seek_b92 Q P24 v1 v3 I1 L2) ∧ (r3 = true → (¬ (I1 80 6) = v1 → ∀ I4 : Ix, I4 = pu I1 80 6 ((I1 80 6) + 1) → wpX5_payOfAll I4 L2 (fun r7 I5 L6 => ∀ I8 : Ix, I8 = pu I5 80 7 (imax (I4 80 7) r7) → wpX5_lost I8 L6 (fun r11 I9 L10 => ∀ I12 : Ix, I12 = pu I9 80 8 (imin (I8 80 8) r11) → wpX5_seek_b92 Q P24 v1 v3 I12 L10))) ∧ ((I1 80 6) = v1 → Q true I1 L2)))))
def wpX5_seek_h24 (Q : Bool → Ix → Lx → Prop) (v1 : Int32) (v2 : Int32) (v3 : Int32) (I : Ix) (L : Lx) : Prop := Lfp (X := Int32 × Int32 × Int32 × Ix × Lx) (fun P z => wpX5_seek_l24 Q (fun v1 v2 v3 I L => P (v1, v2, v3, I, L)) z.1 z.2.1 z.2.2.1 z.2.2.2.1 z.2.2.2.2) (v1, v2, v3, I, L)
theorem wpX5_seek_h24_fold {Q : Bool → Ix → Lx → Prop} {v1 : Int32} {v2 : Int32} {v3 : Int32} {I : Ix} {L : Lx} (h : wpX5_seek_l24 Q (wpX5_seek_h24 Q) v1 v2 v3 I L) : wpX5_seek_h24 Q v1 v2 v3 I L := Lfp.fold h
def wpX5_seek (a1 : Int32) (I : Ix) (L : Lx) (Q : Bool → Ix → Lx → Prop) : Prop := ∀ I1 : Ix, I1 = pu I 80 6 0 → ∀ I2 : Ix, I2 = pu I1 80 7 0 → ∀ I3 : Ix, I3 = pu I2 80 8 6 → wpX5_listChoices I3 L (fun I4 L5 => wpX5_seek_h24 Q a1 1 0 I4 L5)
set_option maxRecDepth 10000 in
theorem okX5_seek_b92 {G : Gx} {Q : Bool → Ix → Lx → Prop} {P24 : Int32 → Int32 → Int32 → Ix → Lx → Prop} (hP24 : ∀ (v1 : Int32) (v2 : Int32) (v3 : Int32) (I : Ix) (L : Lx), P24 v1 v2 v3 I L → Ef G MX5_seek (qZ Q) 24 [(0, .ref 80), (1, .int v1), (2, .int v2), (3, .int v3)] [] I L) {v1 : Int32} {v3 : Int32} {I : Ix} {L : Lx} (h : wpX5_seek_b92 Q P24 v1 v3 I L) : Ef G MX5_seek (qZ Q) 92 [(0, .ref 80), (1, .int v1), (3, .int v3)] [] I L := by
  unfold wpX5_seek_b92 at h
  refine Ev.aload_n (k := 0) (pc' := 93) dX5_seek_92 rfl rfl rfl ?_
  refine Ef.callVZ [] [] (pc' := 96) dX5_seek_93 rfl cv_RX5_73_X5_goOn ⟨Nat.le_of_ble_eq_true rfl, Nat.le_of_ble_eq_true rfl⟩ ob_80 rfl rfl rfl (Nat.le_of_ble_eq_true rfl) (okX5_goOn h) (fun r3 I1 L2 h => ?_)
  refine Ev.istore_n (ls' := [(2, .int _), (0, .ref _), (1, .int _), (3, .int _)]) (pc' := 97) dX5_seek_96 rfl rfl (Nat.le_of_ble_eq_true rfl) rfl ?_
  refine Ev.iinc (k := 3) (v := _) (ls' := [(3, .int _), (2, .int _), (0, .ref _), (1, .int _)]) (pc' := 100) dX5_seek_97 rfl rfl (congrArg (_ + ·) ki_1) (Nat.le_of_ble_eq_true rfl) rfl ?_
  refine Ev.goto (tgt := 24) dX5_seek_100 rfl ?_
  exact Ev.sub [2, 3, 1, 0] rfl (hP24 _ _ _ _ _ h)
set_option maxRecDepth 10000 in
theorem okX5_seek_l24 {G : Gx} {Q : Bool → Ix → Lx → Prop} {P24 : Int32 → Int32 → Int32 → Ix → Lx → Prop} (hP24 : ∀ (v1 : Int32) (v2 : Int32) (v3 : Int32) (I : Ix) (L : Lx), P24 v1 v2 v3 I L → Ef G MX5_seek (qZ Q) 24 [(0, .ref 80), (1, .int v1), (2, .int v2), (3, .int v3)] [] I L) {v1 : Int32} {v2 : Int32} {v3 : Int32} {I : Ix} {L : Lx} (h : wpX5_seek_l24 Q P24 v1 v2 v3 I L) : Ef G MX5_seek (qZ Q) 24 [(0, .ref 80), (1, .int v1), (2, .int v2), (3, .int v3)] [] I L := by
  unfold wpX5_seek_l24 at h
  refine Ev.iload_n (k := 3) (pc' := 25) dX5_seek_24 rfl rfl rfl ?_
  refine Ev.sipush (pc' := 28) dX5_seek_25 rfl ks_20000 ?_
  refine Ev.icmp_ge (pc' := 31) (tgt := 103) dX5_seek_28 rfl rfl (fun hc => ?_) (fun hc => ?_)
  · have h := h.1 hc
    refine Ev.iconst (pc' := 104) dX5_seek_103 rfl ki_0 ?_
    exact Ef.zret (b := false) dX5_seek_104 rfl h
  · have h := h.2 hc
    refine Ev.iload_n (k := 2) (pc' := 32) dX5_seek_31 rfl rfl rfl ?_
    refine Ev.if_eq (pc' := 35) (tgt := 103) dX5_seek_32 rfl rfl (fun hc => ?_) (fun hc => ?_)
    · have h := h.1 hc
      refine Ev.iconst (pc' := 104) dX5_seek_103 rfl ki_0 ?_
      exact Ef.zret (b := false) dX5_seek_104 rfl h
    · have h := h.2 hc
      refine Ev.aload_n (k := 0) (pc' := 36) dX5_seek_35 rfl rfl rfl ?_
      refine Ef.callVZ [] [] (pc' := 39) dX5_seek_36 rfl cv_RX5_53_X5_isAtRest ⟨Nat.le_of_ble_eq_true rfl, Nat.le_of_ble_eq_true rfl⟩ ob_80 rfl rfl rfl (Nat.le_of_ble_eq_true rfl) (okX5_isAtRest h) (fun r3 I1 L2 h => ?_)
      refine Ef.ifz_eq (pc' := 42) (tgt := 92) dX5_seek_39 rfl rfl (fun hc => ?_) (fun hc => ?_)
      · have h := h.1 hc
        exact Ev.sub [0, 1, 3] rfl (okX5_seek_b92 hP24 h)
      · have h := h.2 hc
        refine Ev.aload_n (k := 0) (pc' := 43) dX5_seek_42 rfl rfl rfl ?_
        refine Ev.getI (pc' := 46) dX5_seek_43 rfl fa_RX5_41 ob_80 fk_5_6 ?_
        refine Ev.iload_n (k := 1) (pc' := 47) dX5_seek_46 rfl rfl rfl ?_
        refine Ev.icmp_ne (pc' := 50) (tgt := 52) dX5_seek_47 rfl rfl (fun hc => ?_) (fun hc => ?_)
        · have h := h.1 hc
          refine Ev.aload_n (k := 0) (pc' := 53) dX5_seek_52 rfl rfl rfl ?_
          refine Ev.dup (pc' := 54) dX5_seek_53 rfl rfl ?_
          refine Ev.getI (pc' := 57) dX5_seek_54 rfl fa_RX5_41 ob_80 fk_5_6 ?_
          refine Ev.iconst (pc' := 58) dX5_seek_57 rfl ki_1 ?_
          refine Ev.iadd (pc' := 59) dX5_seek_58 rfl ?_
          refine Ev.putI (pc' := 62) dX5_seek_59 rfl fa_RX5_41 ob_80 fk_5_6 rfl rfl (fun I4 eI4 => ?_)
          have h := h I4 eI4
          refine Ev.aload_n (k := 0) (pc' := 63) dX5_seek_62 rfl rfl rfl ?_
          refine Ev.aload_n (k := 0) (pc' := 64) dX5_seek_63 rfl rfl rfl ?_
          refine Ev.getI (pc' := 67) dX5_seek_64 rfl fa_RX5_44 ob_80 fk_5_7 ?_
          refine Ev.aload_n (k := 0) (pc' := 68) dX5_seek_67 rfl rfl rfl ?_
          refine Ef.callVI [] [.int _, .ref _] (pc' := 71) dX5_seek_68 rfl cv_RX5_57_X5_payOfAll ⟨Nat.le_of_ble_eq_true rfl, Nat.le_of_ble_eq_true rfl⟩ ob_80 rfl rfl rfl (Nat.le_of_ble_eq_true rfl) (okX5_payOfAll h) (fun r7 I5 L6 h => ?_)
          refine Ev.mmax (pc' := 74) dX5_seek_71 rfl ml_RX5_61 mmax_w (Nat.le_of_ble_eq_true rfl) (Nat.le_of_ble_eq_true rfl) ?_
          refine Ev.putI (pc' := 77) dX5_seek_74 rfl fa_RX5_44 ob_80 fk_5_7 rfl rfl (fun I8 eI8 => ?_)
          have h := h I8 eI8
          refine Ev.aload_n (k := 0) (pc' := 78) dX5_seek_77 rfl rfl rfl ?_
          refine Ev.aload_n (k := 0) (pc' := 79) dX5_seek_78 rfl rfl rfl ?_
          refine Ev.getI (pc' := 82) dX5_seek_79 rfl fa_RX5_47 ob_80 fk_5_8 ?_
          refine Ev.aload_n (k := 0) (pc' := 83) dX5_seek_82 rfl rfl rfl ?_
          refine Ef.callVI [] [.int _, .ref _] (pc' := 86) dX5_seek_83 rfl cv_RX5_67_X5_lost ⟨Nat.le_of_ble_eq_true rfl, Nat.le_of_ble_eq_true rfl⟩ ob_80 rfl rfl rfl (Nat.le_of_ble_eq_true rfl) (okX5_lost h) (fun r11 I9 L10 h => ?_)
          refine Ev.mmin (pc' := 89) dX5_seek_86 rfl ml_RX5_70 mmin_w (Nat.le_of_ble_eq_true rfl) (Nat.le_of_ble_eq_true rfl) ?_
          refine Ev.putI (pc' := 92) dX5_seek_89 rfl fa_RX5_47 ob_80 fk_5_8 rfl rfl (fun I12 eI12 => ?_)
          have h := h I12 eI12
          exact Ev.sub [0, 1, 3] rfl (okX5_seek_b92 hP24 h)
        · have h := h.2 hc
          refine Ev.iconst (pc' := 51) dX5_seek_50 rfl ki_1 ?_
          exact Ef.zret (b := true) dX5_seek_51 rfl h
set_option maxRecDepth 10000 in
theorem okX5_seek_h24 {G : Gx} {Q : Bool → Ix → Lx → Prop} {v1 : Int32} {v2 : Int32} {v3 : Int32} {I : Ix} {L : Lx} (h : wpX5_seek_h24 Q v1 v2 v3 I L) : Ef G MX5_seek (qZ Q) 24 [(0, .ref 80), (1, .int v1), (2, .int v2), (3, .int v3)] [] I L := by
  unfold wpX5_seek_h24 at h
  refine Lfp.ind (P := fun z => Ef G MX5_seek (qZ Q) 24 [(0, .ref 80), (1, .int z.1), (2, .int z.2.1), (3, .int z.2.2.1)] [] z.2.2.2.1 z.2.2.2.2) ?_ h
  intro z P' hP' h
  obtain ⟨v1, v2, v3, I, L⟩ := z
  exact okX5_seek_l24 (fun v1 v2 v3 I L h9 => hP' (v1, v2, v3, I, L) h9) h
set_option maxRecDepth 10000 in
theorem okX5_seek {G : Gx} {a1 : Int32} {I : Ix} {L : Lx} {Q : Bool → Ix → Lx → Prop} (h : wpX5_seek a1 I L Q) : Mf G MX5_seek [.ref 80, .int a1] I L (qZ Q) := by
  unfold wpX5_seek at h
  refine Mf.of pn_RX5 (Nat.le_of_ble_eq_true rfl) ?_
  refine Ev.aload_n (k := 0) (pc' := 1) dX5_seek_0 rfl rfl rfl ?_
  refine Ev.iconst (pc' := 2) dX5_seek_1 rfl ki_0 ?_
  refine Ev.putI (pc' := 5) dX5_seek_2 rfl fa_RX5_41 ob_80 fk_5_6 rfl rfl (fun I1 eI1 => ?_)
  have h := h I1 eI1
  refine Ev.aload_n (k := 0) (pc' := 6) dX5_seek_5 rfl rfl rfl ?_
  refine Ev.iconst (pc' := 7) dX5_seek_6 rfl ki_0 ?_
  refine Ev.putI (pc' := 10) dX5_seek_7 rfl fa_RX5_44 ob_80 fk_5_7 rfl rfl (fun I2 eI2 => ?_)
  have h := h I2 eI2
  refine Ev.aload_n (k := 0) (pc' := 11) dX5_seek_10 rfl rfl rfl ?_
  refine Ev.bipush (pc' := 13) dX5_seek_11 rfl kb_6 ?_
  refine Ev.putI (pc' := 16) dX5_seek_13 rfl fa_RX5_47 ob_80 fk_5_8 rfl rfl (fun I3 eI3 => ?_)
  have h := h I3 eI3
  refine Ev.aload_n (k := 0) (pc' := 17) dX5_seek_16 rfl rfl rfl ?_
  refine Ef.callVV [] [] (pc' := 20) dX5_seek_17 rfl cv_RX5_50_X5_listChoices ⟨Nat.le_of_ble_eq_true rfl, Nat.le_of_ble_eq_true rfl⟩ ob_80 rfl rfl rfl (Nat.le_of_ble_eq_true rfl) (okX5_listChoices h) (fun I4 L5 h => ?_)
  refine Ev.iconst (pc' := 21) dX5_seek_20 rfl ki_1 ?_
  refine Ev.istore_n (ls' := [(2, .int _), (0, .ref _), (1, .int _)]) (pc' := 22) dX5_seek_21 rfl rfl (Nat.le_of_ble_eq_true rfl) rfl ?_
  refine Ev.iconst (pc' := 23) dX5_seek_22 rfl ki_0 ?_
  refine Ev.istore_n (ls' := [(3, .int _), (2, .int _), (0, .ref _), (1, .int _)]) (pc' := 24) dX5_seek_23 rfl rfl (Nat.le_of_ble_eq_true rfl) rfl ?_
  exact Ev.sub [2, 3, 1, 0] rfl (okX5_seek_h24 h)
