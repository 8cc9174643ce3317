def wpX3_lawLine_b100 (Q : Bool → Ix → Lx → Prop) (I : Ix) (L : Lx) : Prop := wpX8_step I L (fun I1 L2 => wpX3_sign 59 I1 L2 (fun r5 I3 L4 => Q r5 I3 L4))
def wpX3_lawLine (I : Ix) (L : Lx) (Q : Bool → Ix → Lx → Prop) : Prop := ((I 49 4) = 0 → ∀ I1 : Ix, I1 = pu I 49 4 1 → wpX8_step I1 L (fun I2 L3 => wpX8_isWord 25 I2 L3 (fun r6 I4 L5 => (r6 = false → wpX8_isWord 9 I4 L5 (fun r9 I7 L8 => (r9 = false → wpX8_isWord 26 I7 L8 (fun r12 I10 L11 => (r12 = false → wpX3_refuse 2 I10 L11 (fun r15 I13 L14 => Q r15 I13 L14)) ∧ (r12 = true → ∀ I16 : Ix, I16 = pu I10 26 4 2 → wpX3_lawLine_b100 Q I16 L11))) ∧ (r9 = true → ∀ I17 : Ix, I17 = pu I7 26 4 1 → wpX3_lawLine_b100 Q I17 L8))) ∧ (r6 = true → ∀ I18 : Ix, I18 = pu I4 26 4 0 → wpX3_lawLine_b100 Q I18 L5)))) ∧ (¬ (I 49 4) = 0 → wpX3_refuse 2 I L (fun r21 I19 L20 => Q r21 I19 L20))
set_option maxRecDepth 10000 in
theorem okX3_lawLine_b100 {G : Gx} {Q : Bool → Ix → Lx → Prop} {I : Ix} {L : Lx} (h : wpX3_lawLine_b100 Q I L) : Ef G MX3_lawLine (qZ Q) 100 [(0, .ref 49)] [] I L := by
  unfold wpX3_lawLine_b100 at h
  refine Ev.aload_n (k := 0) (pc' := 101) dX3_lawLine_100 rfl rfl rfl ?_
  refine Ev.getR (pc' := 104) dX3_lawLine_101 rfl fa_RX3_24 ob_49 fk_3_0 rf_49_0 ?_
  refine Ef.callVV [] [] (pc' := 107) dX3_lawLine_104 rfl cv_RX3_103_X8_step ⟨Nat.le_of_ble_eq_true rfl, Nat.le_of_ble_eq_true rfl⟩ ob_51 rfl rfl rfl (Nat.le_of_ble_eq_true rfl) (okX8_step h) (fun I1 L2 h => ?_)
  refine Ev.aload_n (k := 0) (pc' := 108) dX3_lawLine_107 rfl rfl rfl ?_
  refine Ev.bipush (pc' := 110) dX3_lawLine_108 rfl kb_59 ?_
  refine Ef.callVZ [.int _] [] (pc' := 113) dX3_lawLine_110 rfl cv_RX3_121_X3_sign ⟨Nat.le_of_ble_eq_true rfl, Nat.le_of_ble_eq_true rfl⟩ ob_49 rfl rfl rfl (Nat.le_of_ble_eq_true rfl) (okX3_sign h) (fun r5 I3 L4 h => ?_)
  exact Ef.zret dX3_lawLine_113 rfl h
set_option maxRecDepth 10000 in
theorem okX3_lawLine {G : Gx} {I : Ix} {L : Lx} {Q : Bool → Ix → Lx → Prop} (h : wpX3_lawLine I L Q) : Mf G MX3_lawLine [.ref 49] I L (qZ Q) := by
  unfold wpX3_lawLine at h
  refine Mf.of pn_RX3 (Nat.le_of_ble_eq_true rfl) ?_
  refine Ev.aload_n (k := 0) (pc' := 1) dX3_lawLine_0 rfl rfl rfl ?_
  refine Ev.getI (pc' := 4) dX3_lawLine_1 rfl fa_RX3_47 ob_49 fk_3_4 ?_
  refine Ev.if_eq (pc' := 7) (tgt := 13) dX3_lawLine_4 rfl rfl (fun hc => ?_) (fun hc => ?_)
  · have h := h.1 hc
    refine Ev.aload_n (k := 0) (pc' := 14) dX3_lawLine_13 rfl rfl rfl ?_
    refine Ev.iconst (pc' := 15) dX3_lawLine_14 rfl ki_1 ?_
    refine Ev.putI (pc' := 18) dX3_lawLine_15 rfl fa_RX3_47 ob_49 fk_3_4 rfl rfl (fun I1 eI1 => ?_)
    have h := h I1 eI1
    refine Ev.aload_n (k := 0) (pc' := 19) dX3_lawLine_18 rfl rfl rfl ?_
    refine Ev.getR (pc' := 22) dX3_lawLine_19 rfl fa_RX3_24 ob_49 fk_3_0 rf_49_0 ?_
    refine Ef.callVV [] [] (pc' := 25) dX3_lawLine_22 rfl cv_RX3_103_X8_step ⟨Nat.le_of_ble_eq_true rfl, Nat.le_of_ble_eq_true rfl⟩ ob_51 rfl rfl rfl (Nat.le_of_ble_eq_true rfl) (okX8_step h) (fun I2 L3 h => ?_)
    refine Ev.aload_n (k := 0) (pc' := 26) dX3_lawLine_25 rfl rfl rfl ?_
    refine Ev.getR (pc' := 29) dX3_lawLine_26 rfl fa_RX3_24 ob_49 fk_3_0 rf_49_0 ?_
    refine Ev.bipush (pc' := 31) dX3_lawLine_29 rfl kb_25 ?_
    refine Ef.callVZ [.int _] [] (pc' := 34) dX3_lawLine_31 rfl cv_RX3_165_X8_isWord ⟨Nat.le_of_ble_eq_true rfl, Nat.le_of_ble_eq_true rfl⟩ ob_51 rfl rfl rfl (Nat.le_of_ble_eq_true rfl) (okX8_isWord h) (fun r6 I4 L5 h => ?_)
    refine Ef.ifz_eq (pc' := 37) (tgt := 48) dX3_lawLine_34 rfl rfl (fun hc => ?_) (fun hc => ?_)
    · have h := h.1 hc
      refine Ev.aload_n (k := 0) (pc' := 49) dX3_lawLine_48 rfl rfl rfl ?_
      refine Ev.getR (pc' := 52) dX3_lawLine_49 rfl fa_RX3_24 ob_49 fk_3_0 rf_49_0 ?_
      refine Ev.bipush (pc' := 54) dX3_lawLine_52 rfl kb_9 ?_
      refine Ef.callVZ [.int _] [] (pc' := 57) dX3_lawLine_54 rfl cv_RX3_165_X8_isWord ⟨Nat.le_of_ble_eq_true rfl, Nat.le_of_ble_eq_true rfl⟩ ob_51 rfl rfl rfl (Nat.le_of_ble_eq_true rfl) (okX8_isWord h) (fun r9 I7 L8 h => ?_)
      refine Ef.ifz_eq (pc' := 60) (tgt := 71) dX3_lawLine_57 rfl rfl (fun hc => ?_) (fun hc => ?_)
      · have h := h.1 hc
        refine Ev.aload_n (k := 0) (pc' := 72) dX3_lawLine_71 rfl rfl rfl ?_
        refine Ev.getR (pc' := 75) dX3_lawLine_72 rfl fa_RX3_24 ob_49 fk_3_0 rf_49_0 ?_
        refine Ev.bipush (pc' := 77) dX3_lawLine_75 rfl kb_26 ?_
        refine Ef.callVZ [.int _] [] (pc' := 80) dX3_lawLine_77 rfl cv_RX3_165_X8_isWord ⟨Nat.le_of_ble_eq_true rfl, Nat.le_of_ble_eq_true rfl⟩ ob_51 rfl rfl rfl (Nat.le_of_ble_eq_true rfl) (okX8_isWord h) (fun r12 I10 L11 h => ?_)
        refine Ef.ifz_eq (pc' := 83) (tgt := 94) dX3_lawLine_80 rfl rfl (fun hc => ?_) (fun hc => ?_)
        · have h := h.1 hc
          refine Ev.aload_n (k := 0) (pc' := 95) dX3_lawLine_94 rfl rfl rfl ?_
          refine Ev.iconst (pc' := 96) dX3_lawLine_95 rfl ki_2 ?_
          refine Ef.callVZ [.int _] [] (pc' := 99) dX3_lawLine_96 rfl cv_RX3_75_X3_refuse ⟨Nat.le_of_ble_eq_true rfl, Nat.le_of_ble_eq_true rfl⟩ ob_49 rfl rfl rfl (Nat.le_of_ble_eq_true rfl) (okX3_refuse h) (fun r15 I13 L14 h => ?_)
          exact Ef.zret dX3_lawLine_99 rfl h
        · have h := h.2 hc
          refine Ev.aload_n (k := 0) (pc' := 84) dX3_lawLine_83 rfl rfl rfl ?_
          refine Ev.getR (pc' := 87) dX3_lawLine_84 rfl fa_RX3_28 ob_49 fk_3_1 rf_49_1 ?_
          refine Ev.iconst (pc' := 88) dX3_lawLine_87 rfl ki_2 ?_
          refine Ev.putI (pc' := 91) dX3_lawLine_88 rfl fa_RX3_203 ob_26 fk_10_4 rfl rfl (fun I16 eI16 => ?_)
          have h := h I16 eI16
          refine Ev.goto (tgt := 100) dX3_lawLine_91 rfl ?_
          exact okX3_lawLine_b100 h
      · have h := h.2 hc
        refine Ev.aload_n (k := 0) (pc' := 61) dX3_lawLine_60 rfl rfl rfl ?_
        refine Ev.getR (pc' := 64) dX3_lawLine_61 rfl fa_RX3_28 ob_49 fk_3_1 rf_49_1 ?_
        refine Ev.iconst (pc' := 65) dX3_lawLine_64 rfl ki_1 ?_
        refine Ev.putI (pc' := 68) dX3_lawLine_65 rfl fa_RX3_203 ob_26 fk_10_4 rfl rfl (fun I17 eI17 => ?_)
        have h := h I17 eI17
        refine Ev.goto (tgt := 100) dX3_lawLine_68 rfl ?_
        exact okX3_lawLine_b100 h
    · have h := h.2 hc
      refine Ev.aload_n (k := 0) (pc' := 38) dX3_lawLine_37 rfl rfl rfl ?_
      refine Ev.getR (pc' := 41) dX3_lawLine_38 rfl fa_RX3_28 ob_49 fk_3_1 rf_49_1 ?_
      refine Ev.iconst (pc' := 42) dX3_lawLine_41 rfl ki_0 ?_
      refine Ev.putI (pc' := 45) dX3_lawLine_42 rfl fa_RX3_203 ob_26 fk_10_4 rfl rfl (fun I18 eI18 => ?_)
      have h := h I18 eI18
      refine Ev.goto (tgt := 100) dX3_lawLine_45 rfl ?_
      exact okX3_lawLine_b100 h
  · have h := h.2 hc
    refine Ev.aload_n (k := 0) (pc' := 8) dX3_lawLine_7 rfl rfl rfl ?_
    refine Ev.iconst (pc' := 9) dX3_lawLine_8 rfl ki_2 ?_
    refine Ef.callVZ [.int _] [] (pc' := 12) dX3_lawLine_9 rfl cv_RX3_75_X3_refuse ⟨Nat.le_of_ble_eq_true rfl, Nat.le_of_ble_eq_true rfl⟩ ob_49 rfl rfl rfl (Nat.le_of_ble_eq_true rfl) (okX3_refuse h) (fun r21 I19 L20 h => ?_)
    exact Ef.zret dX3_lawLine_12 rfl h
def wpX3_lateLine (I : Ix) (L : Lx) (Q : Bool → Ix → Lx → Prop) : Prop := ((I 49 5) = 0 → ∀ I1 : Ix, I1 = pu I 49 5 1 → wpX3_number 50 1 0 27 0 100 I1 L (fun r4 I2 L3 => (r4 = true → ∀ I5 : Ix, I5 = pu I2 26 5 (I2 50 0) → wpX3_sign 59 I5 L3 (fun r8 I6 L7 => Q r8 I6 L7)) ∧ (r4 = false → Q false I2 L3))) ∧ (¬ (I 49 5) = 0 → wpX3_refuse 2 I L (fun r11 I9 L10 => Q r11 I9 L10))
set_option maxRecDepth 10000 in
theorem okX3_lateLine {G : Gx} {I : Ix} {L : Lx} {Q : Bool → Ix → Lx → Prop} (h : wpX3_lateLine I L Q) : Mf G MX3_lateLine [.ref 49] I L (qZ Q) := by
  unfold wpX3_lateLine at h
  refine Mf.of pn_RX3 (Nat.le_of_ble_eq_true rfl) ?_
  refine Ev.aload_n (k := 0) (pc' := 1) dX3_lateLine_0 rfl rfl rfl ?_
  refine Ev.getI (pc' := 4) dX3_lateLine_1 rfl fa_RX3_51 ob_49 fk_3_5 ?_
  refine Ev.if_eq (pc' := 7) (tgt := 13) dX3_lateLine_4 rfl rfl (fun hc => ?_) (fun hc => ?_)
  · have h := h.1 hc
    refine Ev.aload_n (k := 0) (pc' := 14) dX3_lateLine_13 rfl rfl rfl ?_
    refine Ev.iconst (pc' := 15) dX3_lateLine_14 rfl ki_1 ?_
    refine Ev.putI (pc' := 18) dX3_lateLine_15 rfl fa_RX3_51 ob_49 fk_3_5 rfl rfl (fun I1 eI1 => ?_)
    have h := h I1 eI1
    refine Ev.aload_n (k := 0) (pc' := 19) dX3_lateLine_18 rfl rfl rfl ?_
    refine Ev.aload_n (k := 0) (pc' := 20) dX3_lateLine_19 rfl rfl rfl ?_
    refine Ev.getR (pc' := 23) dX3_lateLine_20 rfl fa_RX3_9 ob_49 fk_3_6 rf_49_6 ?_
    refine Ev.iconst (pc' := 24) dX3_lateLine_23 rfl ki_0 ?_
    refine Ev.bipush (pc' := 26) dX3_lateLine_24 rfl kb_27 ?_
    refine Ev.iconst (pc' := 27) dX3_lateLine_26 rfl ki_0 ?_
    refine Ev.bipush (pc' := 29) dX3_lateLine_27 rfl kb_100 ?_
    refine Ef.callVZ [.ref _, .int _, .int _, .int _, .int _] [] (pc' := 32) dX3_lateLine_29 rfl cv_RX3_117_X3_number ⟨Nat.le_of_ble_eq_true rfl, Nat.le_of_ble_eq_true rfl⟩ ob_49 rfl rfl rfl (Nat.le_of_ble_eq_true rfl) (okX3_number ar_50 h) (fun r4 I2 L3 h => ?_)
    refine Ef.ifz_ne (pc' := 35) (tgt := 37) dX3_lateLine_32 rfl rfl (fun hc => ?_) (fun hc => ?_)
    · have h := h.1 hc
      refine Ev.aload_n (k := 0) (pc' := 38) dX3_lateLine_37 rfl rfl rfl ?_
      refine Ev.getR (pc' := 41) dX3_lateLine_38 rfl fa_RX3_28 ob_49 fk_3_1 rf_49_1 ?_
      refine Ev.aload_n (k := 0) (pc' := 42) dX3_lateLine_41 rfl rfl rfl ?_
      refine Ev.getR (pc' := 45) dX3_lateLine_42 rfl fa_RX3_9 ob_49 fk_3_6 rf_49_6 ?_
      refine Ev.iconst (pc' := 46) dX3_lateLine_45 rfl ki_0 ?_
      refine Ev.iaload (j := 0) (pc' := 47) dX3_lateLine_46 rfl ar_50 (vpl rfl) rfl ?_
      refine Ev.putI (pc' := 50) dX3_lateLine_47 rfl fa_RX3_206 ob_26 fk_10_5 rfl rfl (fun I5 eI5 => ?_)
      have h := h I5 eI5
      refine Ev.aload_n (k := 0) (pc' := 51) dX3_lateLine_50 rfl rfl rfl ?_
      refine Ev.bipush (pc' := 53) dX3_lateLine_51 rfl kb_59 ?_
      refine Ef.callVZ [.int _] [] (pc' := 56) dX3_lateLine_53 rfl cv_RX3_121_X3_sign ⟨Nat.le_of_ble_eq_true rfl, Nat.le_of_ble_eq_true rfl⟩ ob_49 rfl rfl rfl (Nat.le_of_ble_eq_true rfl) (okX3_sign h) (fun r8 I6 L7 h => ?_)
      exact Ef.zret dX3_lateLine_56 rfl h
    · have h := h.2 hc
      refine Ev.iconst (pc' := 36) dX3_lateLine_35 rfl ki_0 ?_
      exact Ef.zret (b := false) dX3_lateLine_36 rfl h
  · have h := h.2 hc
    refine Ev.aload_n (k := 0) (pc' := 8) dX3_lateLine_7 rfl rfl rfl ?_
    refine Ev.iconst (pc' := 9) dX3_lateLine_8 rfl ki_2 ?_
    refine Ef.callVZ [.int _] [] (pc' := 12) dX3_lateLine_9 rfl cv_RX3_75_X3_refuse ⟨Nat.le_of_ble_eq_true rfl, Nat.le_of_ble_eq_true rfl⟩ ob_49 rfl rfl rfl (Nat.le_of_ble_eq_true rfl) (okX3_refuse h) (fun r11 I9 L10 h => ?_)
    exact Ef.zret dX3_lateLine_12 rfl h
def wpX3_line (I : Ix) (L : Lx) (Q : Bool → Ix → Lx → Prop) : Prop := ((I 51 3) = 2 → ((I 51 5) = 14 → wpX3_placeLine I L (fun r3 I1 L2 => Q r3 I1 L2)) ∧ ((I 51 5) = 15 → wpX3_roadLine I L (fun r6 I4 L5 => Q r6 I4 L5)) ∧ ((I 51 5) = 17 → wpX3_thingLine I L (fun r9 I7 L8 => Q r9 I7 L8)) ∧ ((I 51 5) = 21 → wpX3_personLine I L (fun r12 I10 L11 => Q r12 I10 L11)) ∧ ((I 51 5) = 24 → wpX3_lawLine I L (fun r15 I13 L14 => Q r15 I13 L14)) ∧ ((I 51 5) = 27 → wpX3_lateLine I L (fun r18 I16 L17 => Q r18 I16 L17)) ∧ (¬ (I 51 5) = 14 → ¬ (I 51 5) = 15 → ¬ (I 51 5) = 17 → ¬ (I 51 5) = 21 → ¬ (I 51 5) = 24 → ¬ (I 51 5) = 27 → wpX3_refuse 2 I L (fun r21 I19 L20 => Q r21 I19 L20))) ∧ (¬ (I 51 3) = 2 → wpX3_refuse 2 I L (fun r24 I22 L23 => Q r24 I22 L23))
set_option maxRecDepth 10000 in
theorem okX3_line {G : Gx} {I : Ix} {L : Lx} {Q : Bool → Ix → Lx → Prop} (h : wpX3_line I L Q) : Mf G MX3_line [.ref 49] I L (qZ Q) := by
  unfold wpX3_line at h
  refine Mf.of pn_RX3 (Nat.le_of_ble_eq_true rfl) ?_
  refine Ev.aload_n (k := 0) (pc' := 1) dX3_line_0 rfl rfl rfl ?_
  refine Ev.getR (pc' := 4) dX3_line_1 rfl fa_RX3_24 ob_49 fk_3_0 rf_49_0 ?_
  refine Ev.getI (pc' := 7) dX3_line_4 rfl fa_RX3_60 ob_51 fk_8_3 ?_
  refine Ev.iconst (pc' := 8) dX3_line_7 rfl ki_2 ?_
  refine Ev.icmp_eq (pc' := 11) (tgt := 17) dX3_line_8 rfl rfl (fun hc => ?_) (fun hc => ?_)
  · have h := h.1 hc
    refine Ev.aload_n (k := 0) (pc' := 18) dX3_line_17 rfl rfl rfl ?_
    refine Ev.getR (pc' := 21) dX3_line_18 rfl fa_RX3_24 ob_49 fk_3_0 rf_49_0 ?_
    refine Ev.getI (pc' := 24) dX3_line_21 rfl fa_RX3_79 ob_51 fk_8_5 ?_
    by_cases e0 : (I 51 5) = 14
    · refine Ev.tableIn (off := 72) (tgt := 96) dX3_line_24 (by rw [e0]; decide) (by rw [e0]; decide) (by rw [e0]; decide) rfl ?_
      have h := h.1 e0
      refine Ev.aload_n (k := 0) (pc' := 97) dX3_line_96 rfl rfl rfl ?_
      refine Ef.callVZ [] [] (pc' := 100) dX3_line_97 rfl cv_RX3_82_X3_placeLine ⟨Nat.le_of_ble_eq_true rfl, Nat.le_of_ble_eq_true rfl⟩ ob_49 rfl rfl rfl (Nat.le_of_ble_eq_true rfl) (okX3_placeLine h) (fun r3 I1 L2 h => ?_)
      exact Ef.zret dX3_line_100 rfl h
    by_cases e1 : (I 51 5) = 15
    · refine Ev.tableIn (off := 77) (tgt := 101) dX3_line_24 (by rw [e1]; decide) (by rw [e1]; decide) (by rw [e1]; decide) rfl ?_
      have h := h.2.1 e1
      refine Ev.aload_n (k := 0) (pc' := 102) dX3_line_101 rfl rfl rfl ?_
      refine Ef.callVZ [] [] (pc' := 105) dX3_line_102 rfl cv_RX3_85_X3_roadLine ⟨Nat.le_of_ble_eq_true rfl, Nat.le_of_ble_eq_true rfl⟩ ob_49 rfl rfl rfl (Nat.le_of_ble_eq_true rfl) (okX3_roadLine h) (fun r6 I4 L5 h => ?_)
      exact Ef.zret dX3_line_105 rfl h
    by_cases e2 : (I 51 5) = 17
    · refine Ev.tableIn (off := 82) (tgt := 106) dX3_line_24 (by rw [e2]; decide) (by rw [e2]; decide) (by rw [e2]; decide) rfl ?_
      have h := h.2.2.1 e2
      refine Ev.aload_n (k := 0) (pc' := 107) dX3_line_106 rfl rfl rfl ?_
      refine Ef.callVZ [] [] (pc' := 110) dX3_line_107 rfl cv_RX3_88_X3_thingLine ⟨Nat.le_of_ble_eq_true rfl, Nat.le_of_ble_eq_true rfl⟩ ob_49 rfl rfl rfl (Nat.le_of_ble_eq_true rfl) (okX3_thingLine h) (fun r9 I7 L8 h => ?_)
      exact Ef.zret dX3_line_110 rfl h
    by_cases e3 : (I 51 5) = 21
    · refine Ev.tableIn (off := 87) (tgt := 111) dX3_line_24 (by rw [e3]; decide) (by rw [e3]; decide) (by rw [e3]; decide) rfl ?_
      have h := h.2.2.2.1 e3
      refine Ev.aload_n (k := 0) (pc' := 112) dX3_line_111 rfl rfl rfl ?_
      refine Ef.callVZ [] [] (pc' := 115) dX3_line_112 rfl cv_RX3_91_X3_personLine ⟨Nat.le_of_ble_eq_true rfl, Nat.le_of_ble_eq_true rfl⟩ ob_49 rfl rfl rfl (Nat.le_of_ble_eq_true rfl) (okX3_personLine h) (fun r12 I10 L11 h => ?_)
      exact Ef.zret dX3_line_115 rfl h
    by_cases e4 : (I 51 5) = 24
    · refine Ev.tableIn (off := 92) (tgt := 116) dX3_line_24 (by rw [e4]; decide) (by rw [e4]; decide) (by rw [e4]; decide) rfl ?_
      have h := h.2.2.2.2.1 e4
      refine Ev.aload_n (k := 0) (pc' := 117) dX3_line_116 rfl rfl rfl ?_
      refine Ef.callVZ [] [] (pc' := 120) dX3_line_117 rfl cv_RX3_94_X3_lawLine ⟨Nat.le_of_ble_eq_true rfl, Nat.le_of_ble_eq_true rfl⟩ ob_49 rfl rfl rfl (Nat.le_of_ble_eq_true rfl) (okX3_lawLine h) (fun r15 I13 L14 h => ?_)
      exact Ef.zret dX3_line_120 rfl h
    by_cases e5 : (I 51 5) = 27
    · refine Ev.tableIn (off := 97) (tgt := 121) dX3_line_24 (by rw [e5]; decide) (by rw [e5]; decide) (by rw [e5]; decide) rfl ?_
      have h := h.2.2.2.2.2.1 e5
      refine Ev.aload_n (k := 0) (pc' := 122) dX3_line_121 rfl rfl rfl ?_
      refine Ef.callVZ [] [] (pc' := 125) dX3_line_122 rfl cv_RX3_97_X3_lateLine ⟨Nat.le_of_ble_eq_true rfl, Nat.le_of_ble_eq_true rfl⟩ ob_49 rfl rfl rfl (Nat.le_of_ble_eq_true rfl) (okX3_lateLine h) (fun r18 I16 L17 h => ?_)
      exact Ef.zret dX3_line_125 rfl h
    have h := h.2.2.2.2.2.2 e0 e1 e2 e3 e4 e5
    by_cases f0 : (I 51 5) = 16
    · refine Ev.tableIn (off := 102) (tgt := 126) dX3_line_24 (by rw [f0]; decide) (by rw [f0]; decide) (by rw [f0]; decide) rfl ?_
      refine Ev.aload_n (k := 0) (pc' := 127) dX3_line_126 rfl rfl rfl ?_
      refine Ev.iconst (pc' := 128) dX3_line_127 rfl ki_2 ?_
      refine Ef.callVZ [.int _] [] (pc' := 131) dX3_line_128 rfl cv_RX3_75_X3_refuse ⟨Nat.le_of_ble_eq_true rfl, Nat.le_of_ble_eq_true rfl⟩ ob_49 rfl rfl rfl (Nat.le_of_ble_eq_true rfl) (okX3_refuse h) (fun r21 I19 L20 h => ?_)
      exact Ef.zret dX3_line_131 rfl h
    by_cases f1 : (I 51 5) = 18
    · refine Ev.tableIn (off := 102) (tgt := 126) dX3_line_24 (by rw [f1]; decide) (by rw [f1]; decide) (by rw [f1]; decide) rfl ?_
      refine Ev.aload_n (k := 0) (pc' := 127) dX3_line_126 rfl rfl rfl ?_
      refine Ev.iconst (pc' := 128) dX3_line_127 rfl ki_2 ?_
      refine Ef.callVZ [.int _] [] (pc' := 131) dX3_line_128 rfl cv_RX3_75_X3_refuse ⟨Nat.le_of_ble_eq_true rfl, Nat.le_of_ble_eq_true rfl⟩ ob_49 rfl rfl rfl (Nat.le_of_ble_eq_true rfl) (okX3_refuse h) (fun r21 I19 L20 h => ?_)
      exact Ef.zret dX3_line_131 rfl h
    by_cases f2 : (I 51 5) = 19
    · refine Ev.tableIn (off := 102) (tgt := 126) dX3_line_24 (by rw [f2]; decide) (by rw [f2]; decide) (by rw [f2]; decide) rfl ?_
      refine Ev.aload_n (k := 0) (pc' := 127) dX3_line_126 rfl rfl rfl ?_
      refine Ev.iconst (pc' := 128) dX3_line_127 rfl ki_2 ?_
      refine Ef.callVZ [.int _] [] (pc' := 131) dX3_line_128 rfl cv_RX3_75_X3_refuse ⟨Nat.le_of_ble_eq_true rfl, Nat.le_of_ble_eq_true rfl⟩ ob_49 rfl rfl rfl (Nat.le_of_ble_eq_true rfl) (okX3_refuse h) (fun r21 I19 L20 h => ?_)
      exact Ef.zret dX3_line_131 rfl h
    by_cases f3 : (I 51 5) = 20
    · refine Ev.tableIn (off := 102) (tgt := 126) dX3_line_24 (by rw [f3]; decide) (by rw [f3]; decide) (by rw [f3]; decide) rfl ?_
      refine Ev.aload_n (k := 0) (pc' := 127) dX3_line_126 rfl rfl rfl ?_
      refine Ev.iconst (pc' := 128) dX3_line_127 rfl ki_2 ?_
      refine Ef.callVZ [.int _] [] (pc' := 131) dX3_line_128 rfl cv_RX3_75_X3_refuse ⟨Nat.le_of_ble_eq_true rfl, Nat.le_of_ble_eq_true rfl⟩ ob_49 rfl rfl rfl (Nat.le_of_ble_eq_true rfl) (okX3_refuse h) (fun r21 I19 L20 h => ?_)
      exact Ef.zret dX3_line_131 rfl h
    by_cases f4 : (I 51 5) = 22
    · refine Ev.tableIn (off := 102) (tgt := 126) dX3_line_24 (by rw [f4]; decide) (by rw [f4]; decide) (by rw [f4]; decide) rfl ?_
      refine Ev.aload_n (k := 0) (pc' := 127) dX3_line_126 rfl rfl rfl ?_
      refine Ev.iconst (pc' := 128) dX3_line_127 rfl ki_2 ?_
      refine Ef.callVZ [.int _] [] (pc' := 131) dX3_line_128 rfl cv_RX3_75_X3_refuse ⟨Nat.le_of_ble_eq_true rfl, Nat.le_of_ble_eq_true rfl⟩ ob_49 rfl rfl rfl (Nat.le_of_ble_eq_true rfl) (okX3_refuse h) (fun r21 I19 L20 h => ?_)
      exact Ef.zret dX3_line_131 rfl h
    by_cases f5 : (I 51 5) = 23
    · refine Ev.tableIn (off := 102) (tgt := 126) dX3_line_24 (by rw [f5]; decide) (by rw [f5]; decide) (by rw [f5]; decide) rfl ?_
      refine Ev.aload_n (k := 0) (pc' := 127) dX3_line_126 rfl rfl rfl ?_
      refine Ev.iconst (pc' := 128) dX3_line_127 rfl ki_2 ?_
      refine Ef.callVZ [.int _] [] (pc' := 131) dX3_line_128 rfl cv_RX3_75_X3_refuse ⟨Nat.le_of_ble_eq_true rfl, Nat.le_of_ble_eq_true rfl⟩ ob_49 rfl rfl rfl (Nat.le_of_ble_eq_true rfl) (okX3_refuse h) (fun r21 I19 L20 h => ?_)
      exact Ef.zret dX3_line_131 rfl h
    by_cases f6 : (I 51 5) = 25
    · refine Ev.tableIn (off := 102) (tgt := 126) dX3_line_24 (by rw [f6]; decide) (by rw [f6]; decide) (by rw [f6]; decide) rfl ?_
      refine Ev.aload_n (k := 0) (pc' := 127) dX3_line_126 rfl rfl rfl ?_
      refine Ev.iconst (pc' := 128) dX3_line_127 rfl ki_2 ?_
      refine Ef.callVZ [.int _] [] (pc' := 131) dX3_line_128 rfl cv_RX3_75_X3_refuse ⟨Nat.le_of_ble_eq_true rfl, Nat.le_of_ble_eq_true rfl⟩ ob_49 rfl rfl rfl (Nat.le_of_ble_eq_true rfl) (okX3_refuse h) (fun r21 I19 L20 h => ?_)
      exact Ef.zret dX3_line_131 rfl h
    by_cases f7 : (I 51 5) = 26
    · refine Ev.tableIn (off := 102) (tgt := 126) dX3_line_24 (by rw [f7]; decide) (by rw [f7]; decide) (by rw [f7]; decide) rfl ?_
      refine Ev.aload_n (k := 0) (pc' := 127) dX3_line_126 rfl rfl rfl ?_
      refine Ev.iconst (pc' := 128) dX3_line_127 rfl ki_2 ?_
      refine Ef.callVZ [.int _] [] (pc' := 131) dX3_line_128 rfl cv_RX3_75_X3_refuse ⟨Nat.le_of_ble_eq_true rfl, Nat.le_of_ble_eq_true rfl⟩ ob_49 rfl rfl rfl (Nat.le_of_ble_eq_true rfl) (okX3_refuse h) (fun r21 I19 L20 h => ?_)
      exact Ef.zret dX3_line_131 rfl h
    refine Ev.tableOut (tgt := 126) dX3_line_24 (sw_out fun v h1 h2 => ?_) rfl ?_
    · have h3 : v = 14 ∨ v = 15 ∨ v = 16 ∨ v = 17 ∨ v = 18 ∨ v = 19 ∨ v = 20 ∨ v = 21 ∨ v = 22 ∨ v = 23 ∨ v = 24 ∨ v = 25 ∨ v = 26 ∨ v = 27 := by omega
      rcases h3 with rfl | rfl | rfl | rfl | rfl | rfl | rfl | rfl | rfl | rfl | rfl | rfl | rfl | rfl
      · exact fun q => e0 (q.trans (by decide))
      · exact fun q => e1 (q.trans (by decide))
      · exact fun q => f0 (q.trans (by decide))
      · exact fun q => e2 (q.trans (by decide))
      · exact fun q => f1 (q.trans (by decide))
      · exact fun q => f2 (q.trans (by decide))
      · exact fun q => f3 (q.trans (by decide))
      · exact fun q => e3 (q.trans (by decide))
      · exact fun q => f4 (q.trans (by decide))
      · exact fun q => f5 (q.trans (by decide))
      · exact fun q => e4 (q.trans (by decide))
      · exact fun q => f6 (q.trans (by decide))
      · exact fun q => f7 (q.trans (by decide))
      · exact fun q => e5 (q.trans (by decide))
    · refine Ev.aload_n (k := 0) (pc' := 127) dX3_line_126 rfl rfl rfl ?_
      refine Ev.iconst (pc' := 128) dX3_line_127 rfl ki_2 ?_
      refine Ef.callVZ [.int _] [] (pc' := 131) dX3_line_128 rfl cv_RX3_75_X3_refuse ⟨Nat.le_of_ble_eq_true rfl, Nat.le_of_ble_eq_true rfl⟩ ob_49 rfl rfl rfl (Nat.le_of_ble_eq_true rfl) (okX3_refuse h) (fun r21 I19 L20 h => ?_)
      exact Ef.zret dX3_line_131 rfl h
  · have h := h.2 hc
    refine Ev.aload_n (k := 0) (pc' := 12) dX3_line_11 rfl rfl rfl ?_
    refine Ev.iconst (pc' := 13) dX3_line_12 rfl ki_2 ?_
    refine Ef.callVZ [.int _] [] (pc' := 16) dX3_line_13 rfl cv_RX3_75_X3_refuse ⟨Nat.le_of_ble_eq_true rfl, Nat.le_of_ble_eq_true rfl⟩ ob_49 rfl rfl rfl (Nat.le_of_ble_eq_true rfl) (okX3_refuse h) (fun r24 I22 L23 h => ?_)
    exact Ef.zret dX3_line_16 rfl h
def wpX1_clear_27_b37 (Q : Ix → Lx → Prop) (P12 : Int32 → Ix → Lx → Prop) (v1 : Int32) (t1 : Int32) (t2 : Int32) (I : Ix) (L : Lx) : Prop := vp_in t1 64 ∧ ∀ I1 : Ix, I1 = pu I 31 t1.toNatClampNeg t2 → P12 (v1 + 1) I1 L
def wpX1_clear_27_l12 (Q : Ix → Lx → Prop) (P12 : Int32 → Ix → Lx → Prop) (v1 : Int32) (I : Ix) (L : Lx) : Prop := (64 ≤ v1 → Q I L) ∧ (¬ 64 ≤ v1 → (¬ (jrem v1 9) = 0 → wpX1_clear_27_b37 Q P12 v1 v1 999 I L) ∧ ((jrem v1 9) = 0 → wpX1_clear_27_b37 Q P12 v1 v1 0 I L))
def wpX1_clear_27_h12 (Q : Ix → Lx → Prop) (v1 : Int32) (I : Ix) (L : Lx) : Prop := Lfp (X := Int32 × Ix × Lx) (fun P z => wpX1_clear_27_l12 Q (fun v1 I L => P (v1, I, L)) z.1 z.2.1 z.2.2) (v1, I, L)
theorem wpX1_clear_27_h12_fold {Q : Ix → Lx → Prop} {v1 : Int32} {I : Ix} {L : Lx} (h : wpX1_clear_27_l12 Q (wpX1_clear_27_h12 Q) v1 I L) : wpX1_clear_27_h12 Q v1 I L := Lfp.fold h
def wpX1_clear_27 (I : Ix) (L : Lx) (Q : Ix → Lx → Prop) : Prop := ∀ I1 : Ix, I1 = pu I 27 0 0 → ∀ I2 : Ix, I2 = pu I1 27 1 0 → wpX1_clear_27_h12 Q 0 I2 L
set_option maxRecDepth 10000 in
theorem okX1_clear_27_b37 {G : Gx} {Q : Ix → Lx → Prop} {P12 : Int32 → Ix → Lx → Prop} (hP12 : ∀ (v1 : Int32) (I : Ix) (L : Lx), P12 v1 I L → Ef G MX1_clear_27 (qV Q) 12 [(0, .ref 27), (1, .int v1)] [] I L) {v1 : Int32} {t1 : Int32} {t2 : Int32} {I : Ix} {L : Lx} (h : wpX1_clear_27_b37 Q P12 v1 t1 t2 I L) : Ef G MX1_clear_27 (qV Q) 37 [(0, .ref 27), (1, .int v1)] [.int t2, .int t1, .ref 31] I L := by
  unfold wpX1_clear_27_b37 at h
  refine Ev.iastore (j := _) (pc' := 38) dX1_clear_37 rfl ar_31 h.1 rfl (fun I1 eI1 => ?_)
  have h := h.2 I1 eI1
  refine Ev.iinc (k := 1) (v := _) (ls' := [(1, .int _), (0, .ref _)]) (pc' := 41) dX1_clear_38 rfl rfl (congrArg (_ + ·) ki_1) (Nat.le_of_ble_eq_true rfl) rfl ?_
  refine Ev.goto (tgt := 12) dX1_clear_41 rfl ?_
  exact Ev.sub [1, 0] rfl (hP12 _ _ _ h)
set_option maxRecDepth 10000 in
theorem okX1_clear_27_l12 {G : Gx} {Q : Ix → Lx → Prop} {P12 : Int32 → Ix → Lx → Prop} (hP12 : ∀ (v1 : Int32) (I : Ix) (L : Lx), P12 v1 I L → Ef G MX1_clear_27 (qV Q) 12 [(0, .ref 27), (1, .int v1)] [] I L) {v1 : Int32} {I : Ix} {L : Lx} (h : wpX1_clear_27_l12 Q P12 v1 I L) : Ef G MX1_clear_27 (qV Q) 12 [(0, .ref 27), (1, .int v1)] [] I L := by
  unfold wpX1_clear_27_l12 at h
  refine Ev.iload_n (k := 1) (pc' := 13) dX1_clear_12 rfl rfl rfl ?_
  refine Ev.bipush (pc' := 15) dX1_clear_13 rfl kb_64 ?_
  refine Ev.icmp_ge (pc' := 18) (tgt := 44) dX1_clear_15 rfl rfl (fun hc => ?_) (fun hc => ?_)
  · have h := h.1 hc
    exact Ef.vret dX1_clear_44 rfl h
  · have h := h.2 hc
    refine Ev.aload_n (k := 0) (pc' := 19) dX1_clear_18 rfl rfl rfl ?_
    refine Ev.getR (pc' := 22) dX1_clear_19 rfl fa_RX1_22 ob_27 fk_1_5 rf_27_5 ?_
    refine Ev.iload_n (k := 1) (pc' := 23) dX1_clear_22 rfl rfl rfl ?_
    refine Ev.iload_n (k := 1) (pc' := 24) dX1_clear_23 rfl rfl rfl ?_
    refine Ev.bipush (pc' := 26) dX1_clear_24 rfl kb_9 ?_
    refine Ev.irem (pc' := 27) dX1_clear_26 rfl (by decide) ?_
    refine Ev.if_ne (pc' := 30) (tgt := 34) dX1_clear_27 rfl rfl (fun hc => ?_) (fun hc => ?_)
    · have h := h.1 hc
      refine Ev.sipush (pc' := 37) dX1_clear_34 rfl ks_999 ?_
      exact okX1_clear_27_b37 hP12 h
    · have h := h.2 hc
      refine Ev.iconst (pc' := 31) dX1_clear_30 rfl ki_0 ?_
      refine Ev.goto (tgt := 37) dX1_clear_31 rfl ?_
      exact okX1_clear_27_b37 hP12 h
set_option maxRecDepth 10000 in
theorem okX1_clear_27_h12 {G : Gx} {Q : Ix → Lx → Prop} {v1 : Int32} {I : Ix} {L : Lx} (h : wpX1_clear_27_h12 Q v1 I L) : Ef G MX1_clear_27 (qV Q) 12 [(0, .ref 27), (1, .int v1)] [] I L := by
  unfold wpX1_clear_27_h12 at h
  refine Lfp.ind (P := fun z => Ef G MX1_clear_27 (qV Q) 12 [(0, .ref 27), (1, .int z.1)] [] z.2.1 z.2.2) ?_ h
  intro z P' hP' h
  obtain ⟨v1, I, L⟩ := z
  exact okX1_clear_27_l12 (fun v1 I L h9 => hP' (v1, I, L) h9) h
set_option maxRecDepth 10000 in
theorem okX1_clear_27 {G : Gx} {I : Ix} {L : Lx} {Q : Ix → Lx → Prop} (h : wpX1_clear_27 I L Q) : Mf G MX1_clear_27 [.ref 27] I L (qV Q) := by
  unfold wpX1_clear_27 at h
  refine Mf.of pn_RX1 (Nat.le_of_ble_eq_true rfl) ?_
  refine Ev.aload_n (k := 0) (pc' := 1) dX1_clear_0 rfl rfl rfl ?_
  refine Ev.iconst (pc' := 2) dX1_clear_1 rfl ki_0 ?_
  refine Ev.putI (pc' := 5) dX1_clear_2 rfl fa_RX1_28 ob_27 fk_1_0 rfl rfl (fun I1 eI1 => ?_)
  have h := h I1 eI1
  refine Ev.aload_n (k := 0) (pc' := 6) dX1_clear_5 rfl rfl rfl ?_
  refine Ev.iconst (pc' := 7) dX1_clear_6 rfl ki_0 ?_
  refine Ev.putI (pc' := 10) dX1_clear_7 rfl fa_RX1_32 ob_27 fk_1_1 rfl rfl (fun I2 eI2 => ?_)
  have h := h I2 eI2
  refine Ev.iconst (pc' := 11) dX1_clear_10 rfl ki_0 ?_
  refine Ev.istore_n (ls' := [(1, .int _), (0, .ref _)]) (pc' := 12) dX1_clear_11 rfl rfl (Nat.le_of_ble_eq_true rfl) rfl ?_
  exact Ev.sub [1, 0] rfl (okX1_clear_27_h12 h)
def wpX4_clear_33 (I : Ix) (L : Lx) (Q : Ix → Lx → Prop) : Prop := ∀ I1 : Ix, I1 = pu I 33 0 0 → ∀ I2 : Ix, I2 = pu I1 33 1 0 → Q I2 L
set_option maxRecDepth 10000 in
theorem okX4_clear_33 {G : Gx} {I : Ix} {L : Lx} {Q : Ix → Lx → Prop} (h : wpX4_clear_33 I L Q) : Mf G MX4_clear_33 [.ref 33] I L (qV Q) := by
  unfold wpX4_clear_33 at h
  refine Mf.of pn_RX4 (Nat.le_of_ble_eq_true rfl) ?_
  refine Ev.aload_n (k := 0) (pc' := 1) dX4_clear_0 rfl rfl rfl ?_
  refine Ev.iconst (pc' := 2) dX4_clear_1 rfl ki_0 ?_
  refine Ev.putI (pc' := 5) dX4_clear_2 rfl fa_RX4_24 ob_33 fk_4_0 rfl rfl (fun I1 eI1 => ?_)
  have h := h I1 eI1
  refine Ev.aload_n (k := 0) (pc' := 6) dX4_clear_5 rfl rfl rfl ?_
  refine Ev.iconst (pc' := 7) dX4_clear_6 rfl ki_0 ?_
  refine Ev.putI (pc' := 10) dX4_clear_7 rfl fa_RX4_28 ob_33 fk_4_1 rfl rfl (fun I2 eI2 => ?_)
  have h := h I2 eI2
  exact Ef.vret dX4_clear_10 rfl h
def wpX10_clear_26 (I : Ix) (L : Lx) (Q : Ix → Lx → Prop) : Prop := wpX1_clear_27 I L (fun I1 L2 => wpX4_clear_33 I1 L2 (fun I3 L4 => ∀ I5 : Ix, I5 = pu I3 26 2 0 → ∀ I6 : Ix, I6 = pu I5 26 3 0 → ∀ I7 : Ix, I7 = pu I6 26 4 0 → ∀ I8 : Ix, I8 = pu I7 26 5 0 → Q I8 L4))
set_option maxRecDepth 10000 in
theorem okX10_clear_26 {G : Gx} {I : Ix} {L : Lx} {Q : Ix → Lx → Prop} (h : wpX10_clear_26 I L Q) : Mf G MX10_clear_26 [.ref 26] I L (qV Q) := by
  unfold wpX10_clear_26 at h
  refine Mf.of pn_RX10 (Nat.le_of_ble_eq_true rfl) ?_
  refine Ev.aload_n (k := 0) (pc' := 1) dX10_clear_0 rfl rfl rfl ?_
  refine Ev.getR (pc' := 4) dX10_clear_1 rfl fa_RX10_12 ob_26 fk_10_0 rf_26_0 ?_
  refine Ef.callVV [] [] (pc' := 7) dX10_clear_4 rfl cv_RX10_61_X1_clear_27 ⟨Nat.le_of_ble_eq_true rfl, Nat.le_of_ble_eq_true rfl⟩ ob_27 rfl rfl rfl (Nat.le_of_ble_eq_true rfl) (okX1_clear_27 h) (fun I1 L2 h => ?_)
  refine Ev.aload_n (k := 0) (pc' := 8) dX10_clear_7 rfl rfl rfl ?_
  refine Ev.getR (pc' := 11) dX10_clear_8 rfl fa_RX10_21 ob_26 fk_10_1 rf_26_1 ?_
  refine Ef.callVV [] [] (pc' := 14) dX10_clear_11 rfl cv_RX10_64_X4_clear_33 ⟨Nat.le_of_ble_eq_true rfl, Nat.le_of_ble_eq_true rfl⟩ ob_33 rfl rfl rfl (Nat.le_of_ble_eq_true rfl) (okX4_clear_33 h) (fun I3 L4 h => ?_)
  refine Ev.aload_n (k := 0) (pc' := 15) dX10_clear_14 rfl rfl rfl ?_
  refine Ev.iconst (pc' := 16) dX10_clear_15 rfl ki_0 ?_
  refine Ev.putI (pc' := 19) dX10_clear_16 rfl fa_RX10_65 ob_26 fk_10_2 rfl rfl (fun I5 eI5 => ?_)
  have h := h I5 eI5
  refine Ev.aload_n (k := 0) (pc' := 20) dX10_clear_19 rfl rfl rfl ?_
  refine Ev.iconst (pc' := 21) dX10_clear_20 rfl ki_0 ?_
  refine Ev.putI (pc' := 24) dX10_clear_21 rfl fa_RX10_69 ob_26 fk_10_3 rfl rfl (fun I6 eI6 => ?_)
  have h := h I6 eI6
  refine Ev.aload_n (k := 0) (pc' := 25) dX10_clear_24 rfl rfl rfl ?_
  refine Ev.iconst (pc' := 26) dX10_clear_25 rfl ki_0 ?_
  refine Ev.putI (pc' := 29) dX10_clear_26 rfl fa_RX10_72 ob_26 fk_10_4 rfl rfl (fun I7 eI7 => ?_)
  have h := h I7 eI7
  refine Ev.aload_n (k := 0) (pc' := 30) dX10_clear_29 rfl rfl rfl ?_
  refine Ev.iconst (pc' := 31) dX10_clear_30 rfl ki_0 ?_
  refine Ev.putI (pc' := 34) dX10_clear_31 rfl fa_RX10_75 ob_26 fk_10_5 rfl rfl (fun I8 eI8 => ?_)
  have h := h I8 eI8
  exact Ef.vret dX10_clear_34 rfl h
def wpX8_begin (I : Ix) (L : Lx) (Q : Ix → Lx → Prop) : Prop := ∀ I1 : Ix, I1 = pu I 51 2 0 → wpX8_step I1 L (fun I2 L3 => Q I2 L3)
set_option maxRecDepth 10000 in
theorem okX8_begin {G : Gx} {I : Ix} {L : Lx} {Q : Ix → Lx → Prop} (h : wpX8_begin I L Q) : Mf G MX8_begin [.ref 51] I L (qV Q) := by
  unfold wpX8_begin at h
  refine Mf.of pn_RX8 (Nat.le_of_ble_eq_true rfl) ?_
  refine Ev.aload_n (k := 0) (pc' := 1) dX8_begin_0 rfl rfl rfl ?_
  refine Ev.iconst (pc' := 2) dX8_begin_1 rfl ki_0 ?_
  refine Ev.putI (pc' := 5) dX8_begin_2 rfl fa_RX8_35 ob_51 fk_8_2 rfl rfl (fun I1 eI1 => ?_)
  have h := h I1 eI1
  refine Ev.aload_n (k := 0) (pc' := 6) dX8_begin_5 rfl rfl rfl ?_
  refine Ef.callVV [] [] (pc' := 9) dX8_begin_6 rfl cv_RX8_39_X8_step ⟨Nat.le_of_ble_eq_true rfl, Nat.le_of_ble_eq_true rfl⟩ ob_51 rfl rfl rfl (Nat.le_of_ble_eq_true rfl) (okX8_step h) (fun I2 L3 h => ?_)
  exact Ef.vret dX8_begin_9 rfl h
def wpX3_readTape_b70 (Q : Bool → Ix → Lx → Prop) (v1 : Int32) (I : Ix) (L : Lx) : Prop := (v1 = 0 → ∃ b, v1 = b2i b ∧ Q b I L) ∧ (¬ v1 = 0 → wpX1_measure_27 I L (fun I1 L2 => ∃ b, v1 = b2i b ∧ Q b I1 L2))
def wpX3_readTape_l38 (Q : Bool → Ix → Lx → Prop) (P38 : Int32 → Int32 → Ix → Lx → Prop) (v1 : Int32) (v2 : Int32) (I : Ix) (L : Lx) : Prop := (1700 ≤ v2 → wpX3_readTape_b70 Q v1 I L) ∧ (¬ 1700 ≤ v2 → (v1 = 0 → wpX3_readTape_b70 Q v1 I L) ∧ (¬ v1 = 0 → ((I 51 3) = 0 → wpX3_readTape_b70 Q v1 I L) ∧ (¬ (I 51 3) = 0 → wpX3_line I L (fun r3 I1 L2 => P38 (b2i r3) (v2 + 1) I1 L2))))
def wpX3_readTape_h38 (Q : Bool → Ix → Lx → Prop) (v1 : Int32) (v2 : Int32) (I : Ix) (L : Lx) : Prop := Lfp (X := Int32 × Int32 × Ix × Lx) (fun P z => wpX3_readTape_l38 Q (fun v1 v2 I L => P (v1, v2, I, L)) z.1 z.2.1 z.2.2.1 z.2.2.2) (v1, v2, I, L)
theorem wpX3_readTape_h38_fold {Q : Bool → Ix → Lx → Prop} {v1 : Int32} {v2 : Int32} {I : Ix} {L : Lx} (h : wpX3_readTape_l38 Q (wpX3_readTape_h38 Q) v1 v2 I L) : wpX3_readTape_h38 Q v1 v2 I L := Lfp.fold h
def wpX3_readTape (I : Ix) (L : Lx) (Q : Bool → Ix → Lx → Prop) : Prop := wpX10_clear_26 I L (fun I1 L2 => ∀ I3 : Ix, I3 = pu I1 49 4 0 → ∀ I4 : Ix, I4 = pu I3 49 5 0 → ∀ I5 : Ix, I5 = pu I4 49 7 0 → ∀ I6 : Ix, I6 = pu I5 49 8 (-1) → wpX8_begin I6 L2 (fun I7 L8 => wpX3_readTape_h38 Q 1 0 I7 L8))
set_option maxRecDepth 10000 in
theorem okX3_readTape_b70 {G : Gx} {Q : Bool → Ix → Lx → Prop} {v1 : Int32} {I : Ix} {L : Lx} (h : wpX3_readTape_b70 Q v1 I L) : Ef G MX3_readTape (qZ Q) 70 [(0, .ref 49), (1, .int v1)] [] I L := by
  unfold wpX3_readTape_b70 at h
  refine Ev.iload_n (k := 1) (pc' := 71) dX3_readTape_70 rfl rfl rfl ?_
  refine Ev.if_eq (pc' := 74) (tgt := 81) dX3_readTape_71 rfl rfl (fun hc => ?_) (fun hc => ?_)
  · have h := h.1 hc
    refine Ev.iload_n (k := 1) (pc' := 82) dX3_readTape_81 rfl rfl rfl ?_
    exact Ef.zretx dX3_readTape_82 rfl h
  · have h := h.2 hc
    refine Ev.aload_n (k := 0) (pc' := 75) dX3_readTape_74 rfl rfl rfl ?_
    refine Ev.getR (pc' := 78) dX3_readTape_75 rfl fa_RX3_38 ob_49 fk_3_2 rf_49_2 ?_
    refine Ef.callVV [] [] (pc' := 81) dX3_readTape_78 rfl cv_RX3_67_X1_measure_27 ⟨Nat.le_of_ble_eq_true rfl, Nat.le_of_ble_eq_true rfl⟩ ob_27 rfl rfl rfl (Nat.le_of_ble_eq_true rfl) (okX1_measure_27 h) (fun I1 L2 h => ?_)
    refine Ev.iload_n (k := 1) (pc' := 82) dX3_readTape_81 rfl rfl rfl ?_
    exact Ef.zretx dX3_readTape_82 rfl h
set_option maxRecDepth 10000 in
theorem okX3_readTape_l38 {G : Gx} {Q : Bool → Ix → Lx → Prop} {P38 : Int32 → Int32 → Ix → Lx → Prop} (hP38 : ∀ (v1 : Int32) (v2 : Int32) (I : Ix) (L : Lx), P38 v1 v2 I L → Ef G MX3_readTape (qZ Q) 38 [(0, .ref 49), (1, .int v1), (2, .int v2)] [] I L) {v1 : Int32} {v2 : Int32} {I : Ix} {L : Lx} (h : wpX3_readTape_l38 Q P38 v1 v2 I L) : Ef G MX3_readTape (qZ Q) 38 [(0, .ref 49), (1, .int v1), (2, .int v2)] [] I L := by
  unfold wpX3_readTape_l38 at h
  refine Ev.iload_n (k := 2) (pc' := 39) dX3_readTape_38 rfl rfl rfl ?_
  refine Ev.sipush (pc' := 42) dX3_readTape_39 rfl ks_1700 ?_
  refine Ev.icmp_ge (pc' := 45) (tgt := 70) dX3_readTape_42 rfl rfl (fun hc => ?_) (fun hc => ?_)
  · have h := h.1 hc
    exact Ev.sub [0, 1] rfl (okX3_readTape_b70 h)
  · have h := h.2 hc
    refine Ev.iload_n (k := 1) (pc' := 46) dX3_readTape_45 rfl rfl rfl ?_
    refine Ev.if_eq (pc' := 49) (tgt := 70) dX3_readTape_46 rfl rfl (fun hc => ?_) (fun hc => ?_)
    · have h := h.1 hc
      exact Ev.sub [0, 1] rfl (okX3_readTape_b70 h)
    · have h := h.2 hc
      refine Ev.aload_n (k := 0) (pc' := 50) dX3_readTape_49 rfl rfl rfl ?_
      refine Ev.getR (pc' := 53) dX3_readTape_50 rfl fa_RX3_24 ob_49 fk_3_0 rf_49_0 ?_
      refine Ev.getI (pc' := 56) dX3_readTape_53 rfl fa_RX3_60 ob_51 fk_8_3 ?_
      refine Ev.if_eq (pc' := 59) (tgt := 70) dX3_readTape_56 rfl rfl (fun hc => ?_) (fun hc => ?_)
      · have h := h.1 hc
        exact Ev.sub [0, 1] rfl (okX3_readTape_b70 h)
      · have h := h.2 hc
        refine Ev.aload_n (k := 0) (pc' := 60) dX3_readTape_59 rfl rfl rfl ?_
        refine Ef.callVZ [] [] (pc' := 63) dX3_readTape_60 rfl cv_RX3_63_X3_line ⟨Nat.le_of_ble_eq_true rfl, Nat.le_of_ble_eq_true rfl⟩ ob_49 rfl rfl rfl (Nat.le_of_ble_eq_true rfl) (okX3_line h) (fun r3 I1 L2 h => ?_)
        refine Ev.istore_n (ls' := [(1, .int _), (0, .ref _), (2, .int _)]) (pc' := 64) dX3_readTape_63 rfl rfl (Nat.le_of_ble_eq_true rfl) rfl ?_
        refine Ev.iinc (k := 2) (v := _) (ls' := [(2, .int _), (1, .int _), (0, .ref _)]) (pc' := 67) dX3_readTape_64 rfl rfl (congrArg (_ + ·) ki_1) (Nat.le_of_ble_eq_true rfl) rfl ?_
        refine Ev.goto (tgt := 38) dX3_readTape_67 rfl ?_
        exact Ev.sub [2, 1, 0] rfl (hP38 _ _ _ _ h)
set_option maxRecDepth 10000 in
theorem okX3_readTape_h38 {G : Gx} {Q : Bool → Ix → Lx → Prop} {v1 : Int32} {v2 : Int32} {I : Ix} {L : Lx} (h : wpX3_readTape_h38 Q v1 v2 I L) : Ef G MX3_readTape (qZ Q) 38 [(0, .ref 49), (1, .int v1), (2, .int v2)] [] I L := by
  unfold wpX3_readTape_h38 at h
  refine Lfp.ind (P := fun z => Ef G MX3_readTape (qZ Q) 38 [(0, .ref 49), (1, .int z.1), (2, .int z.2.1)] [] z.2.2.1 z.2.2.2) ?_ h
  intro z P' hP' h
  obtain ⟨v1, v2, I, L⟩ := z
  exact okX3_readTape_l38 (fun v1 v2 I L h9 => hP' (v1, v2, I, L) h9) h
set_option maxRecDepth 10000 in
theorem okX3_readTape {G : Gx} {I : Ix} {L : Lx} {Q : Bool → Ix → Lx → Prop} (h : wpX3_readTape I L Q) : Mf G MX3_readTape [.ref 49] I L (qZ Q) := by
  unfold wpX3_readTape at h
  refine Mf.of pn_RX3 (Nat.le_of_ble_eq_true rfl) ?_
  refine Ev.aload_n (k := 0) (pc' := 1) dX3_readTape_0 rfl rfl rfl ?_
  refine Ev.getR (pc' := 4) dX3_readTape_1 rfl fa_RX3_28 ob_49 fk_3_1 rf_49_1 ?_
  refine Ef.callVV [] [] (pc' := 7) dX3_readTape_4 rfl cv_RX3_44_X10_clear_26 ⟨Nat.le_of_ble_eq_true rfl, Nat.le_of_ble_eq_true rfl⟩ ob_26 rfl rfl rfl (Nat.le_of_ble_eq_true rfl) (okX10_clear_26 h) (fun I1 L2 h => ?_)
  refine Ev.aload_n (k := 0) (pc' := 8) dX3_readTape_7 rfl rfl rfl ?_
  refine Ev.iconst (pc' := 9) dX3_readTape_8 rfl ki_0 ?_
  refine Ev.putI (pc' := 12) dX3_readTape_9 rfl fa_RX3_47 ob_49 fk_3_4 rfl rfl (fun I3 eI3 => ?_)
  have h := h I3 eI3
  refine Ev.aload_n (k := 0) (pc' := 13) dX3_readTape_12 rfl rfl rfl ?_
  refine Ev.iconst (pc' := 14) dX3_readTape_13 rfl ki_0 ?_
  refine Ev.putI (pc' := 17) dX3_readTape_14 rfl fa_RX3_51 ob_49 fk_3_5 rfl rfl (fun I4 eI4 => ?_)
  have h := h I4 eI4
  refine Ev.aload_n (k := 0) (pc' := 18) dX3_readTape_17 rfl rfl rfl ?_
  refine Ev.iconst (pc' := 19) dX3_readTape_18 rfl ki_0 ?_
  refine Ev.putI (pc' := 22) dX3_readTape_19 rfl fa_RX3_54 ob_49 fk_3_7 rfl rfl (fun I5 eI5 => ?_)
  have h := h I5 eI5
  refine Ev.aload_n (k := 0) (pc' := 23) dX3_readTape_22 rfl rfl rfl ?_
  refine Ev.iconst (pc' := 24) dX3_readTape_23 rfl ki_m1 ?_
  refine Ev.putI (pc' := 27) dX3_readTape_24 rfl fa_RX3_15 ob_49 fk_3_8 rfl rfl (fun I6 eI6 => ?_)
  have h := h I6 eI6
  refine Ev.aload_n (k := 0) (pc' := 28) dX3_readTape_27 rfl rfl rfl ?_
  refine Ev.getR (pc' := 31) dX3_readTape_28 rfl fa_RX3_24 ob_49 fk_3_0 rf_49_0 ?_
  refine Ef.callVV [] [] (pc' := 34) dX3_readTape_31 rfl cv_RX3_57_X8_begin ⟨Nat.le_of_ble_eq_true rfl, Nat.le_of_ble_eq_true rfl⟩ ob_51 rfl rfl rfl (Nat.le_of_ble_eq_true rfl) (okX8_begin h) (fun I7 L8 h => ?_)
  refine Ev.iconst (pc' := 35) dX3_readTape_34 rfl ki_1 ?_
  refine Ev.istore_n (ls' := [(1, .int _), (0, .ref _)]) (pc' := 36) dX3_readTape_35 rfl rfl (Nat.le_of_ble_eq_true rfl) rfl ?_
  refine Ev.iconst (pc' := 37) dX3_readTape_36 rfl ki_0 ?_
  refine Ev.istore_n (ls' := [(2, .int _), (1, .int _), (0, .ref _)]) (pc' := 38) dX3_readTape_37 rfl rfl (Nat.le_of_ble_eq_true rfl) rfl ?_
  exact Ev.sub [2, 1, 0] rfl (okX3_readTape_h38 h)
def wpX1_copyFrom_4 (I : Ix) (L : Lx) (Q : Ix → Lx → Prop) : Prop := ∀ I1 : Ix, I1 = pu I 4 0 (I 27 0) → ∀ I2 : Ix, I2 = pu I1 4 1 (I1 27 1) → ∀ I3 : Ix, I3 = va_up I2 6 (va_cpy (I2 29) (I2 6) 0 0 8) → ∀ I4 : Ix, I4 = va_up I3 7 (va_cpy (I3 30) (I3 7) 0 0 8) → ∀ I5 : Ix, I5 = va_up I4 8 (va_cpy (I4 31) (I4 8) 0 0 64) → Q I5 L
set_option maxRecDepth 10000 in
theorem okX1_copyFrom_4 {G : Gx} {I : Ix} {L : Lx} {Q : Ix → Lx → Prop} (h : wpX1_copyFrom_4 I L Q) : Mf G MX1_copyFrom_4 [.ref 4, .ref 27] I L (qV Q) := by
  unfold wpX1_copyFrom_4 at h
  refine Mf.of pn_RX1 (Nat.le_of_ble_eq_true rfl) ?_
  refine Ev.aload_n (k := 0) (pc' := 1) dX1_copyFrom_0 rfl rfl rfl ?_
  refine Ev.aload_n (k := 1) (pc' := 2) dX1_copyFrom_1 rfl rfl rfl ?_
  refine Ev.getI (pc' := 5) dX1_copyFrom_2 rfl fa_RX1_28 ob_27 fk_1_0 ?_
  refine Ev.putI (pc' := 8) dX1_copyFrom_5 rfl fa_RX1_28 ob_4 fk_1_0 rfl rfl (fun I1 eI1 => ?_)
  have h := h I1 eI1
  refine Ev.aload_n (k := 0) (pc' := 9) dX1_copyFrom_8 rfl rfl rfl ?_
  refine Ev.aload_n (k := 1) (pc' := 10) dX1_copyFrom_9 rfl rfl rfl ?_
  refine Ev.getI (pc' := 13) dX1_copyFrom_10 rfl fa_RX1_32 ob_27 fk_1_1 ?_
  refine Ev.putI (pc' := 16) dX1_copyFrom_13 rfl fa_RX1_32 ob_4 fk_1_1 rfl rfl (fun I2 eI2 => ?_)
  have h := h I2 eI2
  refine Ev.aload_n (k := 1) (pc' := 17) dX1_copyFrom_16 rfl rfl rfl ?_
  refine Ev.getR (pc' := 20) dX1_copyFrom_17 rfl fa_RX1_15 ob_27 fk_1_3 rf_27_3 ?_
  refine Ev.iconst (pc' := 21) dX1_copyFrom_20 rfl ki_0 ?_
  refine Ev.aload_n (k := 0) (pc' := 22) dX1_copyFrom_21 rfl rfl rfl ?_
  refine Ev.getR (pc' := 25) dX1_copyFrom_22 rfl fa_RX1_15 ob_4 fk_1_3 rf_4_3 ?_
  refine Ev.iconst (pc' := 26) dX1_copyFrom_25 rfl ki_0 ?_
  refine Ev.bipush (pc' := 28) dX1_copyFrom_26 rfl kb_8 ?_
  refine Ev.copyI (pc' := 31) dX1_copyFrom_28 rfl ac_RX1_35 ac_native ac_static ac_init ar_29 ar_6 rfl (by decide) (by decide) (by decide) (by decide) (by decide) (Nat.le_of_ble_eq_true rfl) (Nat.le_of_ble_eq_true rfl) (fun I3 eI3 => ?_)
  have h := h I3 eI3
  refine Ev.aload_n (k := 1) (pc' := 32) dX1_copyFrom_31 rfl rfl rfl ?_
  refine Ev.getR (pc' := 35) dX1_copyFrom_32 rfl fa_RX1_19 ob_27 fk_1_4 rf_27_4 ?_
  refine Ev.iconst (pc' := 36) dX1_copyFrom_35 rfl ki_0 ?_
  refine Ev.aload_n (k := 0) (pc' := 37) dX1_copyFrom_36 rfl rfl rfl ?_
  refine Ev.getR (pc' := 40) dX1_copyFrom_37 rfl fa_RX1_19 ob_4 fk_1_4 rf_4_4 ?_
  refine Ev.iconst (pc' := 41) dX1_copyFrom_40 rfl ki_0 ?_
  refine Ev.bipush (pc' := 43) dX1_copyFrom_41 rfl kb_8 ?_
  refine Ev.copyI (pc' := 46) dX1_copyFrom_43 rfl ac_RX1_35 ac_native ac_static ac_init ar_30 ar_7 rfl (by decide) (by decide) (by decide) (by decide) (by decide) (Nat.le_of_ble_eq_true rfl) (Nat.le_of_ble_eq_true rfl) (fun I4 eI4 => ?_)
  have h := h I4 eI4
  refine Ev.aload_n (k := 1) (pc' := 47) dX1_copyFrom_46 rfl rfl rfl ?_
  refine Ev.getR (pc' := 50) dX1_copyFrom_47 rfl fa_RX1_22 ob_27 fk_1_5 rf_27_5 ?_
  refine Ev.iconst (pc' := 51) dX1_copyFrom_50 rfl ki_0 ?_
  refine Ev.aload_n (k := 0) (pc' := 52) dX1_copyFrom_51 rfl rfl rfl ?_
  refine Ev.getR (pc' := 55) dX1_copyFrom_52 rfl fa_RX1_22 ob_4 fk_1_5 rf_4_5 ?_
  refine Ev.iconst (pc' := 56) dX1_copyFrom_55 rfl ki_0 ?_
  refine Ev.bipush (pc' := 58) dX1_copyFrom_56 rfl kb_64 ?_
  refine Ev.copyI (pc' := 61) dX1_copyFrom_58 rfl ac_RX1_35 ac_native ac_static ac_init ar_31 ar_8 rfl (by decide) (by decide) (by decide) (by decide) (by decide) (Nat.le_of_ble_eq_true rfl) (Nat.le_of_ble_eq_true rfl) (fun I5 eI5 => ?_)
  have h := h I5 eI5
  exact Ef.vret dX1_copyFrom_61 rfl h
def wpX4_copyFrom_10 (I : Ix) (L : Lx) (Q : Ix → Lx → Prop) : Prop := ∀ I1 : Ix, I1 = pu I 10 0 (I 33 0) → ∀ I2 : Ix, I2 = va_up I1 11 (va_cpy (I1 34) (I1 11) 0 0 6) → ∀ I3 : Ix, I3 = va_up I2 12 (va_cpy (I2 35) (I2 12) 0 0 6) → ∀ I4 : Ix, I4 = va_up I3 13 (va_cpy (I3 36) (I3 13) 0 0 720) → Q I4 L
set_option maxRecDepth 10000 in
theorem okX4_copyFrom_10 {G : Gx} {I : Ix} {L : Lx} {Q : Ix → Lx → Prop} (h : wpX4_copyFrom_10 I L Q) : Mf G MX4_copyFrom_10 [.ref 10, .ref 33] I L (qV Q) := by
  unfold wpX4_copyFrom_10 at h
  refine Mf.of pn_RX4 (Nat.le_of_ble_eq_true rfl) ?_
  refine Ev.aload_n (k := 0) (pc' := 1) dX4_copyFrom_0 rfl rfl rfl ?_
  refine Ev.aload_n (k := 1) (pc' := 2) dX4_copyFrom_1 rfl rfl rfl ?_
  refine Ev.getI (pc' := 5) dX4_copyFrom_2 rfl fa_RX4_24 ob_33 fk_4_0 ?_
  refine Ev.putI (pc' := 8) dX4_copyFrom_5 rfl fa_RX4_24 ob_10 fk_4_0 rfl rfl (fun I1 eI1 => ?_)
  have h := h I1 eI1
  refine Ev.aload_n (k := 1) (pc' := 9) dX4_copyFrom_8 rfl rfl rfl ?_
  refine Ev.getR (pc' := 12) dX4_copyFrom_9 rfl fa_RX4_9 ob_33 fk_4_2 rf_33_2 ?_
  refine Ev.iconst (pc' := 13) dX4_copyFrom_12 rfl ki_0 ?_
  refine Ev.aload_n (k := 0) (pc' := 14) dX4_copyFrom_13 rfl rfl rfl ?_
  refine Ev.getR (pc' := 17) dX4_copyFrom_14 rfl fa_RX4_9 ob_10 fk_4_2 rf_10_2 ?_
  refine Ev.iconst (pc' := 18) dX4_copyFrom_17 rfl ki_0 ?_
  refine Ev.bipush (pc' := 20) dX4_copyFrom_18 rfl kb_6 ?_
  refine Ev.copyI (pc' := 23) dX4_copyFrom_20 rfl ac_RX4_31 ac_native ac_static ac_init ar_34 ar_11 rfl (by decide) (by decide) (by decide) (by decide) (by decide) (Nat.le_of_ble_eq_true rfl) (Nat.le_of_ble_eq_true rfl) (fun I2 eI2 => ?_)
  have h := h I2 eI2
  refine Ev.aload_n (k := 1) (pc' := 24) dX4_copyFrom_23 rfl rfl rfl ?_
  refine Ev.getR (pc' := 27) dX4_copyFrom_24 rfl fa_RX4_15 ob_33 fk_4_3 rf_33_3 ?_
  refine Ev.iconst (pc' := 28) dX4_copyFrom_27 rfl ki_0 ?_
  refine Ev.aload_n (k := 0) (pc' := 29) dX4_copyFrom_28 rfl rfl rfl ?_
  refine Ev.getR (pc' := 32) dX4_copyFrom_29 rfl fa_RX4_15 ob_10 fk_4_3 rf_10_3 ?_
  refine Ev.iconst (pc' := 33) dX4_copyFrom_32 rfl ki_0 ?_
  refine Ev.bipush (pc' := 35) dX4_copyFrom_33 rfl kb_6 ?_
  refine Ev.copyI (pc' := 38) dX4_copyFrom_35 rfl ac_RX4_31 ac_native ac_static ac_init ar_35 ar_12 rfl (by decide) (by decide) (by decide) (by decide) (by decide) (Nat.le_of_ble_eq_true rfl) (Nat.le_of_ble_eq_true rfl) (fun I3 eI3 => ?_)
  have h := h I3 eI3
  refine Ev.aload_n (k := 1) (pc' := 39) dX4_copyFrom_38 rfl rfl rfl ?_
  refine Ev.getR (pc' := 42) dX4_copyFrom_39 rfl fa_RX4_18 ob_33 fk_4_4 rf_33_4 ?_
  refine Ev.iconst (pc' := 43) dX4_copyFrom_42 rfl ki_0 ?_
  refine Ev.aload_n (k := 0) (pc' := 44) dX4_copyFrom_43 rfl rfl rfl ?_
  refine Ev.getR (pc' := 47) dX4_copyFrom_44 rfl fa_RX4_18 ob_10 fk_4_4 rf_10_4 ?_
  refine Ev.iconst (pc' := 48) dX4_copyFrom_47 rfl ki_0 ?_
  refine Ev.sipush (pc' := 51) dX4_copyFrom_48 rfl ks_720 ?_
  refine Ev.copyI (pc' := 54) dX4_copyFrom_51 rfl ac_RX4_31 ac_native ac_static ac_init ar_36 ar_13 rfl (by decide) (by decide) (by decide) (by decide) (by decide) (Nat.le_of_ble_eq_true rfl) (Nat.le_of_ble_eq_true rfl) (fun I4 eI4 => ?_)
  have h := h I4 eI4
  exact Ef.vret dX4_copyFrom_54 rfl h
def wpX10_copyFrom_3_l116 (Q : Ix → Lx → Prop) (P116 : Int32 → Ix → Lx → Prop) (v2 : Int32) (I : Ix) (L : Lx) : Prop := (10 ≤ v2 → ∀ I1 : Ix, I1 = va_up I 22 (va_cpy (I 45) (I 22) 0 0 6) → ∀ I2 : Ix, I2 = va_up I1 23 (va_cpy (I1 46) (I1 23) 0 0 6) → ∀ I3 : Ix, I3 = va_up I2 24 (va_cpy (I2 47) (I2 24) 0 0 6) → ∀ I4 : Ix, I4 = va_up I3 25 (va_cpy (I3 48) (I3 25) 0 0 6) → Q I4 L) ∧ (¬ 10 ≤ v2 → vp_in v2 10 ∧ vp_in v2 10 ∧ ∀ I5 : Ix, I5 = pu I 20 v2.toNatClampNeg ((I 43 v2.toNatClampNeg) &&& 1) → P116 (v2 + 1) I5 L)
def wpX10_copyFrom_3_h116 (Q : Ix → Lx → Prop) (v2 : Int32) (I : Ix) (L : Lx) : Prop := Lfp (X := Int32 × Ix × Lx) (fun P z => wpX10_copyFrom_3_l116 Q (fun v2 I L => P (v2, I, L)) z.1 z.2.1 z.2.2) (v2, I, L)
theorem wpX10_copyFrom_3_h116_fold {Q : Ix → Lx → Prop} {v2 : Int32} {I : Ix} {L : Lx} (h : wpX10_copyFrom_3_l116 Q (wpX10_copyFrom_3_h116 Q) v2 I L) : wpX10_copyFrom_3_h116 Q v2 I L := Lfp.fold h
def wpX10_copyFrom_3 (I : Ix) (L : Lx) (Q : Ix → Lx → Prop) : Prop := wpX1_copyFrom_4 I L (fun I1 L2 => wpX4_copyFrom_10 I1 L2 (fun I3 L4 => ∀ I5 : Ix, I5 = pu I3 3 2 (I3 26 2) → ∀ I6 : Ix, I6 = pu I5 3 3 (I5 26 3) → ∀ I7 : Ix, I7 = pu I6 3 4 (I6 26 4) → ∀ I8 : Ix, I8 = pu I7 3 5 (I7 26 5) → ∀ I9 : Ix, I9 = va_up I8 16 (va_cpy (I8 39) (I8 16) 0 0 10) → ∀ I10 : Ix, I10 = va_up I9 17 (va_cpy (I9 40) (I9 17) 0 0 10) → ∀ I11 : Ix, I11 = va_up I10 18 (va_cpy (I10 41) (I10 18) 0 0 10) → ∀ I12 : Ix, I12 = va_up I11 19 (va_cpy (I11 42) (I11 19) 0 0 10) → wpX10_copyFrom_3_h116 Q 0 I12 L4))
set_option maxRecDepth 10000 in
theorem okX10_copyFrom_3_l116 {G : Gx} {Q : Ix → Lx → Prop} {P116 : Int32 → Ix → Lx → Prop} (hP116 : ∀ (v2 : Int32) (I : Ix) (L : Lx), P116 v2 I L → Ef G MX10_copyFrom_3 (qV Q) 116 [(0, .ref 3), (1, .ref 26), (2, .int v2)] [] I L) {v2 : Int32} {I : Ix} {L : Lx} (h : wpX10_copyFrom_3_l116 Q P116 v2 I L) : Ef G MX10_copyFrom_3 (qV Q) 116 [(0, .ref 3), (1, .ref 26), (2, .int v2)] [] I L := by
  unfold wpX10_copyFrom_3_l116 at h
  refine Ev.iload_n (k := 2) (pc' := 117) dX10_copyFrom_116 rfl rfl rfl ?_
  refine Ev.bipush (pc' := 119) dX10_copyFrom_117 rfl kb_10 ?_
  refine Ev.icmp_ge (pc' := 122) (tgt := 140) dX10_copyFrom_119 rfl rfl (fun hc => ?_) (fun hc => ?_)
  · have h := h.1 hc
    refine Ev.aload_n (k := 1) (pc' := 141) dX10_copyFrom_140 rfl rfl rfl ?_
    refine Ev.getR (pc' := 144) dX10_copyFrom_141 rfl fa_RX10_49 ob_26 fk_10_13 rf_26_13 ?_
    refine Ev.iconst (pc' := 145) dX10_copyFrom_144 rfl ki_0 ?_
    refine Ev.aload_n (k := 0) (pc' := 146) dX10_copyFrom_145 rfl rfl rfl ?_
    refine Ev.getR (pc' := 149) dX10_copyFrom_146 rfl fa_RX10_49 ob_3 fk_10_13 rf_3_13 ?_
    refine Ev.iconst (pc' := 150) dX10_copyFrom_149 rfl ki_0 ?_
    refine Ev.bipush (pc' := 152) dX10_copyFrom_150 rfl kb_6 ?_
    refine Ev.copyI (pc' := 155) dX10_copyFrom_152 rfl ac_RX10_85 ac_native ac_static ac_init ar_45 ar_22 rfl (by decide) (by decide) (by decide) (by decide) (by decide) (Nat.le_of_ble_eq_true rfl) (Nat.le_of_ble_eq_true rfl) (fun I1 eI1 => ?_)
    have h := h I1 eI1
    refine Ev.aload_n (k := 1) (pc' := 156) dX10_copyFrom_155 rfl rfl rfl ?_
    refine Ev.getR (pc' := 159) dX10_copyFrom_156 rfl fa_RX10_52 ob_26 fk_10_14 rf_26_14 ?_
    refine Ev.iconst (pc' := 160) dX10_copyFrom_159 rfl ki_0 ?_
    refine Ev.aload_n (k := 0) (pc' := 161) dX10_copyFrom_160 rfl rfl rfl ?_
    refine Ev.getR (pc' := 164) dX10_copyFrom_161 rfl fa_RX10_52 ob_3 fk_10_14 rf_3_14 ?_
    refine Ev.iconst (pc' := 165) dX10_copyFrom_164 rfl ki_0 ?_
    refine Ev.bipush (pc' := 167) dX10_copyFrom_165 rfl kb_6 ?_
    refine Ev.copyI (pc' := 170) dX10_copyFrom_167 rfl ac_RX10_85 ac_native ac_static ac_init ar_46 ar_23 rfl (by decide) (by decide) (by decide) (by decide) (by decide) (Nat.le_of_ble_eq_true rfl) (Nat.le_of_ble_eq_true rfl) (fun I2 eI2 => ?_)
    have h := h I2 eI2
    refine Ev.aload_n (k := 1) (pc' := 171) dX10_copyFrom_170 rfl rfl rfl ?_
    refine Ev.getR (pc' := 174) dX10_copyFrom_171 rfl fa_RX10_55 ob_26 fk_10_15 rf_26_15 ?_
    refine Ev.iconst (pc' := 175) dX10_copyFrom_174 rfl ki_0 ?_
    refine Ev.aload_n (k := 0) (pc' := 176) dX10_copyFrom_175 rfl rfl rfl ?_
    refine Ev.getR (pc' := 179) dX10_copyFrom_176 rfl fa_RX10_55 ob_3 fk_10_15 rf_3_15 ?_
    refine Ev.iconst (pc' := 180) dX10_copyFrom_179 rfl ki_0 ?_
    refine Ev.bipush (pc' := 182) dX10_copyFrom_180 rfl kb_6 ?_
    refine Ev.copyI (pc' := 185) dX10_copyFrom_182 rfl ac_RX10_85 ac_native ac_static ac_init ar_47 ar_24 rfl (by decide) (by decide) (by decide) (by decide) (by decide) (Nat.le_of_ble_eq_true rfl) (Nat.le_of_ble_eq_true rfl) (fun I3 eI3 => ?_)
    have h := h I3 eI3
    refine Ev.aload_n (k := 1) (pc' := 186) dX10_copyFrom_185 rfl rfl rfl ?_
    refine Ev.getR (pc' := 189) dX10_copyFrom_186 rfl fa_RX10_58 ob_26 fk_10_16 rf_26_16 ?_
    refine Ev.iconst (pc' := 190) dX10_copyFrom_189 rfl ki_0 ?_
    refine Ev.aload_n (k := 0) (pc' := 191) dX10_copyFrom_190 rfl rfl rfl ?_
    refine Ev.getR (pc' := 194) dX10_copyFrom_191 rfl fa_RX10_58 ob_3 fk_10_16 rf_3_16 ?_
    refine Ev.iconst (pc' := 195) dX10_copyFrom_194 rfl ki_0 ?_
    refine Ev.bipush (pc' := 197) dX10_copyFrom_195 rfl kb_6 ?_
    refine Ev.copyI (pc' := 200) dX10_copyFrom_197 rfl ac_RX10_85 ac_native ac_static ac_init ar_48 ar_25 rfl (by decide) (by decide) (by decide) (by decide) (by decide) (Nat.le_of_ble_eq_true rfl) (Nat.le_of_ble_eq_true rfl) (fun I4 eI4 => ?_)
    have h := h I4 eI4
    exact Ef.vret dX10_copyFrom_200 rfl h
  · have h := h.2 hc
    refine Ev.aload_n (k := 0) (pc' := 123) dX10_copyFrom_122 rfl rfl rfl ?_
    refine Ev.getR (pc' := 126) dX10_copyFrom_123 rfl fa_RX10_42 ob_3 fk_10_11 rf_3_11 ?_
    refine Ev.iload_n (k := 2) (pc' := 127) dX10_copyFrom_126 rfl rfl rfl ?_
    refine Ev.aload_n (k := 1) (pc' := 128) dX10_copyFrom_127 rfl rfl rfl ?_
    refine Ev.getR (pc' := 131) dX10_copyFrom_128 rfl fa_RX10_42 ob_26 fk_10_11 rf_26_11 ?_
    refine Ev.iload_n (k := 2) (pc' := 132) dX10_copyFrom_131 rfl rfl rfl ?_
    refine Ev.zaload (j := _) (pc' := 133) dX10_copyFrom_132 rfl ar_43 h.1 rfl ?_
    have h := h.2
    refine Ev.zastore (j := _) (pc' := 134) dX10_copyFrom_133 rfl ar_20 h.1 rfl rfl (fun I5 eI5 => ?_)
    have h := h.2 I5 eI5
    refine Ev.iinc (k := 2) (v := _) (ls' := [(2, .int _), (0, .ref _), (1, .ref _)]) (pc' := 137) dX10_copyFrom_134 rfl rfl (congrArg (_ + ·) ki_1) (Nat.le_of_ble_eq_true rfl) rfl ?_
    refine Ev.goto (tgt := 116) dX10_copyFrom_137 rfl ?_
    exact Ev.sub [1, 2, 0] rfl (hP116 _ _ _ h)
set_option maxRecDepth 10000 in
theorem okX10_copyFrom_3_h116 {G : Gx} {Q : Ix → Lx → Prop} {v2 : Int32} {I : Ix} {L : Lx} (h : wpX10_copyFrom_3_h116 Q v2 I L) : Ef G MX10_copyFrom_3 (qV Q) 116 [(0, .ref 3), (1, .ref 26), (2, .int v2)] [] I L := by
  unfold wpX10_copyFrom_3_h116 at h
  refine Lfp.ind (P := fun z => Ef G MX10_copyFrom_3 (qV Q) 116 [(0, .ref 3), (1, .ref 26), (2, .int z.1)] [] z.2.1 z.2.2) ?_ h
  intro z P' hP' h
  obtain ⟨v2, I, L⟩ := z
  exact okX10_copyFrom_3_l116 (fun v2 I L h9 => hP' (v2, I, L) h9) h
set_option maxRecDepth 10000 in
theorem okX10_copyFrom_3 {G : Gx} {I : Ix} {L : Lx} {Q : Ix → Lx → Prop} (h : wpX10_copyFrom_3 I L Q) : Mf G MX10_copyFrom_3 [.ref 3, .ref 26] I L (qV Q) := by
  unfold wpX10_copyFrom_3 at h
  refine Mf.of pn_RX10 (Nat.le_of_ble_eq_true rfl) ?_
  refine Ev.aload_n (k := 0) (pc' := 1) dX10_copyFrom_0 rfl rfl rfl ?_
  refine Ev.getR (pc' := 4) dX10_copyFrom_1 rfl fa_RX10_12 ob_3 fk_10_0 rf_3_0 ?_
  refine Ev.aload_n (k := 1) (pc' := 5) dX10_copyFrom_4 rfl rfl rfl ?_
  refine Ev.getR (pc' := 8) dX10_copyFrom_5 rfl fa_RX10_12 ob_26 fk_10_0 rf_26_0 ?_
  refine Ef.callVV [.ref _] [] (pc' := 11) dX10_copyFrom_8 rfl cv_RX10_78_X1_copyFrom_4 ⟨Nat.le_of_ble_eq_true rfl, Nat.le_of_ble_eq_true rfl⟩ ob_4 rfl rfl rfl (Nat.le_of_ble_eq_true rfl) (okX1_copyFrom_4 h) (fun I1 L2 h => ?_)
  refine Ev.aload_n (k := 0) (pc' := 12) dX10_copyFrom_11 rfl rfl rfl ?_
  refine Ev.getR (pc' := 15) dX10_copyFrom_12 rfl fa_RX10_21 ob_3 fk_10_1 rf_3_1 ?_
  refine Ev.aload_n (k := 1) (pc' := 16) dX10_copyFrom_15 rfl rfl rfl ?_
  refine Ev.getR (pc' := 19) dX10_copyFrom_16 rfl fa_RX10_21 ob_26 fk_10_1 rf_26_1 ?_
  refine Ef.callVV [.ref _] [] (pc' := 22) dX10_copyFrom_19 rfl cv_RX10_82_X4_copyFrom_10 ⟨Nat.le_of_ble_eq_true rfl, Nat.le_of_ble_eq_true rfl⟩ ob_10 rfl rfl rfl (Nat.le_of_ble_eq_true rfl) (okX4_copyFrom_10 h) (fun I3 L4 h => ?_)
  refine Ev.aload_n (k := 0) (pc' := 23) dX10_copyFrom_22 rfl rfl rfl ?_
  refine Ev.aload_n (k := 1) (pc' := 24) dX10_copyFrom_23 rfl rfl rfl ?_
  refine Ev.getI (pc' := 27) dX10_copyFrom_24 rfl fa_RX10_65 ob_26 fk_10_2 ?_
  refine Ev.putI (pc' := 30) dX10_copyFrom_27 rfl fa_RX10_65 ob_3 fk_10_2 rfl rfl (fun I5 eI5 => ?_)
  have h := h I5 eI5
  refine Ev.aload_n (k := 0) (pc' := 31) dX10_copyFrom_30 rfl rfl rfl ?_
  refine Ev.aload_n (k := 1) (pc' := 32) dX10_copyFrom_31 rfl rfl rfl ?_
  refine Ev.getI (pc' := 35) dX10_copyFrom_32 rfl fa_RX10_69 ob_26 fk_10_3 ?_
  refine Ev.putI (pc' := 38) dX10_copyFrom_35 rfl fa_RX10_69 ob_3 fk_10_3 rfl rfl (fun I6 eI6 => ?_)
  have h := h I6 eI6
  refine Ev.aload_n (k := 0) (pc' := 39) dX10_copyFrom_38 rfl rfl rfl ?_
  refine Ev.aload_n (k := 1) (pc' := 40) dX10_copyFrom_39 rfl rfl rfl ?_
  refine Ev.getI (pc' := 43) dX10_copyFrom_40 rfl fa_RX10_72 ob_26 fk_10_4 ?_
  refine Ev.putI (pc' := 46) dX10_copyFrom_43 rfl fa_RX10_72 ob_3 fk_10_4 rfl rfl (fun I7 eI7 => ?_)
  have h := h I7 eI7
  refine Ev.aload_n (k := 0) (pc' := 47) dX10_copyFrom_46 rfl rfl rfl ?_
  refine Ev.aload_n (k := 1) (pc' := 48) dX10_copyFrom_47 rfl rfl rfl ?_
  refine Ev.getI (pc' := 51) dX10_copyFrom_48 rfl fa_RX10_75 ob_26 fk_10_5 ?_
  refine Ev.putI (pc' := 54) dX10_copyFrom_51 rfl fa_RX10_75 ob_3 fk_10_5 rfl rfl (fun I8 eI8 => ?_)
  have h := h I8 eI8
  refine Ev.aload_n (k := 1) (pc' := 55) dX10_copyFrom_54 rfl rfl rfl ?_
  refine Ev.getR (pc' := 58) dX10_copyFrom_55 rfl fa_RX10_29 ob_26 fk_10_7 rf_26_7 ?_
  refine Ev.iconst (pc' := 59) dX10_copyFrom_58 rfl ki_0 ?_
  refine Ev.aload_n (k := 0) (pc' := 60) dX10_copyFrom_59 rfl rfl rfl ?_
  refine Ev.getR (pc' := 63) dX10_copyFrom_60 rfl fa_RX10_29 ob_3 fk_10_7 rf_3_7 ?_
  refine Ev.iconst (pc' := 64) dX10_copyFrom_63 rfl ki_0 ?_
  refine Ev.bipush (pc' := 66) dX10_copyFrom_64 rfl kb_10 ?_
  refine Ev.copyI (pc' := 69) dX10_copyFrom_66 rfl ac_RX10_85 ac_native ac_static ac_init ar_39 ar_16 rfl (by decide) (by decide) (by decide) (by decide) (by decide) (Nat.le_of_ble_eq_true rfl) (Nat.le_of_ble_eq_true rfl) (fun I9 eI9 => ?_)
  have h := h I9 eI9
  refine Ev.aload_n (k := 1) (pc' := 70) dX10_copyFrom_69 rfl rfl rfl ?_
  refine Ev.getR (pc' := 73) dX10_copyFrom_70 rfl fa_RX10_33 ob_26 fk_10_8 rf_26_8 ?_
  refine Ev.iconst (pc' := 74) dX10_copyFrom_73 rfl ki_0 ?_
  refine Ev.aload_n (k := 0) (pc' := 75) dX10_copyFrom_74 rfl rfl rfl ?_
  refine Ev.getR (pc' := 78) dX10_copyFrom_75 rfl fa_RX10_33 ob_3 fk_10_8 rf_3_8 ?_
  refine Ev.iconst (pc' := 79) dX10_copyFrom_78 rfl ki_0 ?_
  refine Ev.bipush (pc' := 81) dX10_copyFrom_79 rfl kb_10 ?_
  refine Ev.copyI (pc' := 84) dX10_copyFrom_81 rfl ac_RX10_85 ac_native ac_static ac_init ar_40 ar_17 rfl (by decide) (by decide) (by decide) (by decide) (by decide) (Nat.le_of_ble_eq_true rfl) (Nat.le_of_ble_eq_true rfl) (fun I10 eI10 => ?_)
  have h := h I10 eI10
  refine Ev.aload_n (k := 1) (pc' := 85) dX10_copyFrom_84 rfl rfl rfl ?_
  refine Ev.getR (pc' := 88) dX10_copyFrom_85 rfl fa_RX10_36 ob_26 fk_10_9 rf_26_9 ?_
  refine Ev.iconst (pc' := 89) dX10_copyFrom_88 rfl ki_0 ?_
  refine Ev.aload_n (k := 0) (pc' := 90) dX10_copyFrom_89 rfl rfl rfl ?_
  refine Ev.getR (pc' := 93) dX10_copyFrom_90 rfl fa_RX10_36 ob_3 fk_10_9 rf_3_9 ?_
  refine Ev.iconst (pc' := 94) dX10_copyFrom_93 rfl ki_0 ?_
  refine Ev.bipush (pc' := 96) dX10_copyFrom_94 rfl kb_10 ?_
  refine Ev.copyI (pc' := 99) dX10_copyFrom_96 rfl ac_RX10_85 ac_native ac_static ac_init ar_41 ar_18 rfl (by decide) (by decide) (by decide) (by decide) (by decide) (Nat.le_of_ble_eq_true rfl) (Nat.le_of_ble_eq_true rfl) (fun I11 eI11 => ?_)
  have h := h I11 eI11
  refine Ev.aload_n (k := 1) (pc' := 100) dX10_copyFrom_99 rfl rfl rfl ?_
  refine Ev.getR (pc' := 103) dX10_copyFrom_100 rfl fa_RX10_39 ob_26 fk_10_10 rf_26_10 ?_
  refine Ev.iconst (pc' := 104) dX10_copyFrom_103 rfl ki_0 ?_
  refine Ev.aload_n (k := 0) (pc' := 105) dX10_copyFrom_104 rfl rfl rfl ?_
  refine Ev.getR (pc' := 108) dX10_copyFrom_105 rfl fa_RX10_39 ob_3 fk_10_10 rf_3_10 ?_
  refine Ev.iconst (pc' := 109) dX10_copyFrom_108 rfl ki_0 ?_
  refine Ev.bipush (pc' := 111) dX10_copyFrom_109 rfl kb_10 ?_
  refine Ev.copyI (pc' := 114) dX10_copyFrom_111 rfl ac_RX10_85 ac_native ac_static ac_init ar_42 ar_19 rfl (by decide) (by decide) (by decide) (by decide) (by decide) (Nat.le_of_ble_eq_true rfl) (Nat.le_of_ble_eq_true rfl) (fun I12 eI12 => ?_)
  have h := h I12 eI12
  refine Ev.iconst (pc' := 115) dX10_copyFrom_114 rfl ki_0 ?_
  refine Ev.istore_n (ls' := [(2, .int _), (0, .ref _), (1, .ref _)]) (pc' := 116) dX10_copyFrom_115 rfl rfl (Nat.le_of_ble_eq_true rfl) rfl ?_
  exact Ev.sub [1, 2, 0] rfl (okX10_copyFrom_3_h116 h)
def wpX2_beginIn_l67 (o0 : Nat) (Q : Ix → Lx → Prop) (P67 : Int32 → Ix → Lx → Prop) (v2 : Int32) (I : Ix) (L : Lx) : Prop := (6 ≤ v2 → Q I L) ∧ (¬ 6 ≤ v2 → vp_in v2 6 ∧ vp_in v2 6 ∧ ∀ I1 : Ix, I1 = pu I (o0 + 6) v2.toNatClampNeg (I 22 v2.toNatClampNeg) → vp_in v2 6 ∧ ∀ I2 : Ix, I2 = pu I1 (o0 + 7) v2.toNatClampNeg 0 → P67 (v2 + 1) I2 L)
def wpX2_beginIn_h67 (o0 : Nat) (Q : Ix → Lx → Prop) (v2 : Int32) (I : Ix) (L : Lx) : Prop := Lfp (X := Int32 × Ix × Lx) (fun P z => wpX2_beginIn_l67 o0 Q (fun v2 I L => P (v2, I, L)) z.1 z.2.1 z.2.2) (v2, I, L)
theorem wpX2_beginIn_h67_fold {o0 : Nat} {Q : Ix → Lx → Prop} {v2 : Int32} {I : Ix} {L : Lx} (h : wpX2_beginIn_l67 o0 Q (wpX2_beginIn_h67 o0 Q) v2 I L) : wpX2_beginIn_h67 o0 Q v2 I L := Lfp.fold h
def wpX2_beginIn_l12 (o0 : Nat) (Q : Ix → Lx → Prop) (P12 : Int32 → Ix → Lx → Prop) (v2 : Int32) (I : Ix) (L : Lx) : Prop := (10 ≤ v2 → wpX2_beginIn_h67 o0 Q 0 I L) ∧ (¬ 10 ≤ v2 → vp_in v2 10 ∧ ∀ I1 : Ix, I1 = pu I (o0 + 1) v2.toNatClampNeg (-1) → vp_in v2 10 ∧ ∀ I2 : Ix, I2 = pu I1 (o0 + 2) v2.toNatClampNeg 100 → vp_in v2 10 ∧ ∀ I3 : Ix, I3 = pu I2 (o0 + 3) v2.toNatClampNeg 0 → vp_in v2 10 ∧ vp_in v2 10 ∧ ∀ I4 : Ix, I4 = pu I3 (o0 + 4) v2.toNatClampNeg (I3 17 v2.toNatClampNeg) → vp_in v2 10 ∧ ∀ I5 : Ix, I5 = pu I4 (o0 + 5) v2.toNatClampNeg 0 → P12 (v2 + 1) I5 L)
def wpX2_beginIn_h12 (o0 : Nat) (Q : Ix → Lx → Prop) (v2 : Int32) (I : Ix) (L : Lx) : Prop := Lfp (X := Int32 × Ix × Lx) (fun P z => wpX2_beginIn_l12 o0 Q (fun v2 I L => P (v2, I, L)) z.1 z.2.1 z.2.2) (v2, I, L)
theorem wpX2_beginIn_h12_fold {o0 : Nat} {Q : Ix → Lx → Prop} {v2 : Int32} {I : Ix} {L : Lx} (h : wpX2_beginIn_l12 o0 Q (wpX2_beginIn_h12 o0 Q) v2 I L) : wpX2_beginIn_h12 o0 Q v2 I L := Lfp.fold h
def wpX2_beginIn (o0 : Nat) (I : Ix) (L : Lx) (Q : Ix → Lx → Prop) : Prop := ∀ I1 : Ix, I1 = pu I o0 0 0 → ∀ I2 : Ix, I2 = pu I1 o0 1 0 → wpX2_beginIn_h12 o0 Q 0 I2 L
set_option maxRecDepth 10000 in
theorem okX2_beginIn_l67 {G : Gx} {o0 : Nat} (ho0 : NowAt o0) {Q : Ix → Lx → Prop} {P67 : Int32 → Ix → Lx → Prop} (hP67 : ∀ (v2 : Int32) (I : Ix) (L : Lx), P67 v2 I L → Ef G MX2_beginIn (qV Q) 67 [(0, .ref o0), (1, .ref 3), (2, .int v2)] [] I L) {v2 : Int32} {I : Ix} {L : Lx} (h : wpX2_beginIn_l67 o0 Q P67 v2 I L) : Ef G MX2_beginIn (qV Q) 67 [(0, .ref o0), (1, .ref 3), (2, .int v2)] [] I L := by
  unfold wpX2_beginIn_l67 at h
  refine Ev.iload_n (k := 2) (pc' := 68) dX2_beginIn_67 rfl rfl rfl ?_
  refine Ev.bipush (pc' := 70) dX2_beginIn_68 rfl kb_6 ?_
  refine Ev.icmp_ge (pc' := 73) (tgt := 98) dX2_beginIn_70 rfl rfl (fun hc => ?_) (fun hc => ?_)
  · have h := h.1 hc
    exact Ef.vret dX2_beginIn_98 rfl h
  · have h := h.2 hc
    refine Ev.aload_n (k := 0) (pc' := 74) dX2_beginIn_73 rfl rfl rfl ?_
    refine Ev.getR (pc' := 77) dX2_beginIn_74 rfl fa_RX2_32 (nowOB ho0) fk_2_8 (nowR6 ho0) ?_
    refine Ev.iload_n (k := 2) (pc' := 78) dX2_beginIn_77 rfl rfl rfl ?_
    refine Ev.aload_n (k := 1) (pc' := 79) dX2_beginIn_78 rfl rfl rfl ?_
    refine Ev.getR (pc' := 82) dX2_beginIn_79 rfl fa_RX2_50 ob_3 fk_10_13 rf_3_13 ?_
    refine Ev.iload_n (k := 2) (pc' := 83) dX2_beginIn_82 rfl rfl rfl ?_
    refine Ev.iaload (j := _) (pc' := 84) dX2_beginIn_83 rfl ar_22 h.1 rfl ?_
    have h := h.2
    refine Ev.iastore (j := _) (pc' := 85) dX2_beginIn_84 rfl (nowA6 ho0) h.1 rfl (fun I1 eI1 => ?_)
    have h := h.2 I1 eI1
    refine Ev.aload_n (k := 0) (pc' := 86) dX2_beginIn_85 rfl rfl rfl ?_
    refine Ev.getR (pc' := 89) dX2_beginIn_86 rfl fa_RX2_35 (nowOB ho0) fk_2_9 (nowR7 ho0) ?_
    refine Ev.iload_n (k := 2) (pc' := 90) dX2_beginIn_89 rfl rfl rfl ?_
    refine Ev.iconst (pc' := 91) dX2_beginIn_90 rfl ki_0 ?_
    refine Ev.iastore (j := _) (pc' := 92) dX2_beginIn_91 rfl (nowA7 ho0) h.1 rfl (fun I2 eI2 => ?_)
    have h := h.2 I2 eI2
    refine Ev.iinc (k := 2) (v := _) (ls' := [(2, .int _), (0, .ref _), (1, .ref _)]) (pc' := 95) dX2_beginIn_92 rfl rfl (congrArg (_ + ·) ki_1) (Nat.le_of_ble_eq_true rfl) rfl ?_
    refine Ev.goto (tgt := 67) dX2_beginIn_95 rfl ?_
    exact Ev.sub [1, 2, 0] rfl (hP67 _ _ _ h)
set_option maxRecDepth 10000 in
theorem okX2_beginIn_h67 {G : Gx} {o0 : Nat} (ho0 : NowAt o0) {Q : Ix → Lx → Prop} {v2 : Int32} {I : Ix} {L : Lx} (h : wpX2_beginIn_h67 o0 Q v2 I L) : Ef G MX2_beginIn (qV Q) 67 [(0, .ref o0), (1, .ref 3), (2, .int v2)] [] I L := by
  unfold wpX2_beginIn_h67 at h
  refine Lfp.ind (P := fun z => Ef G MX2_beginIn (qV Q) 67 [(0, .ref o0), (1, .ref 3), (2, .int z.1)] [] z.2.1 z.2.2) ?_ h
  intro z P' hP' h
  obtain ⟨v2, I, L⟩ := z
  exact okX2_beginIn_l67 ho0 (fun v2 I L h9 => hP' (v2, I, L) h9) h
set_option maxRecDepth 10000 in
theorem okX2_beginIn_l12 {G : Gx} {o0 : Nat} (ho0 : NowAt o0) {Q : Ix → Lx → Prop} {P12 : Int32 → Ix → Lx → Prop} (hP12 : ∀ (v2 : Int32) (I : Ix) (L : Lx), P12 v2 I L → Ef G MX2_beginIn (qV Q) 12 [(0, .ref o0), (1, .ref 3), (2, .int v2)] [] I L) {v2 : Int32} {I : Ix} {L : Lx} (h : wpX2_beginIn_l12 o0 Q P12 v2 I L) : Ef G MX2_beginIn (qV Q) 12 [(0, .ref o0), (1, .ref 3), (2, .int v2)] [] I L := by
  unfold wpX2_beginIn_l12 at h
  refine Ev.iload_n (k := 2) (pc' := 13) dX2_beginIn_12 rfl rfl rfl ?_
  refine Ev.bipush (pc' := 15) dX2_beginIn_13 rfl kb_10 ?_
  refine Ev.icmp_ge (pc' := 18) (tgt := 65) dX2_beginIn_15 rfl rfl (fun hc => ?_) (fun hc => ?_)
  · have h := h.1 hc
    refine Ev.iconst (pc' := 66) dX2_beginIn_65 rfl ki_0 ?_
    refine Ev.istore_n (ls' := [(2, .int _), (0, .ref _), (1, .ref _)]) (pc' := 67) dX2_beginIn_66 rfl rfl (Nat.le_of_ble_eq_true rfl) rfl ?_
    exact Ev.sub [1, 2, 0] rfl (okX2_beginIn_h67 ho0 h)
  · have h := h.2 hc
    refine Ev.aload_n (k := 0) (pc' := 19) dX2_beginIn_18 rfl rfl rfl ?_
    refine Ev.getR (pc' := 22) dX2_beginIn_19 rfl fa_RX2_15 (nowOB ho0) fk_2_3 (nowR1 ho0) ?_
    refine Ev.iload_n (k := 2) (pc' := 23) dX2_beginIn_22 rfl rfl rfl ?_
    refine Ev.iconst (pc' := 24) dX2_beginIn_23 rfl ki_m1 ?_
    refine Ev.iastore (j := _) (pc' := 25) dX2_beginIn_24 rfl (nowA1 ho0) h.1 rfl (fun I1 eI1 => ?_)
    have h := h.2 I1 eI1
    refine Ev.aload_n (k := 0) (pc' := 26) dX2_beginIn_25 rfl rfl rfl ?_
    refine Ev.getR (pc' := 29) dX2_beginIn_26 rfl fa_RX2_19 (nowOB ho0) fk_2_4 (nowR2 ho0) ?_
    refine Ev.iload_n (k := 2) (pc' := 30) dX2_beginIn_29 rfl rfl rfl ?_
    refine Ev.bipush (pc' := 32) dX2_beginIn_30 rfl kb_100 ?_
    refine Ev.iastore (j := _) (pc' := 33) dX2_beginIn_32 rfl (nowA2 ho0) h.1 rfl (fun I2 eI2 => ?_)
    have h := h.2 I2 eI2
    refine Ev.aload_n (k := 0) (pc' := 34) dX2_beginIn_33 rfl rfl rfl ?_
    refine Ev.getR (pc' := 37) dX2_beginIn_34 rfl fa_RX2_22 (nowOB ho0) fk_2_5 (nowR3 ho0) ?_
    refine Ev.iload_n (k := 2) (pc' := 38) dX2_beginIn_37 rfl rfl rfl ?_
    refine Ev.iconst (pc' := 39) dX2_beginIn_38 rfl ki_0 ?_
    refine Ev.iastore (j := _) (pc' := 40) dX2_beginIn_39 rfl (nowA3 ho0) h.1 rfl (fun I3 eI3 => ?_)
    have h := h.2 I3 eI3
    refine Ev.aload_n (k := 0) (pc' := 41) dX2_beginIn_40 rfl rfl rfl ?_
    refine Ev.getR (pc' := 44) dX2_beginIn_41 rfl fa_RX2_25 (nowOB ho0) fk_2_6 (nowR4 ho0) ?_
    refine Ev.iload_n (k := 2) (pc' := 45) dX2_beginIn_44 rfl rfl rfl ?_
    refine Ev.aload_n (k := 1) (pc' := 46) dX2_beginIn_45 rfl rfl rfl ?_
    refine Ev.getR (pc' := 49) dX2_beginIn_46 rfl fa_RX2_47 ob_3 fk_10_8 rf_3_8 ?_
    refine Ev.iload_n (k := 2) (pc' := 50) dX2_beginIn_49 rfl rfl rfl ?_
    refine Ev.iaload (j := _) (pc' := 51) dX2_beginIn_50 rfl ar_17 h.1 rfl ?_
    have h := h.2
    refine Ev.iastore (j := _) (pc' := 52) dX2_beginIn_51 rfl (nowA4 ho0) h.1 rfl (fun I4 eI4 => ?_)
    have h := h.2 I4 eI4
    refine Ev.aload_n (k := 0) (pc' := 53) dX2_beginIn_52 rfl rfl rfl ?_
    refine Ev.getR (pc' := 56) dX2_beginIn_53 rfl fa_RX2_28 (nowOB ho0) fk_2_7 (nowR5 ho0) ?_
    refine Ev.iload_n (k := 2) (pc' := 57) dX2_beginIn_56 rfl rfl rfl ?_
    refine Ev.iconst (pc' := 58) dX2_beginIn_57 rfl ki_0 ?_
    refine Ev.zastore (j := _) (y := 0) (pc' := 59) dX2_beginIn_58 rfl (nowA5 ho0) h.1 rfl (by decide) (fun I5 eI5 => ?_)
    have h := h.2 I5 eI5
    refine Ev.iinc (k := 2) (v := _) (ls' := [(2, .int _), (0, .ref _), (1, .ref _)]) (pc' := 62) dX2_beginIn_59 rfl rfl (congrArg (_ + ·) ki_1) (Nat.le_of_ble_eq_true rfl) rfl ?_
    refine Ev.goto (tgt := 12) dX2_beginIn_62 rfl ?_
    exact Ev.sub [1, 2, 0] rfl (hP12 _ _ _ h)
set_option maxRecDepth 10000 in
theorem okX2_beginIn_h12 {G : Gx} {o0 : Nat} (ho0 : NowAt o0) {Q : Ix → Lx → Prop} {v2 : Int32} {I : Ix} {L : Lx} (h : wpX2_beginIn_h12 o0 Q v2 I L) : Ef G MX2_beginIn (qV Q) 12 [(0, .ref o0), (1, .ref 3), (2, .int v2)] [] I L := by
  unfold wpX2_beginIn_h12 at h
  refine Lfp.ind (P := fun z => Ef G MX2_beginIn (qV Q) 12 [(0, .ref o0), (1, .ref 3), (2, .int z.1)] [] z.2.1 z.2.2) ?_ h
  intro z P' hP' h
  obtain ⟨v2, I, L⟩ := z
  exact okX2_beginIn_l12 ho0 (fun v2 I L h9 => hP' (v2, I, L) h9) h
set_option maxRecDepth 10000 in
theorem okX2_beginIn {G : Gx} {o0 : Nat} (ho0 : NowAt o0) {I : Ix} {L : Lx} {Q : Ix → Lx → Prop} (h : wpX2_beginIn o0 I L Q) : Mf G MX2_beginIn [.ref o0, .ref 3] I L (qV Q) := by
  unfold wpX2_beginIn at h
  refine Mf.of pn_RX2 (Nat.le_of_ble_eq_true rfl) ?_
  refine Ev.aload_n (k := 0) (pc' := 1) dX2_beginIn_0 rfl rfl rfl ?_
  refine Ev.iconst (pc' := 2) dX2_beginIn_1 rfl ki_0 ?_
  refine Ev.putI (pc' := 5) dX2_beginIn_2 rfl fa_RX2_41 (nowOB ho0) fk_2_0 rfl rfl (fun I1 eI1 => ?_)
  have h := h I1 eI1
  refine Ev.aload_n (k := 0) (pc' := 6) dX2_beginIn_5 rfl rfl rfl ?_
  refine Ev.iconst (pc' := 7) dX2_beginIn_6 rfl ki_0 ?_
  refine Ev.putI (pc' := 10) dX2_beginIn_7 rfl fa_RX2_44 (nowOB ho0) fk_2_1 rfl rfl (fun I2 eI2 => ?_)
  have h := h I2 eI2
  refine Ev.iconst (pc' := 11) dX2_beginIn_10 rfl ki_0 ?_
  refine Ev.istore_n (ls' := [(2, .int _), (0, .ref _), (1, .ref _)]) (pc' := 12) dX2_beginIn_11 rfl rfl (Nat.le_of_ble_eq_true rfl) rfl ?_
  exact Ev.sub [1, 2, 0] rfl (okX2_beginIn_h12 ho0 h)
def wpX11_valley_l54 (Q : Int32 → Ix → Lx → Prop) (P54 : Int32 → Ix → Lx → Prop) (v2 : Int32) (I : Ix) (L : Lx) : Prop := (3 ≤ v2 → Q (I 3 3) I L) ∧ (¬ 3 ≤ v2 → vp_in v2 3 ∧ ∀ I1 : Ix, I1 = pu I 92 v2.toNatClampNeg 0 → P54 (v2 + 1) I1 L)
def wpX11_valley_h54 (Q : Int32 → Ix → Lx → Prop) (v2 : Int32) (I : Ix) (L : Lx) : Prop := Lfp (X := Int32 × Ix × Lx) (fun P z => wpX11_valley_l54 Q (fun v2 I L => P (v2, I, L)) z.1 z.2.1 z.2.2) (v2, I, L)
theorem wpX11_valley_h54_fold {Q : Int32 → Ix → Lx → Prop} {v2 : Int32} {I : Ix} {L : Lx} (h : wpX11_valley_l54 Q (wpX11_valley_h54 Q) v2 I L) : wpX11_valley_h54 Q v2 I L := Lfp.fold h
def wpX11_valley (I : Ix) (L : Lx) (Q : Int32 → Ix → Lx → Prop) : Prop := wpX3_readTape I L (fun r3 I1 L2 => ∀ I4 : Ix, I4 = pu I1 1 1 0 → (r3 = true → wpX10_copyFrom_3 I4 L2 (fun I5 L6 => wpX2_beginIn 53 I5 L6 (fun I7 L8 => ∀ I9 : Ix, I9 = pu I7 85 0 0 → wpX11_valley_h54 Q 0 I9 L8))) ∧ (r3 = false → Q (-1) I4 L2))
set_option maxRecDepth 10000 in
theorem okX11_valley_l54 {G : Gx} {Q : Int32 → Ix → Lx → Prop} {P54 : Int32 → Ix → Lx → Prop} (hP54 : ∀ (v2 : Int32) (I : Ix) (L : Lx), P54 v2 I L → Ef G MX11_valley (qI Q) 54 [(0, .ref 0), (2, .int v2)] [] I L) {v2 : Int32} {I : Ix} {L : Lx} (h : wpX11_valley_l54 Q P54 v2 I L) : Ef G MX11_valley (qI Q) 54 [(0, .ref 0), (2, .int v2)] [] I L := by
  unfold wpX11_valley_l54 at h
  refine Ev.iload_n (k := 1) (pc' := 55) dX11_valley_54 rfl rfl rfl ?_
  refine Ev.iconst (pc' := 56) dX11_valley_55 rfl ki_3 ?_
  refine Ev.icmp_ge (pc' := 59) (tgt := 72) dX11_valley_56 rfl rfl (fun hc => ?_) (fun hc => ?_)
  · have h := h.1 hc
    refine Ev.aload_n (k := 0) (pc' := 73) dX11_valley_72 rfl rfl rfl ?_
    refine Ev.getR (pc' := 76) dX11_valley_73 rfl fa_RX11_19 ob_0 fk_11_1 rf_0_1 ?_
    refine Ev.getI (pc' := 79) dX11_valley_76 rfl fa_RX11_105 ob_3 fk_10_3 ?_
    exact Ef.iret dX11_valley_79 rfl h
  · have h := h.2 hc
    refine Ev.aload_n (k := 0) (pc' := 60) dX11_valley_59 rfl rfl rfl ?_
    refine Ev.getR (pc' := 63) dX11_valley_60 rfl fa_RX11_80 ob_0 fk_11_10 rf_0_10 ?_
    refine Ev.iload_n (k := 1) (pc' := 64) dX11_valley_63 rfl rfl rfl ?_
    refine Ev.iconst (pc' := 65) dX11_valley_64 rfl ki_0 ?_
    refine Ev.zastore (j := _) (y := 0) (pc' := 66) dX11_valley_65 rfl ar_92 h.1 rfl (by decide) (fun I1 eI1 => ?_)
    have h := h.2 I1 eI1
    refine Ev.iinc (k := 1) (v := _) (ls' := [(2, .int _), (0, .ref _)]) (pc' := 69) dX11_valley_66 rfl rfl (congrArg (_ + ·) ki_1) (Nat.le_of_ble_eq_true rfl) rfl ?_
    refine Ev.goto (tgt := 54) dX11_valley_69 rfl ?_
    exact Ev.sub [1, 0] rfl (hP54 _ _ _ h)
set_option maxRecDepth 10000 in
theorem okX11_valley_h54 {G : Gx} {Q : Int32 → Ix → Lx → Prop} {v2 : Int32} {I : Ix} {L : Lx} (h : wpX11_valley_h54 Q v2 I L) : Ef G MX11_valley (qI Q) 54 [(0, .ref 0), (2, .int v2)] [] I L := by
  unfold wpX11_valley_h54 at h
  refine Lfp.ind (P := fun z => Ef G MX11_valley (qI Q) 54 [(0, .ref 0), (2, .int z.1)] [] z.2.1 z.2.2) ?_ h
  intro z P' hP' h
  obtain ⟨v2, I, L⟩ := z
  exact okX11_valley_l54 (fun v2 I L h9 => hP' (v2, I, L) h9) h
set_option maxRecDepth 10000 in
theorem okX11_valley {G : Gx} {I : Ix} {L : Lx} {Q : Int32 → Ix → Lx → Prop} (h : wpX11_valley I L Q) : Mf G MX11_valley [.ref 0] I L (qI Q) := by
  unfold wpX11_valley at h
  refine Mf.of pn_RX11 (Nat.le_of_ble_eq_true rfl) ?_
  refine Ev.aload_n (k := 0) (pc' := 1) dX11_valley_0 rfl rfl rfl ?_
  refine Ev.getR (pc' := 4) dX11_valley_1 rfl fa_RX11_31 ob_0 fk_11_3 rf_0_3 ?_
  refine Ef.callVZ [] [] (pc' := 7) dX11_valley_4 rfl cv_RX11_92_X3_readTape ⟨Nat.le_of_ble_eq_true rfl, Nat.le_of_ble_eq_true rfl⟩ ob_49 rfl rfl rfl (Nat.le_of_ble_eq_true rfl) (okX3_readTape h) (fun r3 I1 L2 h => ?_)
  refine Ev.istore_n (ls' := [(1, .int _), (0, .ref _)]) (pc' := 8) dX11_valley_7 rfl rfl (Nat.le_of_ble_eq_true rfl) rfl ?_
  refine Ev.aload_n (k := 1) (pc' := 9) dX11_valley_8 rfl rfl rfl ?_
  refine Ev.getR (pc' := 12) dX11_valley_9 rfl fa_RX11_10 ob_0 fk_11_0 rf_0_0 ?_
  refine Ev.iconst (pc' := 13) dX11_valley_12 rfl ki_0 ?_
  refine Ev.putI (pc' := 16) dX11_valley_13 rfl fa_RX11_84 ob_1 fk_7_1 rfl rfl (fun I4 eI4 => ?_)
  have h := h I4 eI4
  refine Ev.iload_n (k := 0) (pc' := 17) dX11_valley_16 rfl rfl rfl ?_
  refine Ef.ifz_ne (pc' := 20) (tgt := 22) dX11_valley_17 rfl rfl (fun hc => ?_) (fun hc => ?_)
  · have h := h.1 hc
    refine Ev.aload_n (k := 1) (pc' := 23) dX11_valley_22 rfl rfl rfl ?_
    refine Ev.getR (pc' := 26) dX11_valley_23 rfl fa_RX11_19 ob_0 fk_11_1 rf_0_1 ?_
    refine Ev.aload_n (k := 1) (pc' := 27) dX11_valley_26 rfl rfl rfl ?_
    refine Ev.getR (pc' := 30) dX11_valley_27 rfl fa_RX11_23 ob_0 fk_11_2 rf_0_2 ?_
    refine Ef.callVV [.ref _] [] (pc' := 33) dX11_valley_30 rfl cv_RX11_96_X10_copyFrom_3 ⟨Nat.le_of_ble_eq_true rfl, Nat.le_of_ble_eq_true rfl⟩ ob_3 rfl rfl rfl (Nat.le_of_ble_eq_true rfl) (okX10_copyFrom_3 h) (fun I5 L6 h => ?_)
    refine Ev.aload_n (k := 1) (pc' := 34) dX11_valley_33 rfl rfl rfl ?_
    refine Ev.getR (pc' := 37) dX11_valley_34 rfl fa_RX11_38 ob_0 fk_11_4 rf_0_4 ?_
    refine Ev.aload_n (k := 1) (pc' := 38) dX11_valley_37 rfl rfl rfl ?_
    refine Ev.getR (pc' := 41) dX11_valley_38 rfl fa_RX11_19 ob_0 fk_11_1 rf_0_1 ?_
    refine Ef.callVV [.ref _] [] (pc' := 44) dX11_valley_41 rfl cv_RX11_99_X2_beginIn ⟨Nat.le_of_ble_eq_true rfl, Nat.le_of_ble_eq_true rfl⟩ ob_53 rfl rfl rfl (Nat.le_of_ble_eq_true rfl) (okX2_beginIn nowAt_53 h) (fun I7 L8 h => ?_)
    refine Ev.aload_n (k := 1) (pc' := 45) dX11_valley_44 rfl rfl rfl ?_
    refine Ev.getR (pc' := 48) dX11_valley_45 rfl fa_RX11_72 ob_0 fk_11_8 rf_0_8 ?_
    refine Ev.iconst (pc' := 49) dX11_valley_48 rfl ki_0 ?_
    refine Ev.putI (pc' := 52) dX11_valley_49 rfl fa_RX11_102 ob_85 fk_6_0 rfl rfl (fun I9 eI9 => ?_)
    have h := h I9 eI9
    refine Ev.iconst (pc' := 53) dX11_valley_52 rfl ki_0 ?_
    refine Ev.istore_n (ls' := [(2, .int _), (1, .int _), (0, .ref _)]) (pc' := 54) dX11_valley_53 rfl rfl (Nat.le_of_ble_eq_true rfl) rfl ?_
    exact Ev.sub [2, 0] rfl (okX11_valley_h54 h)
  · have h := h.2 hc
    refine Ev.iconst (pc' := 21) dX11_valley_20 rfl ki_m1 ?_
    exact Ef.iret dX11_valley_21 rfl h
def wpX11_fault (a1 : Int32) (I : Ix) (L : Lx) (Q : Int32 → Ix → Lx → Prop) : Prop := (a1 = 0 → Q (I 49 7) I L) ∧ (a1 = 1 → Q (I 49 8) I L) ∧ (¬ a1 = 0 → ¬ a1 = 1 → Q (-1) I L)
set_option maxRecDepth 10000 in
theorem okX11_fault {G : Gx} {a1 : Int32} {I : Ix} {L : Lx} {Q : Int32 → Ix → Lx → Prop} (h : wpX11_fault a1 I L Q) : Mf G MX11_fault [.ref 0, .int a1] I L (qI Q) := by
  unfold wpX11_fault at h
  refine Mf.of pn_RX11 (Nat.le_of_ble_eq_true rfl) ?_
  refine Ev.iload_n (k := 1) (pc' := 1) dX11_fault_0 rfl rfl rfl ?_
  by_cases e0 : a1 = 0
  · refine Ev.lookup (off := 27) (tgt := 28) dX11_fault_1 (by decide) (by rw [e0]; decide) rfl ?_
    have h := h.1 e0
    refine Ev.aload_n (k := 0) (pc' := 29) dX11_fault_28 rfl rfl rfl ?_
    refine Ev.getR (pc' := 32) dX11_fault_29 rfl fa_RX11_31 ob_0 fk_11_3 rf_0_3 ?_
    refine Ev.getI (pc' := 35) dX11_fault_32 rfl fa_RX11_108 ob_49 fk_3_7 ?_
    exact Ef.iret dX11_fault_35 rfl h
  by_cases e1 : a1 = 1
  · refine Ev.lookup (off := 35) (tgt := 36) dX11_fault_1 (by decide) (by rw [e1]; decide) rfl ?_
    have h := h.2.1 e1
    refine Ev.aload_n (k := 0) (pc' := 37) dX11_fault_36 rfl rfl rfl ?_
    refine Ev.getR (pc' := 40) dX11_fault_37 rfl fa_RX11_31 ob_0 fk_11_3 rf_0_3 ?_
    refine Ev.getI (pc' := 43) dX11_fault_40 rfl fa_RX11_111 ob_49 fk_3_8 ?_
    exact Ef.iret dX11_fault_43 rfl h
  have h := h.2.2 e0 e1
  refine Ev.lookup (off := 43) (tgt := 44) dX11_fault_1 (by decide) ?_ rfl ?_
  · refine lk_out (fun q hq => ?_)
    simp only [List.mem_cons, List.not_mem_nil, or_false] at hq
    rcases hq with rfl | rfl
    · exact fun q9 => e0 (toInt_eq q9 (by decide))
    · exact fun q9 => e1 (toInt_eq q9 (by decide))
  · refine Ev.iconst (pc' := 45) dX11_fault_44 rfl ki_m1 ?_
    exact Ef.iret dX11_fault_45 rfl h
def wpX0_stoodAt (a1 : Int32) (a2 : Int32) (I : Ix) (L : Lx) (Q : Bool → Ix → Lx → Prop) : Prop := vp_in a1 6 ∧ ((I 66 a1.toNatClampNeg) = (-1) → Q false I L) ∧ (¬ (I 66 a1.toNatClampNeg) = (-1) → vp_in (I 66 a1.toNatClampNeg) 10 ∧ (¬ (I 16 (I 66 a1.toNatClampNeg).toNatClampNeg) = a2 → Q false I L) ∧ ((I 16 (I 66 a1.toNatClampNeg).toNatClampNeg) = a2 → Q true I L))
set_option maxRecDepth 10000 in
theorem okX0_stoodAt {G : Gx} {a1 : Int32} {a2 : Int32} {I : Ix} {L : Lx} {Q : Bool → Ix → Lx → Prop} (h : wpX0_stoodAt a1 a2 I L Q) : Mf G MX0_stoodAt [.ref 62, .int a1, .int a2] I L (qZ Q) := by
  unfold wpX0_stoodAt at h
  refine Mf.of pn_RX0 (Nat.le_of_ble_eq_true rfl) ?_
  refine Ev.aload_n (k := 0) (pc' := 1) dX0_stoodAt_0 rfl rfl rfl ?_
  refine Ev.getR (pc' := 4) dX0_stoodAt_1 rfl fa_RX0_21 ob_62 fk_0_4 rf_62_4 ?_
  refine Ev.iload_n (k := 1) (pc' := 5) dX0_stoodAt_4 rfl rfl rfl ?_
  refine Ev.iaload (j := _) (pc' := 6) dX0_stoodAt_5 rfl ar_66 h.1 rfl ?_
  have h := h.2
  refine Ev.istore_n (ls' := [(3, .int _), (0, .ref _), (1, .int _), (2, .int _)]) (pc' := 7) dX0_stoodAt_6 rfl rfl (Nat.le_of_ble_eq_true rfl) rfl ?_
  refine Ev.iload_n (k := 0) (pc' := 8) dX0_stoodAt_7 rfl rfl rfl ?_
  refine Ev.iconst (pc' := 9) dX0_stoodAt_8 rfl ki_m1 ?_
  refine Ev.icmp_eq (pc' := 12) (tgt := 29) dX0_stoodAt_9 rfl rfl (fun hc => ?_) (fun hc => ?_)
  · have h := h.1 hc
    refine Ev.iconst (pc' := 30) dX0_stoodAt_29 rfl ki_0 ?_
    exact Ef.zret (b := false) dX0_stoodAt_30 rfl h
  · have h := h.2 hc
    refine Ev.aload_n (k := 1) (pc' := 13) dX0_stoodAt_12 rfl rfl rfl ?_
    refine Ev.getR (pc' := 16) dX0_stoodAt_13 rfl fa_RX0_30 ob_62 fk_0_0 rf_62_0 ?_
    refine Ev.getR (pc' := 19) dX0_stoodAt_16 rfl fa_RX0_129 ob_3 fk_10_7 rf_3_7 ?_
    refine Ev.iload_n (k := 0) (pc' := 20) dX0_stoodAt_19 rfl rfl rfl ?_
    refine Ev.iaload (j := _) (pc' := 21) dX0_stoodAt_20 rfl ar_16 h.1 rfl ?_
    have h := h.2
    refine Ev.iload_n (k := 3) (pc' := 22) dX0_stoodAt_21 rfl rfl rfl ?_
    refine Ev.icmp_ne (pc' := 25) (tgt := 29) dX0_stoodAt_22 rfl rfl (fun hc => ?_) (fun hc => ?_)
    · have h := h.1 hc
      refine Ev.iconst (pc' := 30) dX0_stoodAt_29 rfl ki_0 ?_
      exact Ef.zret (b := false) dX0_stoodAt_30 rfl h
    · have h := h.2 hc
      refine Ev.iconst (pc' := 26) dX0_stoodAt_25 rfl ki_1 ?_
      refine Ev.goto (tgt := 30) dX0_stoodAt_26 rfl ?_
      exact Ef.zret (b := true) dX0_stoodAt_30 rfl h
def wpX1_minutes_4 (a1 : Int32) (a2 : Int32) (I : Ix) (L : Lx) (Q : Int32 → Ix → Lx → Prop) : Prop := vp_in ((a1 * 8) + a2) 64 ∧ Q (I 8 ((a1 * 8) + a2).toNatClampNeg) I L
set_option maxRecDepth 10000 in
theorem okX1_minutes_4 {G : Gx} {a1 : Int32} {a2 : Int32} {I : Ix} {L : Lx} {Q : Int32 → Ix → Lx → Prop} (h : wpX1_minutes_4 a1 a2 I L Q) : Mf G MX1_minutes_4 [.ref 4, .int a1, .int a2] I L (qI Q) := by
  unfold wpX1_minutes_4 at h
  refine Mf.of pn_RX1 (Nat.le_of_ble_eq_true rfl) ?_
  refine Ev.aload_n (k := 0) (pc' := 1) dX1_minutes_0 rfl rfl rfl ?_
  refine Ev.getR (pc' := 4) dX1_minutes_1 rfl fa_RX1_22 ob_4 fk_1_5 rf_4_5 ?_
  refine Ev.iload_n (k := 1) (pc' := 5) dX1_minutes_4 rfl rfl rfl ?_
  refine Ev.bipush (pc' := 7) dX1_minutes_5 rfl kb_8 ?_
  refine Ev.imul (pc' := 8) dX1_minutes_7 rfl ?_
  refine Ev.iload_n (k := 2) (pc' := 9) dX1_minutes_8 rfl rfl rfl ?_
  refine Ev.iadd (pc' := 10) dX1_minutes_9 rfl ?_
  refine Ev.iaload (j := _) (pc' := 11) dX1_minutes_10 rfl ar_8 h.1 rfl ?_
  have h := h.2
  exact Ef.iret dX1_minutes_11 rfl h
def wpX0_isInTime (o1 : Nat) (a2 : Int32) (a3 : Int32) (a4 : Int32) (I : Ix) (L : Lx) (Q : Bool → Ix → Lx → Prop) : Prop := vp_in a3 10 ∧ vp_in (I 16 a3.toNatClampNeg) 8 ∧ ((I 6 (I 16 a3.toNatClampNeg).toNatClampNeg) ≤ a4 → Q false I L) ∧ (¬ (I 6 (I 16 a3.toNatClampNeg).toNatClampNeg) ≤ a4 → vp_in a2 6 ∧ wpX1_minutes_4 (I (o1 + 6) a2.toNatClampNeg) (I 16 a3.toNatClampNeg) I L (fun r3 I1 L2 => (((I 6 (I 16 a3.toNatClampNeg).toNatClampNeg) - a4) < r3 → Q false I1 L2) ∧ (¬ ((I 6 (I 16 a3.toNatClampNeg).toNatClampNeg) - a4) < r3 → Q true I1 L2)))
set_option maxRecDepth 10000 in
theorem okX0_isInTime {G : Gx} {o1 : Nat} (ho1 : NowAt o1) {a2 : Int32} {a3 : Int32} {a4 : Int32} {I : Ix} {L : Lx} {Q : Bool → Ix → Lx → Prop} (h : wpX0_isInTime o1 a2 a3 a4 I L Q) : Mf G MX0_isInTime [.ref 62, .ref o1, .int a2, .int a3, .int a4] I L (qZ Q) := by
  unfold wpX0_isInTime at h
  refine Mf.of pn_RX0 (Nat.le_of_ble_eq_true rfl) ?_
  refine Ev.aload_n (k := 0) (pc' := 1) dX0_isInTime_0 rfl rfl rfl ?_
  refine Ev.getR (pc' := 4) dX0_isInTime_1 rfl fa_RX0_30 ob_62 fk_0_0 rf_62_0 ?_
  refine Ev.getR (pc' := 7) dX0_isInTime_4 rfl fa_RX0_129 ob_3 fk_10_7 rf_3_7 ?_
  refine Ev.iload_n (k := 3) (pc' := 8) dX0_isInTime_7 rfl rfl rfl ?_
  refine Ev.iaload (j := _) (pc' := 9) dX0_isInTime_8 rfl ar_16 h.1 rfl ?_
  have h := h.2
  refine Ev.istore (ls' := [(5, .int _), (0, .ref _), (1, .ref _), (2, .int _), (3, .int _), (4, .int _)]) (pc' := 11) dX0_isInTime_9 rfl (Nat.le_of_ble_eq_true rfl) rfl ?_
  refine Ev.aload_n (k := 1) (pc' := 12) dX0_isInTime_11 rfl rfl rfl ?_
  refine Ev.getR (pc' := 15) dX0_isInTime_12 rfl fa_RX0_30 ob_62 fk_0_0 rf_62_0 ?_
  refine Ev.getR (pc' := 18) dX0_isInTime_15 rfl fa_RX0_117 ob_3 fk_10_0 rf_3_0 ?_
  refine Ev.getR (pc' := 21) dX0_isInTime_18 rfl fa_RX0_139 ob_4 fk_1_3 rf_4_3 ?_
  refine Ev.iload (k := 0) (pc' := 23) dX0_isInTime_21 rfl rfl ?_
  refine Ev.iaload (j := _) (pc' := 24) dX0_isInTime_23 rfl ar_6 h.1 rfl ?_
  have h := h.2
  refine Ev.istore (ls' := [(6, .int _), (5, .int _), (0, .ref _), (1, .ref _), (2, .int _), (3, .int _), (4, .int _)]) (pc' := 26) dX0_isInTime_24 rfl (Nat.le_of_ble_eq_true rfl) rfl ?_
  refine Ev.iload (k := 0) (pc' := 28) dX0_isInTime_26 rfl rfl ?_
  refine Ev.iload (k := 6) (pc' := 30) dX0_isInTime_28 rfl rfl ?_
  refine Ev.icmp_le (pc' := 33) (tgt := 63) dX0_isInTime_30 rfl rfl (fun hc => ?_) (fun hc => ?_)
  · have h := h.1 hc
    refine Ev.iconst (pc' := 64) dX0_isInTime_63 rfl ki_0 ?_
    exact Ef.zret (b := false) dX0_isInTime_64 rfl h
  · have h := h.2 hc
    refine Ev.aload_n (k := 2) (pc' := 34) dX0_isInTime_33 rfl rfl rfl ?_
    refine Ev.getR (pc' := 37) dX0_isInTime_34 rfl fa_RX0_30 ob_62 fk_0_0 rf_62_0 ?_
    refine Ev.getR (pc' := 40) dX0_isInTime_37 rfl fa_RX0_117 ob_3 fk_10_0 rf_3_0 ?_
    refine Ev.aload_n (k := 3) (pc' := 41) dX0_isInTime_40 rfl rfl rfl ?_
    refine Ev.getR (pc' := 44) dX0_isInTime_41 rfl fa_RX0_148 (nowOB ho1) fk_2_8 (nowR6 ho1) ?_
    refine Ev.iload_n (k := 4) (pc' := 45) dX0_isInTime_44 rfl rfl rfl ?_
    refine Ev.iaload (j := _) (pc' := 46) dX0_isInTime_45 rfl (nowA6 ho1) h.1 rfl ?_
    have h := h.2
    refine Ev.iload (k := 1) (pc' := 48) dX0_isInTime_46 rfl rfl ?_
    refine Ef.callVI [.int _, .int _] [] (pc' := 51) dX0_isInTime_48 rfl cv_RX0_151_X1_minutes_4 ⟨Nat.le_of_ble_eq_true rfl, Nat.le_of_ble_eq_true rfl⟩ ob_4 rfl rfl rfl (Nat.le_of_ble_eq_true rfl) (okX1_minutes_4 h) (fun r3 I1 L2 h => ?_)
    refine Ev.iload (k := 0) (pc' := 53) dX0_isInTime_51 rfl rfl ?_
    refine Ev.iload (k := 6) (pc' := 55) dX0_isInTime_53 rfl rfl ?_
    refine Ev.isub (pc' := 56) dX0_isInTime_55 rfl ?_
    refine Ev.icmp_gt (pc' := 59) (tgt := 63) dX0_isInTime_56 rfl rfl (fun hc => ?_) (fun hc => ?_)
    · have h := h.1 hc
      refine Ev.iconst (pc' := 64) dX0_isInTime_63 rfl ki_0 ?_
      exact Ef.zret (b := false) dX0_isInTime_64 rfl h
    · have h := h.2 hc
      refine Ev.iconst (pc' := 60) dX0_isInTime_59 rfl ki_1 ?_
      refine Ev.goto (tgt := 64) dX0_isInTime_60 rfl ?_
      exact Ef.zret (b := true) dX0_isInTime_64 rfl h
def wpX4_value_10_b330 (Q : Int32 → Ix → Lx → Prop) (P10 : Int32 → Int32 → Int32 → Ix → Lx → Prop) (v1 : Int32) (v3 : Int32) (v4 : Int32) (v6 : Int32) (I : Ix) (L : Lx) : Prop := vp_in (v3 - 1) 80 ∧ ∀ I1 : Ix, I1 = pu I 14 (v3 - 1).toNatClampNeg v6 → P10 v1 v3 (v4 + 1) I1 L
def wpX4_value_10_b328 (Q : Int32 → Ix → Lx → Prop) (P10 : Int32 → Int32 → Int32 → Ix → Lx → Prop) (v1 : Int32) (v3 : Int32) (v4 : Int32) (t0 : Int32) (I : Ix) (L : Lx) : Prop := wpX4_value_10_b330 Q P10 v1 v3 v4 t0 I L
def wpX4_value_10_b323 (Q : Int32 → Ix → Lx → Prop) (P10 : Int32 → Int32 → Int32 → Ix → Lx → Prop) (v1 : Int32) (v3 : Int32) (v4 : Int32) (I : Ix) (L : Lx) : Prop := wpX4_value_10_b328 Q P10 v1 v3 v4 1 I L
def wpX4_value_10_b308 (Q : Int32 → Ix → Lx → Prop) (P10 : Int32 → Int32 → Int32 → Ix → Lx → Prop) (v1 : Int32) (v3 : Int32) (v4 : Int32) (t0 : Int32) (I : Ix) (L : Lx) : Prop := wpX4_value_10_b330 Q P10 v1 v3 v4 t0 I L
def wpX4_value_10_b307 (Q : Int32 → Ix → Lx → Prop) (P10 : Int32 → Int32 → Int32 → Ix → Lx → Prop) (v1 : Int32) (v3 : Int32) (v4 : Int32) (I : Ix) (L : Lx) : Prop := wpX4_value_10_b308 Q P10 v1 v3 v4 0 I L
def wpX4_value_10_b288 (Q : Int32 → Ix → Lx → Prop) (P10 : Int32 → Int32 → Int32 → Ix → Lx → Prop) (v1 : Int32) (v3 : Int32) (v4 : Int32) (t0 : Int32) (I : Ix) (L : Lx) : Prop := wpX4_value_10_b330 Q P10 v1 v3 v4 t0 I L
def wpX4_value_10_b271 (Q : Int32 → Ix → Lx → Prop) (P10 : Int32 → Int32 → Int32 → Ix → Lx → Prop) (v1 : Int32) (v3 : Int32) (v4 : Int32) (t0 : Int32) (I : Ix) (L : Lx) : Prop := wpX4_value_10_b330 Q P10 v1 v3 v4 t0 I L
def wpX4_value_10_b254 (Q : Int32 → Ix → Lx → Prop) (P10 : Int32 → Int32 → Int32 → Ix → Lx → Prop) (v1 : Int32) (v3 : Int32) (v4 : Int32) (t0 : Int32) (I : Ix) (L : Lx) : Prop := wpX4_value_10_b330 Q P10 v1 v3 v4 t0 I L
def wpX4_value_10_b116 (Q : Int32 → Ix → Lx → Prop) (P10 : Int32 → Int32 → Int32 → Ix → Lx → Prop) (v1 : Int32) (v3 : Int32) (v4 : Int32) (v5 : Int32) (I : Ix) (L : Lx) : Prop := (v3 ≤ 1 → P10 v1 v3 (v4 + 1) I L) ∧ (¬ v3 ≤ 1 → vp_in ((v3 + (-1)) - 1) 80 ∧ vp_in (v3 + (-1)) 80 ∧ (v5 = 20042 → wpX4_value_10_b330 Q P10 v1 (v3 + (-1)) v4 ((I 14 ((v3 + (-1)) - 1).toNatClampNeg) * (I 14 (v3 + (-1)).toNatClampNeg)) I L) ∧ (v5 = 20043 → wpX4_value_10_b330 Q P10 v1 (v3 + (-1)) v4 ((I 14 ((v3 + (-1)) - 1).toNatClampNeg) + (I 14 (v3 + (-1)).toNatClampNeg)) I L) ∧ (v5 = 20045 → wpX4_value_10_b330 Q P10 v1 (v3 + (-1)) v4 ((I 14 ((v3 + (-1)) - 1).toNatClampNeg) - (I 14 (v3 + (-1)).toNatClampNeg)) I L) ∧ (v5 = 20060 → ((I 14 (v3 + (-1)).toNatClampNeg) ≤ (I 14 ((v3 + (-1)) - 1).toNatClampNeg) → wpX4_value_10_b254 Q P10 v1 (v3 + (-1)) v4 0 I L) ∧ (¬ (I 14 (v3 + (-1)).toNatClampNeg) ≤ (I 14 ((v3 + (-1)) - 1).toNatClampNeg) → wpX4_value_10_b254 Q P10 v1 (v3 + (-1)) v4 1 I L)) ∧ (v5 = 20061 → (¬ (I 14 ((v3 + (-1)) - 1).toNatClampNeg) = (I 14 (v3 + (-1)).toNatClampNeg) → wpX4_value_10_b288 Q P10 v1 (v3 + (-1)) v4 0 I L) ∧ ((I 14 ((v3 + (-1)) - 1).toNatClampNeg) = (I 14 (v3 + (-1)).toNatClampNeg) → wpX4_value_10_b288 Q P10 v1 (v3 + (-1)) v4 1 I L)) ∧ (v5 = 20062 → ((I 14 ((v3 + (-1)) - 1).toNatClampNeg) ≤ (I 14 (v3 + (-1)).toNatClampNeg) → wpX4_value_10_b271 Q P10 v1 (v3 + (-1)) v4 0 I L) ∧ (¬ (I 14 ((v3 + (-1)) - 1).toNatClampNeg) ≤ (I 14 (v3 + (-1)).toNatClampNeg) → wpX4_value_10_b271 Q P10 v1 (v3 + (-1)) v4 1 I L)) ∧ (v5 = 20257 → ((I 14 ((v3 + (-1)) - 1).toNatClampNeg) = 0 → wpX4_value_10_b307 Q P10 v1 (v3 + (-1)) v4 I L) ∧ (¬ (I 14 ((v3 + (-1)) - 1).toNatClampNeg) = 0 → ((I 14 (v3 + (-1)).toNatClampNeg) = 0 → wpX4_value_10_b307 Q P10 v1 (v3 + (-1)) v4 I L) ∧ (¬ (I 14 (v3 + (-1)).toNatClampNeg) = 0 → wpX4_value_10_b308 Q P10 v1 (v3 + (-1)) v4 1 I L))) ∧ (¬ v5 = 20042 → ¬ v5 = 20043 → ¬ v5 = 20045 → ¬ v5 = 20060 → ¬ v5 = 20061 → ¬ v5 = 20062 → ¬ v5 = 20257 → (¬ (I 14 ((v3 + (-1)) - 1).toNatClampNeg) = 0 → wpX4_value_10_b323 Q P10 v1 (v3 + (-1)) v4 I L) ∧ ((I 14 ((v3 + (-1)) - 1).toNatClampNeg) = 0 → ((I 14 (v3 + (-1)).toNatClampNeg) = 0 → wpX4_value_10_b328 Q P10 v1 (v3 + (-1)) v4 0 I L) ∧ (¬ (I 14 (v3 + (-1)).toNatClampNeg) = 0 → wpX4_value_10_b323 Q P10 v1 (v3 + (-1)) v4 I L))))
def wpX4_value_10_b112 (Q : Int32 → Ix → Lx → Prop) (P10 : Int32 → Int32 → Int32 → Ix → Lx → Prop) (v1 : Int32) (v3 : Int32) (v4 : Int32) (t1 : Int32) (t2 : Int32) (I : Ix) (L : Lx) : Prop := vp_in t1 80 ∧ ∀ I1 : Ix, I1 = pu I 14 t1.toNatClampNeg t2 → P10 v1 v3 (v4 + 1) I1 L
def wpX4_value_10_b77 (Q : Int32 → Ix → Lx → Prop) (P10 : Int32 → Int32 → Int32 → Ix → Lx → Prop) (v1 : Int32) (v3 : Int32) (v4 : Int32) (v5 : Int32) (I : Ix) (L : Lx) : Prop := (¬ v5 = 20256 → wpX4_value_10_b116 Q P10 v1 v3 v4 v5 I L) ∧ (v5 = 20256 → (v3 ≤ 0 → wpX4_value_10_b116 Q P10 v1 v3 v4 v5 I L) ∧ (¬ v3 ≤ 0 → vp_in (v3 - 1) 80 ∧ (¬ (I 14 (v3 - 1).toNatClampNeg) = 0 → wpX4_value_10_b112 Q P10 v1 v3 v4 (v3 - 1) 0 I L) ∧ ((I 14 (v3 - 1).toNatClampNeg) = 0 → wpX4_value_10_b112 Q P10 v1 v3 v4 (v3 - 1) 1 I L)))
def wpX4_value_10_b70 (Q : Int32 → Ix → Lx → Prop) (P10 : Int32 → Int32 → Int32 → Ix → Lx → Prop) (v1 : Int32) (v3 : Int32) (v4 : Int32) (t1 : Int32) (t2 : Int32) (I : Ix) (L : Lx) : Prop := vp_in t1 80 ∧ ∀ I1 : Ix, I1 = pu I 14 t1.toNatClampNeg t2 → P10 v1 (v3 + 1) (v4 + 1) I1 L
def wpX4_value_10_l10 (Q : Int32 → Ix → Lx → Prop) (P10 : Int32 → Int32 → Int32 → Ix → Lx → Prop) (v1 : Int32) (v3 : Int32) (v4 : Int32) (I : Ix) (L : Lx) : Prop := vp_in v1 6 ∧ ((I 12 v1.toNatClampNeg) ≤ v4 → (v3 ≤ 0 → Q 0 I L) ∧ (¬ v3 ≤ 0 → Q (I 14 0) I L)) ∧ (¬ (I 12 v1.toNatClampNeg) ≤ v4 → vp_in v4 720 ∧ (20000 ≤ (I 13 v4.toNatClampNeg) → wpX4_value_10_b77 Q P10 v1 v3 v4 (I 13 v4.toNatClampNeg) I L) ∧ (¬ 20000 ≤ (I 13 v4.toNatClampNeg) → (80 ≤ v3 → wpX4_value_10_b77 Q P10 v1 v3 v4 (I 13 v4.toNatClampNeg) I L) ∧ (¬ 80 ≤ v3 → (10000 ≤ (I 13 v4.toNatClampNeg) → vp_in ((I 13 v4.toNatClampNeg) - 10000) 11 ∧ wpX4_value_10_b70 Q P10 v1 v3 v4 v3 (I 63 ((I 13 v4.toNatClampNeg) - 10000).toNatClampNeg) I L) ∧ (¬ 10000 ≤ (I 13 v4.toNatClampNeg) → wpX4_value_10_b70 Q P10 v1 v3 v4 v3 (I 13 v4.toNatClampNeg) I L))))
def wpX4_value_10_h10 (Q : Int32 → Ix → Lx → Prop) (v1 : Int32) (v3 : Int32) (v4 : Int32) (I : Ix) (L : Lx) : Prop := Lfp (X := Int32 × Int32 × Int32 × Ix × Lx) (fun P z => wpX4_value_10_l10 Q (fun v1 v3 v4 I L => P (v1, v3, v4, I, L)) z.1 z.2.1 z.2.2.1 z.2.2.2.1 z.2.2.2.2) (v1, v3, v4, I, L)
theorem wpX4_value_10_h10_fold {Q : Int32 → Ix → Lx → Prop} {v1 : Int32} {v3 : Int32} {v4 : Int32} {I : Ix} {L : Lx} (h : wpX4_value_10_l10 Q (wpX4_value_10_h10 Q) v1 v3 v4 I L) : wpX4_value_10_h10 Q v1 v3 v4 I L := Lfp.fold h
def wpX4_value_10 (a1 : Int32) (I : Ix) (L : Lx) (Q : Int32 → Ix → Lx → Prop) : Prop := vp_in a1 6 ∧ wpX4_value_10_h10 Q a1 0 (I 11 a1.toNatClampNeg) I L
set_option maxRecDepth 10000 in
theorem okX4_value_10_b330 {G : Gx} {Q : Int32 → Ix → Lx → Prop} {P10 : Int32 → Int32 → Int32 → Ix → Lx → Prop} (hP10 : ∀ (v1 : Int32) (v3 : Int32) (v4 : Int32) (I : Ix) (L : Lx), P10 v1 v3 v4 I L → Ef G MX4_value_10 (qI Q) 10 [(0, .ref 10), (1, .int v1), (2, .ref 63), (3, .int v3), (4, .int v4)] [] I L) {v1 : Int32} {v3 : Int32} {v4 : Int32} {v6 : Int32} {I : Ix} {L : Lx} (h : wpX4_value_10_b330 Q P10 v1 v3 v4 v6 I L) : Ef G MX4_value_10 (qI Q) 330 [(0, .ref 10), (1, .int v1), (2, .ref 63), (3, .int v3), (4, .int v4), (6, .int v6)] [] I L := by
  unfold wpX4_value_10_b330 at h
  refine Ev.aload_n (k := 0) (pc' := 331) dX4_value_330 rfl rfl rfl ?_
  refine Ev.getR (pc' := 334) dX4_value_331 rfl fa_RX4_21 ob_10 fk_4_5 rf_10_5 ?_
  refine Ev.iload_n (k := 3) (pc' := 335) dX4_value_334 rfl rfl rfl ?_
  refine Ev.iconst (pc' := 336) dX4_value_335 rfl ki_1 ?_
  refine Ev.isub (pc' := 337) dX4_value_336 rfl ?_
  refine Ev.iload (k := 5) (pc' := 339) dX4_value_337 rfl rfl ?_
  refine Ev.iastore (j := _) (pc' := 340) dX4_value_339 rfl ar_14 h.1 rfl (fun I1 eI1 => ?_)
  have h := h.2 I1 eI1
  refine Ev.iinc (k := 4) (v := _) (ls' := [(4, .int _), (0, .ref _), (1, .int _), (2, .ref _), (3, .int _), (6, .int _)]) (pc' := 343) dX4_value_340 rfl rfl (congrArg (_ + ·) ki_1) (Nat.le_of_ble_eq_true rfl) rfl ?_
  refine Ev.goto (tgt := 10) dX4_value_343 rfl ?_
  exact Ev.sub [1, 2, 3, 4, 0] rfl (hP10 _ _ _ _ _ h)
set_option maxRecDepth 10000 in
theorem okX4_value_10_b328 {G : Gx} {Q : Int32 → Ix → Lx → Prop} {P10 : Int32 → Int32 → Int32 → Ix → Lx → Prop} (hP10 : ∀ (v1 : Int32) (v3 : Int32) (v4 : Int32) (I : Ix) (L : Lx), P10 v1 v3 v4 I L → Ef G MX4_value_10 (qI Q) 10 [(0, .ref 10), (1, .int v1), (2, .ref 63), (3, .int v3), (4, .int v4)] [] I L) {v1 : Int32} {v3 : Int32} {v4 : Int32} {t0 : Int32} {I : Ix} {L : Lx} (h : wpX4_value_10_b328 Q P10 v1 v3 v4 t0 I L) : Ef G MX4_value_10 (qI Q) 328 [(0, .ref 10), (1, .int v1), (2, .ref 63), (3, .int v3), (4, .int v4)] [.int t0] I L := by
  unfold wpX4_value_10_b328 at h
  refine Ev.istore (ls' := [(6, .int _), (0, .ref _), (1, .int _), (2, .ref _), (3, .int _), (4, .int _)]) (pc' := 330) dX4_value_328 rfl (Nat.le_of_ble_eq_true rfl) rfl ?_
  exact Ev.sub [1, 2, 3, 4, 5, 0] rfl (okX4_value_10_b330 hP10 h)
set_option maxRecDepth 10000 in
theorem okX4_value_10_b323 {G : Gx} {Q : Int32 → Ix → Lx → Prop} {P10 : Int32 → Int32 → Int32 → Ix → Lx → Prop} (hP10 : ∀ (v1 : Int32) (v3 : Int32) (v4 : Int32) (I : Ix) (L : Lx), P10 v1 v3 v4 I L → Ef G MX4_value_10 (qI Q) 10 [(0, .ref 10), (1, .int v1), (2, .ref 63), (3, .int v3), (4, .int v4)] [] I L) {v1 : Int32} {v3 : Int32} {v4 : Int32} {I : Ix} {L : Lx} (h : wpX4_value_10_b323 Q P10 v1 v3 v4 I L) : Ef G MX4_value_10 (qI Q) 323 [(0, .ref 10), (1, .int v1), (2, .ref 63), (3, .int v3), (4, .int v4)] [] I L := by
  unfold wpX4_value_10_b323 at h
  refine Ev.iconst (pc' := 324) dX4_value_323 rfl ki_1 ?_
  refine Ev.goto (tgt := 328) dX4_value_324 rfl ?_
  exact okX4_value_10_b328 hP10 h
set_option maxRecDepth 10000 in
theorem okX4_value_10_b308 {G : Gx} {Q : Int32 → Ix → Lx → Prop} {P10 : Int32 → Int32 → Int32 → Ix → Lx → Prop} (hP10 : ∀ (v1 : Int32) (v3 : Int32) (v4 : Int32) (I : Ix) (L : Lx), P10 v1 v3 v4 I L → Ef G MX4_value_10 (qI Q) 10 [(0, .ref 10), (1, .int v1), (2, .ref 63), (3, .int v3), (4, .int v4)] [] I L) {v1 : Int32} {v3 : Int32} {v4 : Int32} {t0 : Int32} {I : Ix} {L : Lx} (h : wpX4_value_10_b308 Q P10 v1 v3 v4 t0 I L) : Ef G MX4_value_10 (qI Q) 308 [(0, .ref 10), (1, .int v1), (2, .ref 63), (3, .int v3), (4, .int v4)] [.int t0] I L := by
  unfold wpX4_value_10_b308 at h
  refine Ev.istore (ls' := [(6, .int _), (0, .ref _), (1, .int _), (2, .ref _), (3, .int _), (4, .int _)]) (pc' := 310) dX4_value_308 rfl (Nat.le_of_ble_eq_true rfl) rfl ?_
  refine Ev.goto (tgt := 330) dX4_value_310 rfl ?_
  exact Ev.sub [1, 2, 3, 4, 5, 0] rfl (okX4_value_10_b330 hP10 h)
set_option maxRecDepth 10000 in
theorem okX4_value_10_b307 {G : Gx} {Q : Int32 → Ix → Lx → Prop} {P10 : Int32 → Int32 → Int32 → Ix → Lx → Prop} (hP10 : ∀ (v1 : Int32) (v3 : Int32) (v4 : Int32) (I : Ix) (L : Lx), P10 v1 v3 v4 I L → Ef G MX4_value_10 (qI Q) 10 [(0, .ref 10), (1, .int v1), (2, .ref 63), (3, .int v3), (4, .int v4)] [] I L) {v1 : Int32} {v3 : Int32} {v4 : Int32} {I : Ix} {L : Lx} (h : wpX4_value_10_b307 Q P10 v1 v3 v4 I L) : Ef G MX4_value_10 (qI Q) 307 [(0, .ref 10), (1, .int v1), (2, .ref 63), (3, .int v3), (4, .int v4)] [] I L := by
  unfold wpX4_value_10_b307 at h
  refine Ev.iconst (pc' := 308) dX4_value_307 rfl ki_0 ?_
  exact okX4_value_10_b308 hP10 h
set_option maxRecDepth 10000 in
theorem okX4_value_10_b288 {G : Gx} {Q : Int32 → Ix → Lx → Prop} {P10 : Int32 → Int32 → Int32 → Ix → Lx → Prop} (hP10 : ∀ (v1 : Int32) (v3 : Int32) (v4 : Int32) (I : Ix) (L : Lx), P10 v1 v3 v4 I L → Ef G MX4_value_10 (qI Q) 10 [(0, .ref 10), (1, .int v1), (2, .ref 63), (3, .int v3), (4, .int v4)] [] I L) {v1 : Int32} {v3 : Int32} {v4 : Int32} {t0 : Int32} {I : Ix} {L : Lx} (h : wpX4_value_10_b288 Q P10 v1 v3 v4 t0 I L) : Ef G MX4_value_10 (qI Q) 288 [(0, .ref 10), (1, .int v1), (2, .ref 63), (3, .int v3), (4, .int v4)] [.int t0] I L := by
  unfold wpX4_value_10_b288 at h
  refine Ev.istore (ls' := [(6, .int _), (0, .ref _), (1, .int _), (2, .ref _), (3, .int _), (4, .int _)]) (pc' := 290) dX4_value_288 rfl (Nat.le_of_ble_eq_true rfl) rfl ?_
  refine Ev.goto (tgt := 330) dX4_value_290 rfl ?_
  exact Ev.sub [1, 2, 3, 4, 5, 0] rfl (okX4_value_10_b330 hP10 h)
set_option maxRecDepth 10000 in
theorem okX4_value_10_b271 {G : Gx} {Q : Int32 → Ix → Lx → Prop} {P10 : Int32 → Int32 → Int32 → Ix → Lx → Prop} (hP10 : ∀ (v1 : Int32) (v3 : Int32) (v4 : Int32) (I : Ix) (L : Lx), P10 v1 v3 v4 I L → Ef G MX4_value_10 (qI Q) 10 [(0, .ref 10), (1, .int v1), (2, .ref 63), (3, .int v3), (4, .int v4)] [] I L) {v1 : Int32} {v3 : Int32} {v4 : Int32} {t0 : Int32} {I : Ix} {L : Lx} (h : wpX4_value_10_b271 Q P10 v1 v3 v4 t0 I L) : Ef G MX4_value_10 (qI Q) 271 [(0, .ref 10), (1, .int v1), (2, .ref 63), (3, .int v3), (4, .int v4)] [.int t0] I L := by
  unfold wpX4_value_10_b271 at h
  refine Ev.istore (ls' := [(6, .int _), (0, .ref _), (1, .int _), (2, .ref _), (3, .int _), (4, .int _)]) (pc' := 273) dX4_value_271 rfl (Nat.le_of_ble_eq_true rfl) rfl ?_
  refine Ev.goto (tgt := 330) dX4_value_273 rfl ?_
  exact Ev.sub [1, 2, 3, 4, 5, 0] rfl (okX4_value_10_b330 hP10 h)
set_option maxRecDepth 10000 in
theorem okX4_value_10_b254 {G : Gx} {Q : Int32 → Ix → Lx → Prop} {P10 : Int32 → Int32 → Int32 → Ix → Lx → Prop} (hP10 : ∀ (v1 : Int32) (v3 : Int32) (v4 : Int32) (I : Ix) (L : Lx), P10 v1 v3 v4 I L → Ef G MX4_value_10 (qI Q) 10 [(0, .ref 10), (1, .int v1), (2, .ref 63), (3, .int v3), (4, .int v4)] [] I L) {v1 : Int32} {v3 : Int32} {v4 : Int32} {t0 : Int32} {I : Ix} {L : Lx} (h : wpX4_value_10_b254 Q P10 v1 v3 v4 t0 I L) : Ef G MX4_value_10 (qI Q) 254 [(0, .ref 10), (1, .int v1), (2, .ref 63), (3, .int v3), (4, .int v4)] [.int t0] I L := by
  unfold wpX4_value_10_b254 at h
  refine Ev.istore (ls' := [(6, .int _), (0, .ref _), (1, .int _), (2, .ref _), (3, .int _), (4, .int _)]) (pc' := 256) dX4_value_254 rfl (Nat.le_of_ble_eq_true rfl) rfl ?_
  refine Ev.goto (tgt := 330) dX4_value_256 rfl ?_
  exact Ev.sub [1, 2, 3, 4, 5, 0] rfl (okX4_value_10_b330 hP10 h)
set_option maxRecDepth 10000 in
theorem okX4_value_10_b116 {G : Gx} {Q : Int32 → Ix → Lx → Prop} {P10 : Int32 → Int32 → Int32 → Ix → Lx → Prop} (hP10 : ∀ (v1 : Int32) (v3 : Int32) (v4 : Int32) (I : Ix) (L : Lx), P10 v1 v3 v4 I L → Ef G MX4_value_10 (qI Q) 10 [(0, .ref 10), (1, .int v1), (2, .ref 63), (3, .int v3), (4, .int v4)] [] I L) {v1 : Int32} {v3 : Int32} {v4 : Int32} {v5 : Int32} {I : Ix} {L : Lx} (h : wpX4_value_10_b116 Q P10 v1 v3 v4 v5 I L) : Ef G MX4_value_10 (qI Q) 116 [(0, .ref 10), (1, .int v1), (2, .ref 63), (3, .int v3), (4, .int v4), (5, .int v5)] [] I L := by
  unfold wpX4_value_10_b116 at h
  refine Ev.iload_n (k := 3) (pc' := 117) dX4_value_116 rfl rfl rfl ?_
  refine Ev.iconst (pc' := 118) dX4_value_117 rfl ki_1 ?_
  refine Ev.icmp_le (pc' := 121) (tgt := 340) dX4_value_118 rfl rfl (fun hc => ?_) (fun hc => ?_)
  · have h := h.1 hc
    refine Ev.iinc (k := 4) (v := _) (ls' := [(4, .int _), (0, .ref _), (1, .int _), (2, .ref _), (3, .int _), (5, .int _)]) (pc' := 343) dX4_value_340 rfl rfl (congrArg (_ + ·) ki_1) (Nat.le_of_ble_eq_true rfl) rfl ?_
    refine Ev.goto (tgt := 10) dX4_value_343 rfl ?_
    exact Ev.sub [1, 2, 3, 4, 0] rfl (hP10 _ _ _ _ _ h)
  · have h := h.2 hc
    refine Ev.iinc (k := 3) (v := _) (ls' := [(3, .int _), (0, .ref _), (1, .int _), (2, .ref _), (4, .int _), (5, .int _)]) (pc' := 124) dX4_value_121 rfl rfl (congrArg (_ + ·) ki_m1) (Nat.le_of_ble_eq_true rfl) rfl ?_
    refine Ev.aload_n (k := 1) (pc' := 125) dX4_value_124 rfl rfl rfl ?_
    refine Ev.getR (pc' := 128) dX4_value_125 rfl fa_RX4_21 ob_10 fk_4_5 rf_10_5 ?_
    refine Ev.iload_n (k := 0) (pc' := 129) dX4_value_128 rfl rfl rfl ?_
    refine Ev.iconst (pc' := 130) dX4_value_129 rfl ki_1 ?_
    refine Ev.isub (pc' := 131) dX4_value_130 rfl ?_
    refine Ev.iaload (j := _) (pc' := 132) dX4_value_131 rfl ar_14 h.1 rfl ?_
    have h := h.2
    refine Ev.istore (ls' := [(6, .int _), (3, .int _), (0, .ref _), (1, .int _), (2, .ref _), (4, .int _), (5, .int _)]) (pc' := 134) dX4_value_132 rfl (Nat.le_of_ble_eq_true rfl) rfl ?_
    refine Ev.aload_n (k := 2) (pc' := 135) dX4_value_134 rfl rfl rfl ?_
    refine Ev.getR (pc' := 138) dX4_value_135 rfl fa_RX4_21 ob_10 fk_4_5 rf_10_5 ?_
    refine Ev.iload_n (k := 1) (pc' := 139) dX4_value_138 rfl rfl rfl ?_
    refine Ev.iaload (j := _) (pc' := 140) dX4_value_139 rfl ar_14 h.1 rfl ?_
    have h := h.2
    refine Ev.istore (ls' := [(7, .int _), (6, .int _), (3, .int _), (0, .ref _), (1, .int _), (2, .ref _), (4, .int _), (5, .int _)]) (pc' := 142) dX4_value_140 rfl (Nat.le_of_ble_eq_true rfl) rfl ?_
    refine Ev.iload (k := 7) (pc' := 144) dX4_value_142 rfl rfl ?_
    by_cases e0 : v5 = 20042
    · refine Ev.lookup (off := 88) (tgt := 232) dX4_value_144 (by decide) (by rw [e0]; decide) rfl ?_
      have h := h.1 e0
      refine Ev.iload (k := 1) (pc' := 234) dX4_value_232 rfl rfl ?_
      refine Ev.iload (k := 0) (pc' := 236) dX4_value_234 rfl rfl ?_
      refine Ev.imul (pc' := 237) dX4_value_236 rfl ?_
      refine Ev.istore (ls' := [(6, .int _), (7, .int _), (3, .int _), (0, .ref _), (1, .int _), (2, .ref _), (4, .int _), (5, .int _)]) (pc' := 239) dX4_value_237 rfl (Nat.le_of_ble_eq_true rfl) rfl ?_
      refine Ev.goto (tgt := 330) dX4_value_239 rfl ?_
      exact Ev.sub [3, 4, 5, 2, 6, 0] rfl (okX4_value_10_b330 hP10 h)
    by_cases e1 : v5 = 20043
    · refine Ev.lookup (off := 68) (tgt := 212) dX4_value_144 (by decide) (by rw [e1]; decide) rfl ?_
      have h := h.2.1 e1
      refine Ev.iload (k := 1) (pc' := 214) dX4_value_212 rfl rfl ?_
      refine Ev.iload (k := 0) (pc' := 216) dX4_value_214 rfl rfl ?_
      refine Ev.iadd (pc' := 217) dX4_value_216 rfl ?_
      refine Ev.istore (ls' := [(6, .int _), (7, .int _), (3, .int _), (0, .ref _), (1, .int _), (2, .ref _), (4, .int _), (5, .int _)]) (pc' := 219) dX4_value_217 rfl (Nat.le_of_ble_eq_true rfl) rfl ?_
      refine Ev.goto (tgt := 330) dX4_value_219 rfl ?_
      exact Ev.sub [3, 4, 5, 2, 6, 0] rfl (okX4_value_10_b330 hP10 h)
    by_cases e2 : v5 = 20045
    · refine Ev.lookup (off := 78) (tgt := 222) dX4_value_144 (by decide) (by rw [e2]; decide) rfl ?_
      have h := h.2.2.1 e2
      refine Ev.iload (k := 1) (pc' := 224) dX4_value_222 rfl rfl ?_
      refine Ev.iload (k := 0) (pc' := 226) dX4_value_224 rfl rfl ?_
      refine Ev.isub (pc' := 227) dX4_value_226 rfl ?_
      refine Ev.istore (ls' := [(6, .int _), (7, .int _), (3, .int _), (0, .ref _), (1, .int _), (2, .ref _), (4, .int _), (5, .int _)]) (pc' := 229) dX4_value_227 rfl (Nat.le_of_ble_eq_true rfl) rfl ?_
      refine Ev.goto (tgt := 330) dX4_value_229 rfl ?_
      exact Ev.sub [3, 4, 5, 2, 6, 0] rfl (okX4_value_10_b330 hP10 h)
    by_cases e3 : v5 = 20060
    · refine Ev.lookup (off := 98) (tgt := 242) dX4_value_144 (by decide) (by rw [e3]; decide) rfl ?_
      have h := h.2.2.2.1 e3
      refine Ev.iload (k := 1) (pc' := 244) dX4_value_242 rfl rfl ?_
      refine Ev.iload (k := 0) (pc' := 246) dX4_value_244 rfl rfl ?_
      refine Ev.icmp_ge (pc' := 249) (tgt := 253) dX4_value_246 rfl rfl (fun hc => ?_) (fun hc => ?_)
      · have h := h.1 hc
        refine Ev.iconst (pc' := 254) dX4_value_253 rfl ki_0 ?_
        exact Ev.sub [3, 4, 5, 2, 6] rfl (okX4_value_10_b254 hP10 h)
      · have h := h.2 hc
        refine Ev.iconst (pc' := 250) dX4_value_249 rfl ki_1 ?_
        refine Ev.goto (tgt := 254) dX4_value_250 rfl ?_
        exact Ev.sub [3, 4, 5, 2, 6] rfl (okX4_value_10_b254 hP10 h)
    by_cases e4 : v5 = 20061
    · refine Ev.lookup (off := 132) (tgt := 276) dX4_value_144 (by decide) (by rw [e4]; decide) rfl ?_
      have h := h.2.2.2.2.1 e4
      refine Ev.iload (k := 1) (pc' := 278) dX4_value_276 rfl rfl ?_
      refine Ev.iload (k := 0) (pc' := 280) dX4_value_278 rfl rfl ?_
      refine Ev.icmp_ne (pc' := 283) (tgt := 287) dX4_value_280 rfl rfl (fun hc => ?_) (fun hc => ?_)
      · have h := h.1 hc
        refine Ev.iconst (pc' := 288) dX4_value_287 rfl ki_0 ?_
        exact Ev.sub [3, 4, 5, 2, 6] rfl (okX4_value_10_b288 hP10 h)
      · have h := h.2 hc
        refine Ev.iconst (pc' := 284) dX4_value_283 rfl ki_1 ?_
        refine Ev.goto (tgt := 288) dX4_value_284 rfl ?_
        exact Ev.sub [3, 4, 5, 2, 6] rfl (okX4_value_10_b288 hP10 h)
    by_cases e5 : v5 = 20062
    · refine Ev.lookup (off := 115) (tgt := 259) dX4_value_144 (by decide) (by rw [e5]; decide) rfl ?_
      have h := h.2.2.2.2.2.1 e5
      refine Ev.iload (k := 1) (pc' := 261) dX4_value_259 rfl rfl ?_
      refine Ev.iload (k := 0) (pc' := 263) dX4_value_261 rfl rfl ?_
      refine Ev.icmp_le (pc' := 266) (tgt := 270) dX4_value_263 rfl rfl (fun hc => ?_) (fun hc => ?_)
      · have h := h.1 hc
        refine Ev.iconst (pc' := 271) dX4_value_270 rfl ki_0 ?_
        exact Ev.sub [3, 4, 5, 2, 6] rfl (okX4_value_10_b271 hP10 h)
      · have h := h.2 hc
        refine Ev.iconst (pc' := 267) dX4_value_266 rfl ki_1 ?_
        refine Ev.goto (tgt := 271) dX4_value_267 rfl ?_
        exact Ev.sub [3, 4, 5, 2, 6] rfl (okX4_value_10_b271 hP10 h)
    by_cases e6 : v5 = 20257
    · refine Ev.lookup (off := 149) (tgt := 293) dX4_value_144 (by decide) (by rw [e6]; decide) rfl ?_
      have h := h.2.2.2.2.2.2.1 e6
      refine Ev.iload (k := 1) (pc' := 295) dX4_value_293 rfl rfl ?_
      refine Ev.if_eq (pc' := 298) (tgt := 307) dX4_value_295 rfl rfl (fun hc => ?_) (fun hc => ?_)
      · have h := h.1 hc
        exact Ev.sub [3, 4, 5, 2, 6] rfl (okX4_value_10_b307 hP10 h)
      · have h := h.2 hc
        refine Ev.iload (k := 0) (pc' := 300) dX4_value_298 rfl rfl ?_
        refine Ev.if_eq (pc' := 303) (tgt := 307) dX4_value_300 rfl rfl (fun hc => ?_) (fun hc => ?_)
        · have h := h.1 hc
          exact Ev.sub [3, 4, 5, 2, 6] rfl (okX4_value_10_b307 hP10 h)
        · have h := h.2 hc
          refine Ev.iconst (pc' := 304) dX4_value_303 rfl ki_1 ?_
          refine Ev.goto (tgt := 308) dX4_value_304 rfl ?_
          exact Ev.sub [3, 4, 5, 2, 6] rfl (okX4_value_10_b308 hP10 h)
    have h := h.2.2.2.2.2.2.2 e0 e1 e2 e3 e4 e5 e6
    refine Ev.lookup (off := 169) (tgt := 313) dX4_value_144 (by decide) ?_ rfl ?_
    · refine lk_out (fun q hq => ?_)
      simp only [List.mem_cons, List.not_mem_nil, or_false] at hq
      rcases hq with rfl | rfl | rfl | rfl | rfl | rfl | rfl
      · exact fun q9 => e0 (toInt_eq q9 (by decide))
      · exact fun q9 => e1 (toInt_eq q9 (by decide))
      · exact fun q9 => e2 (toInt_eq q9 (by decide))
      · exact fun q9 => e3 (toInt_eq q9 (by decide))
      · exact fun q9 => e4 (toInt_eq q9 (by decide))
      · exact fun q9 => e5 (toInt_eq q9 (by decide))
      · exact fun q9 => e6 (toInt_eq q9 (by decide))
    · refine Ev.iload (k := 1) (pc' := 315) dX4_value_313 rfl rfl ?_
      refine Ev.if_ne (pc' := 318) (tgt := 323) dX4_value_315 rfl rfl (fun hc => ?_) (fun hc => ?_)
      · have h := h.1 hc
        exact Ev.sub [3, 4, 5, 2, 6] rfl (okX4_value_10_b323 hP10 h)
      · have h := h.2 hc
        refine Ev.iload (k := 0) (pc' := 320) dX4_value_318 rfl rfl ?_
        refine Ev.if_eq (pc' := 323) (tgt := 327) dX4_value_320 rfl rfl (fun hc => ?_) (fun hc => ?_)
        · have h := h.1 hc
          refine Ev.iconst (pc' := 328) dX4_value_327 rfl ki_0 ?_
          exact Ev.sub [3, 4, 5, 2, 6] rfl (okX4_value_10_b328 hP10 h)
        · have h := h.2 hc
          exact Ev.sub [3, 4, 5, 2, 6] rfl (okX4_value_10_b323 hP10 h)
set_option maxRecDepth 10000 in
theorem okX4_value_10_b112 {G : Gx} {Q : Int32 → Ix → Lx → Prop} {P10 : Int32 → Int32 → Int32 → Ix → Lx → Prop} (hP10 : ∀ (v1 : Int32) (v3 : Int32) (v4 : Int32) (I : Ix) (L : Lx), P10 v1 v3 v4 I L → Ef G MX4_value_10 (qI Q) 10 [(0, .ref 10), (1, .int v1), (2, .ref 63), (3, .int v3), (4, .int v4)] [] I L) {v1 : Int32} {v3 : Int32} {v4 : Int32} {t1 : Int32} {t2 : Int32} {I : Ix} {L : Lx} (h : wpX4_value_10_b112 Q P10 v1 v3 v4 t1 t2 I L) : Ef G MX4_value_10 (qI Q) 112 [(0, .ref 10), (1, .int v1), (2, .ref 63), (3, .int v3), (4, .int v4)] [.int t2, .int t1, .ref 14] I L := by
  unfold wpX4_value_10_b112 at h
  refine Ev.iastore (j := _) (pc' := 113) dX4_value_112 rfl ar_14 h.1 rfl (fun I1 eI1 => ?_)
  have h := h.2 I1 eI1
  refine Ev.goto (tgt := 340) dX4_value_113 rfl ?_
  refine Ev.iinc (k := 4) (v := _) (ls' := [(4, .int _), (0, .ref _), (1, .int _), (2, .ref _), (3, .int _)]) (pc' := 343) dX4_value_340 rfl rfl (congrArg (_ + ·) ki_1) (Nat.le_of_ble_eq_true rfl) rfl ?_
  refine Ev.goto (tgt := 10) dX4_value_343 rfl ?_
  exact Ev.sub [1, 2, 3, 4, 0] rfl (hP10 _ _ _ _ _ h)
set_option maxRecDepth 10000 in
theorem okX4_value_10_b77 {G : Gx} {Q : Int32 → Ix → Lx → Prop} {P10 : Int32 → Int32 → Int32 → Ix → Lx → Prop} (hP10 : ∀ (v1 : Int32) (v3 : Int32) (v4 : Int32) (I : Ix) (L : Lx), P10 v1 v3 v4 I L → Ef G MX4_value_10 (qI Q) 10 [(0, .ref 10), (1, .int v1), (2, .ref 63), (3, .int v3), (4, .int v4)] [] I L) {v1 : Int32} {v3 : Int32} {v4 : Int32} {v5 : Int32} {I : Ix} {L : Lx} (h : wpX4_value_10_b77 Q P10 v1 v3 v4 v5 I L) : Ef G MX4_value_10 (qI Q) 77 [(0, .ref 10), (1, .int v1), (2, .ref 63), (3, .int v3), (4, .int v4), (5, .int v5)] [] I L := by
  unfold wpX4_value_10_b77 at h
  refine Ev.iload (k := 5) (pc' := 79) dX4_value_77 rfl rfl ?_
  refine Ev.sipush (pc' := 82) dX4_value_79 rfl ks_20256 ?_
  refine Ev.icmp_ne (pc' := 85) (tgt := 116) dX4_value_82 rfl rfl (fun hc => ?_) (fun hc => ?_)
  · have h := h.1 hc
    exact okX4_value_10_b116 hP10 h
  · have h := h.2 hc
    refine Ev.iload_n (k := 3) (pc' := 86) dX4_value_85 rfl rfl rfl ?_
    refine Ev.if_le (pc' := 89) (tgt := 116) dX4_value_86 rfl rfl (fun hc => ?_) (fun hc => ?_)
    · have h := h.1 hc
      exact okX4_value_10_b116 hP10 h
    · have h := h.2 hc
      refine Ev.aload_n (k := 0) (pc' := 90) dX4_value_89 rfl rfl rfl ?_
      refine Ev.getR (pc' := 93) dX4_value_90 rfl fa_RX4_21 ob_10 fk_4_5 rf_10_5 ?_
      refine Ev.iload_n (k := 3) (pc' := 94) dX4_value_93 rfl rfl rfl ?_
      refine Ev.iconst (pc' := 95) dX4_value_94 rfl ki_1 ?_
      refine Ev.isub (pc' := 96) dX4_value_95 rfl ?_
      refine Ev.aload_n (k := 0) (pc' := 97) dX4_value_96 rfl rfl rfl ?_
      refine Ev.getR (pc' := 100) dX4_value_97 rfl fa_RX4_21 ob_10 fk_4_5 rf_10_5 ?_
      refine Ev.iload_n (k := 3) (pc' := 101) dX4_value_100 rfl rfl rfl ?_
      refine Ev.iconst (pc' := 102) dX4_value_101 rfl ki_1 ?_
      refine Ev.isub (pc' := 103) dX4_value_102 rfl ?_
      refine Ev.iaload (j := _) (pc' := 104) dX4_value_103 rfl ar_14 h.1 rfl ?_
      have h := h.2
      refine Ev.if_ne (pc' := 107) (tgt := 111) dX4_value_104 rfl rfl (fun hc => ?_) (fun hc => ?_)
      · have h := h.1 hc
        refine Ev.iconst (pc' := 112) dX4_value_111 rfl ki_0 ?_
        exact Ev.sub [0, 1, 2, 3, 4] rfl (okX4_value_10_b112 hP10 h)
      · have h := h.2 hc
        refine Ev.iconst (pc' := 108) dX4_value_107 rfl ki_1 ?_
        refine Ev.goto (tgt := 112) dX4_value_108 rfl ?_
        exact Ev.sub [0, 1, 2, 3, 4] rfl (okX4_value_10_b112 hP10 h)
set_option maxRecDepth 10000 in
theorem okX4_value_10_b70 {G : Gx} {Q : Int32 → Ix → Lx → Prop} {P10 : Int32 → Int32 → Int32 → Ix → Lx → Prop} (hP10 : ∀ (v1 : Int32) (v3 : Int32) (v4 : Int32) (I : Ix) (L : Lx), P10 v1 v3 v4 I L → Ef G MX4_value_10 (qI Q) 10 [(0, .ref 10), (1, .int v1), (2, .ref 63), (3, .int v3), (4, .int v4)] [] I L) {v1 : Int32} {v3 : Int32} {v4 : Int32} {t1 : Int32} {t2 : Int32} {I : Ix} {L : Lx} (h : wpX4_value_10_b70 Q P10 v1 v3 v4 t1 t2 I L) : Ef G MX4_value_10 (qI Q) 70 [(0, .ref 10), (1, .int v1), (2, .ref 63), (3, .int v3), (4, .int v4)] [.int t2, .int t1, .ref 14] I L := by
  unfold wpX4_value_10_b70 at h
  refine Ev.iastore (j := _) (pc' := 71) dX4_value_70 rfl ar_14 h.1 rfl (fun I1 eI1 => ?_)
  have h := h.2 I1 eI1
  refine Ev.iinc (k := 3) (v := _) (ls' := [(3, .int _), (0, .ref _), (1, .int _), (2, .ref _), (4, .int _)]) (pc' := 74) dX4_value_71 rfl rfl (congrArg (_ + ·) ki_1) (Nat.le_of_ble_eq_true rfl) rfl ?_
  refine Ev.goto (tgt := 340) dX4_value_74 rfl ?_
  refine Ev.iinc (k := 4) (v := _) (ls' := [(4, .int _), (3, .int _), (0, .ref _), (1, .int _), (2, .ref _)]) (pc' := 343) dX4_value_340 rfl rfl (congrArg (_ + ·) ki_1) (Nat.le_of_ble_eq_true rfl) rfl ?_
  refine Ev.goto (tgt := 10) dX4_value_343 rfl ?_
  exact Ev.sub [2, 3, 4, 1, 0] rfl (hP10 _ _ _ _ _ h)
set_option maxRecDepth 10000 in
theorem okX4_value_10_l10 {G : Gx} {Q : Int32 → Ix → Lx → Prop} {P10 : Int32 → Int32 → Int32 → Ix → Lx → Prop} (hP10 : ∀ (v1 : Int32) (v3 : Int32) (v4 : Int32) (I : Ix) (L : Lx), P10 v1 v3 v4 I L → Ef G MX4_value_10 (qI Q) 10 [(0, .ref 10), (1, .int v1), (2, .ref 63), (3, .int v3), (4, .int v4)] [] I L) {v1 : Int32} {v3 : Int32} {v4 : Int32} {I : Ix} {L : Lx} (h : wpX4_value_10_l10 Q P10 v1 v3 v4 I L) : Ef G MX4_value_10 (qI Q) 10 [(0, .ref 10), (1, .int v1), (2, .ref 63), (3, .int v3), (4, .int v4)] [] I L := by
  unfold wpX4_value_10_l10 at h
  refine Ev.iload (k := 4) (pc' := 12) dX4_value_10 rfl rfl ?_
  refine Ev.aload_n (k := 0) (pc' := 13) dX4_value_12 rfl rfl rfl ?_
  refine Ev.getR (pc' := 16) dX4_value_13 rfl fa_RX4_15 ob_10 fk_4_3 rf_10_3 ?_
  refine Ev.iload_n (k := 1) (pc' := 17) dX4_value_16 rfl rfl rfl ?_
  refine Ev.iaload (j := _) (pc' := 18) dX4_value_17 rfl ar_12 h.1 rfl ?_
  have h := h.2
  refine Ev.icmp_ge (pc' := 21) (tgt := 346) dX4_value_18 rfl rfl (fun hc => ?_) (fun hc => ?_)
  · have h := h.1 hc
    refine Ev.iload_n (k := 3) (pc' := 347) dX4_value_346 rfl rfl rfl ?_
    refine Ev.if_le (pc' := 350) (tgt := 359) dX4_value_347 rfl rfl (fun hc => ?_) (fun hc => ?_)
    · have h := h.1 hc
      refine Ev.iconst (pc' := 360) dX4_value_359 rfl ki_0 ?_
      exact Ef.iret dX4_value_360 rfl h
    · have h := h.2 hc
      refine Ev.aload_n (k := 0) (pc' := 351) dX4_value_350 rfl rfl rfl ?_
      refine Ev.getR (pc' := 354) dX4_value_351 rfl fa_RX4_21 ob_10 fk_4_5 rf_10_5 ?_
      refine Ev.iconst (pc' := 355) dX4_value_354 rfl ki_0 ?_
      refine Ev.iaload (j := 0) (pc' := 356) dX4_value_355 rfl ar_14 (vpl rfl) rfl ?_
      refine Ev.goto (tgt := 360) dX4_value_356 rfl ?_
      exact Ef.iret dX4_value_360 rfl h
  · have h := h.2 hc
    refine Ev.aload_n (k := 0) (pc' := 22) dX4_value_21 rfl rfl rfl ?_
    refine Ev.getR (pc' := 25) dX4_value_22 rfl fa_RX4_18 ob_10 fk_4_4 rf_10_4 ?_
    refine Ev.iload (k := 4) (pc' := 27) dX4_value_25 rfl rfl ?_
    refine Ev.iaload (j := _) (pc' := 28) dX4_value_27 rfl ar_13 h.1 rfl ?_
    have h := h.2
    refine Ev.istore (ls' := [(5, .int _), (0, .ref _), (1, .int _), (2, .ref _), (3, .int _), (4, .int _)]) (pc' := 30) dX4_value_28 rfl (Nat.le_of_ble_eq_true rfl) rfl ?_
    refine Ev.iload (k := 0) (pc' := 32) dX4_value_30 rfl rfl ?_
    refine Ev.sipush (pc' := 35) dX4_value_32 rfl ks_20000 ?_
    refine Ev.icmp_ge (pc' := 38) (tgt := 77) dX4_value_35 rfl rfl (fun hc => ?_) (fun hc => ?_)
    · have h := h.1 hc
      exact Ev.sub [1, 2, 3, 4, 5, 0] rfl (okX4_value_10_b77 hP10 h)
    · have h := h.2 hc
      refine Ev.iload_n (k := 4) (pc' := 39) dX4_value_38 rfl rfl rfl ?_
      refine Ev.bipush (pc' := 41) dX4_value_39 rfl kb_80 ?_
      refine Ev.icmp_ge (pc' := 44) (tgt := 77) dX4_value_41 rfl rfl (fun hc => ?_) (fun hc => ?_)
      · have h := h.1 hc
        exact Ev.sub [1, 2, 3, 4, 5, 0] rfl (okX4_value_10_b77 hP10 h)
      · have h := h.2 hc
        refine Ev.aload_n (k := 1) (pc' := 45) dX4_value_44 rfl rfl rfl ?_
        refine Ev.getR (pc' := 48) dX4_value_45 rfl fa_RX4_21 ob_10 fk_4_5 rf_10_5 ?_
        refine Ev.iload_n (k := 4) (pc' := 49) dX4_value_48 rfl rfl rfl ?_
        refine Ev.iload (k := 0) (pc' := 51) dX4_value_49 rfl rfl ?_
        refine Ev.sipush (pc' := 54) dX4_value_51 rfl ks_10000 ?_
        refine Ev.icmp_ge (pc' := 57) (tgt := 62) dX4_value_54 rfl rfl (fun hc => ?_) (fun hc => ?_)
        · have h := h.1 hc
          refine Ev.aload_n (k := 3) (pc' := 63) dX4_value_62 rfl rfl rfl ?_
          refine Ev.iload (k := 0) (pc' := 65) dX4_value_63 rfl rfl ?_
          refine Ev.sipush (pc' := 68) dX4_value_65 rfl ks_10000 ?_
          refine Ev.isub (pc' := 69) dX4_value_68 rfl ?_
          refine Ev.iaload (j := _) (pc' := 70) dX4_value_69 rfl ar_63 h.1 rfl ?_
          have h := h.2
          exact Ev.sub [1, 2, 3, 4, 5] rfl (okX4_value_10_b70 hP10 h)
        · have h := h.2 hc
          refine Ev.iload (k := 0) (pc' := 59) dX4_value_57 rfl rfl ?_
          refine Ev.goto (tgt := 70) dX4_value_59 rfl ?_
          exact Ev.sub [1, 2, 3, 4, 5] rfl (okX4_value_10_b70 hP10 h)
set_option maxRecDepth 10000 in
theorem okX4_value_10_h10 {G : Gx} {Q : Int32 → Ix → Lx → Prop} {v1 : Int32} {v3 : Int32} {v4 : Int32} {I : Ix} {L : Lx} (h : wpX4_value_10_h10 Q v1 v3 v4 I L) : Ef G MX4_value_10 (qI Q) 10 [(0, .ref 10), (1, .int v1), (2, .ref 63), (3, .int v3), (4, .int v4)] [] I L := by
  unfold wpX4_value_10_h10 at h
  refine Lfp.ind (P := fun z => Ef G MX4_value_10 (qI Q) 10 [(0, .ref 10), (1, .int z.1), (2, .ref 63), (3, .int z.2.1), (4, .int z.2.2.1)] [] z.2.2.2.1 z.2.2.2.2) ?_ h
  intro z P' hP' h
  obtain ⟨v1, v3, v4, I, L⟩ := z
  exact okX4_value_10_l10 (fun v1 v3 v4 I L h9 => hP' (v1, v3, v4, I, L) h9) h
set_option maxRecDepth 10000 in
theorem okX4_value_10 {G : Gx} {a1 : Int32} {I : Ix} {L : Lx} {Q : Int32 → Ix → Lx → Prop} (h : wpX4_value_10 a1 I L Q) : Mf G MX4_value_10 [.ref 10, .int a1, .ref 63] I L (qI Q) := by
  unfold wpX4_value_10 at h
  refine Mf.of pn_RX4 (Nat.le_of_ble_eq_true rfl) ?_
  refine Ev.iconst (pc' := 1) dX4_value_0 rfl ki_0 ?_
  refine Ev.istore_n (ls' := [(3, .int _), (0, .ref _), (1, .int _), (2, .ref _)]) (pc' := 2) dX4_value_1 rfl rfl (Nat.le_of_ble_eq_true rfl) rfl ?_
  refine Ev.aload_n (k := 1) (pc' := 3) dX4_value_2 rfl rfl rfl ?_
  refine Ev.getR (pc' := 6) dX4_value_3 rfl fa_RX4_9 ob_10 fk_4_2 rf_10_2 ?_
  refine Ev.iload_n (k := 2) (pc' := 7) dX4_value_6 rfl rfl rfl ?_
  refine Ev.iaload (j := _) (pc' := 8) dX4_value_7 rfl ar_11 h.1 rfl ?_
  have h := h.2
  refine Ev.istore (ls' := [(4, .int _), (3, .int _), (0, .ref _), (1, .int _), (2, .ref _)]) (pc' := 10) dX4_value_8 rfl (Nat.le_of_ble_eq_true rfl) rfl ?_
  exact Ev.sub [2, 3, 4, 1, 0] rfl (okX4_value_10_h10 h)
def wpX0_ask_b115 (o1 : Nat) (Q : Int32 → Ix → Lx → Prop) (v2 : Int32) (v3 : Int32) (v4 : Int32) (t1 : Int32) (t2 : Int32) (I : Ix) (L : Lx) : Prop := vp_in t1 11 ∧ ∀ I1 : Ix, I1 = pu I 63 t1.toNatClampNeg t2 → vp_in v3 10 ∧ ∀ I2 : Ix, I2 = pu I1 63 6 (I1 65 v3.toNatClampNeg) → ∀ I3 : Ix, I3 = pu I2 63 7 ((I2 o1 0) + 1) → vp_in v2 6 ∧ ∀ I4 : Ix, I4 = pu I3 63 8 (I3 23 v2.toNatClampNeg) → vp_in v2 6 ∧ ∀ I5 : Ix, I5 = pu I4 63 9 (I4 24 v2.toNatClampNeg) → vp_in v4 8 ∧ ∀ I6 : Ix, I6 = pu I5 63 10 (I5 6 v4.toNatClampNeg) → wpX4_value_10 v2 I6 L (fun r9 I7 L8 => Q r9 I7 L8)
def wpX0_ask_b94 (o1 : Nat) (Q : Int32 → Ix → Lx → Prop) (v2 : Int32) (v3 : Int32) (v4 : Int32) (t1 : Int32) (t2 : Int32) (I : Ix) (L : Lx) : Prop := vp_in t1 11 ∧ ∀ I1 : Ix, I1 = pu I 63 t1.toNatClampNeg t2 → vp_in v3 10 ∧ (¬ (I1 64 v3.toNatClampNeg) = (-1) → wpX0_ask_b115 o1 Q v2 v3 v4 5 1 I1 L) ∧ ((I1 64 v3.toNatClampNeg) = (-1) → wpX0_ask_b115 o1 Q v2 v3 v4 5 0 I1 L)
def wpX0_ask (o1 : Nat) (a2 : Int32) (a3 : Int32) (I : Ix) (L : Lx) (Q : Int32 → Ix → Lx → Prop) : Prop := vp_in a3 10 ∧ vp_in a3 10 ∧ ∀ I1 : Ix, I1 = pu I 63 0 (I (o1 + 4) a3.toNatClampNeg) → vp_in a3 10 ∧ ∀ I2 : Ix, I2 = pu I1 63 1 (I1 (o1 + 2) a3.toNatClampNeg) → vp_in a3 10 ∧ ∀ I3 : Ix, I3 = pu I2 63 2 (I2 19 a3.toNatClampNeg) → vp_in a2 6 ∧ wpX1_minutes_4 (I3 (o1 + 6) a2.toNatClampNeg) (I 16 a3.toNatClampNeg) I3 L (fun r6 I4 L5 => ∀ I7 : Ix, I7 = pu I4 63 3 r6 → vp_in a3 10 ∧ (¬ (I7 64 a3.toNatClampNeg) = a2 → wpX0_ask_b94 o1 Q a2 a3 (I 16 a3.toNatClampNeg) 4 0 I7 L5) ∧ ((I7 64 a3.toNatClampNeg) = a2 → wpX0_ask_b94 o1 Q a2 a3 (I 16 a3.toNatClampNeg) 4 1 I7 L5))
set_option maxRecDepth 10000 in
theorem okX0_ask_b115 {G : Gx} {o1 : Nat} (ho1 : NowAt o1) {Q : Int32 → Ix → Lx → Prop} {v2 : Int32} {v3 : Int32} {v4 : Int32} {t1 : Int32} {t2 : Int32} {I : Ix} {L : Lx} (h : wpX0_ask_b115 o1 Q v2 v3 v4 t1 t2 I L) : Ef G MX0_ask (qI Q) 115 [(0, .ref 62), (1, .ref o1), (2, .int v2), (3, .int v3), (4, .int v4)] [.int t2, .int t1, .ref 63] I L := by
  unfold wpX0_ask_b115 at h
  refine Ev.iastore (j := _) (pc' := 116) dX0_ask_115 rfl ar_63 h.1 rfl (fun I1 eI1 => ?_)
  have h := h.2 I1 eI1
  refine Ev.aload_n (k := 0) (pc' := 117) dX0_ask_116 rfl rfl rfl ?_
  refine Ev.getR (pc' := 120) dX0_ask_117 rfl fa_RX0_9 ob_62 fk_0_1 rf_62_1 ?_
  refine Ev.bipush (pc' := 122) dX0_ask_120 rfl kb_6 ?_
  refine Ev.aload_n (k := 0) (pc' := 123) dX0_ask_122 rfl rfl rfl ?_
  refine Ev.getR (pc' := 126) dX0_ask_123 rfl fa_RX0_18 ob_62 fk_0_3 rf_62_3 ?_
  refine Ev.iload_n (k := 3) (pc' := 127) dX0_ask_126 rfl rfl rfl ?_
  refine Ev.iaload (j := _) (pc' := 128) dX0_ask_127 rfl ar_65 h.1 rfl ?_
  have h := h.2
  refine Ev.iastore (j := 6) (pc' := 129) dX0_ask_128 rfl ar_63 (vpl rfl) rfl (fun I2 eI2 => ?_)
  have h := h I2 eI2
  refine Ev.aload_n (k := 0) (pc' := 130) dX0_ask_129 rfl rfl rfl ?_
  refine Ev.getR (pc' := 133) dX0_ask_130 rfl fa_RX0_9 ob_62 fk_0_1 rf_62_1 ?_
  refine Ev.bipush (pc' := 135) dX0_ask_133 rfl kb_7 ?_
  refine Ev.aload_n (k := 1) (pc' := 136) dX0_ask_135 rfl rfl rfl ?_
  refine Ev.getI (pc' := 139) dX0_ask_136 rfl fa_RX0_154 (nowOB ho1) fk_2_0 ?_
  refine Ev.iconst (pc' := 140) dX0_ask_139 rfl ki_1 ?_
  refine Ev.iadd (pc' := 141) dX0_ask_140 rfl ?_
  refine Ev.iastore (j := 7) (pc' := 142) dX0_ask_141 rfl ar_63 (vpl rfl) rfl (fun I3 eI3 => ?_)
  have h := h I3 eI3
  refine Ev.aload_n (k := 0) (pc' := 143) dX0_ask_142 rfl rfl rfl ?_
  refine Ev.getR (pc' := 146) dX0_ask_143 rfl fa_RX0_9 ob_62 fk_0_1 rf_62_1 ?_
  refine Ev.bipush (pc' := 148) dX0_ask_146 rfl kb_8 ?_
  refine Ev.aload_n (k := 0) (pc' := 149) dX0_ask_148 rfl rfl rfl ?_
  refine Ev.getR (pc' := 152) dX0_ask_149 rfl fa_RX0_30 ob_62 fk_0_0 rf_62_0 ?_
  refine Ev.getR (pc' := 155) dX0_ask_152 rfl fa_RX0_105 ob_3 fk_10_14 rf_3_14 ?_
  refine Ev.iload_n (k := 2) (pc' := 156) dX0_ask_155 rfl rfl rfl ?_
  refine Ev.iaload (j := _) (pc' := 157) dX0_ask_156 rfl ar_23 h.1 rfl ?_
  have h := h.2
  refine Ev.iastore (j := 8) (pc' := 158) dX0_ask_157 rfl ar_63 (vpl rfl) rfl (fun I4 eI4 => ?_)
  have h := h I4 eI4
  refine Ev.aload_n (k := 0) (pc' := 159) dX0_ask_158 rfl rfl rfl ?_
  refine Ev.getR (pc' := 162) dX0_ask_159 rfl fa_RX0_9 ob_62 fk_0_1 rf_62_1 ?_
  refine Ev.bipush (pc' := 164) dX0_ask_162 rfl kb_9 ?_
  refine Ev.aload_n (k := 0) (pc' := 165) dX0_ask_164 rfl rfl rfl ?_
  refine Ev.getR (pc' := 168) dX0_ask_165 rfl fa_RX0_30 ob_62 fk_0_0 rf_62_0 ?_
  refine Ev.getR (pc' := 171) dX0_ask_168 rfl fa_RX0_157 ob_3 fk_10_15 rf_3_15 ?_
  refine Ev.iload_n (k := 2) (pc' := 172) dX0_ask_171 rfl rfl rfl ?_
  refine Ev.iaload (j := _) (pc' := 173) dX0_ask_172 rfl ar_24 h.1 rfl ?_
  have h := h.2
  refine Ev.iastore (j := 9) (pc' := 174) dX0_ask_173 rfl ar_63 (vpl rfl) rfl (fun I5 eI5 => ?_)
  have h := h I5 eI5
  refine Ev.aload_n (k := 0) (pc' := 175) dX0_ask_174 rfl rfl rfl ?_
  refine Ev.getR (pc' := 178) dX0_ask_175 rfl fa_RX0_9 ob_62 fk_0_1 rf_62_1 ?_
  refine Ev.bipush (pc' := 180) dX0_ask_178 rfl kb_10 ?_
  refine Ev.aload_n (k := 0) (pc' := 181) dX0_ask_180 rfl rfl rfl ?_
  refine Ev.getR (pc' := 184) dX0_ask_181 rfl fa_RX0_30 ob_62 fk_0_0 rf_62_0 ?_
  refine Ev.getR (pc' := 187) dX0_ask_184 rfl fa_RX0_117 ob_3 fk_10_0 rf_3_0 ?_
  refine Ev.getR (pc' := 190) dX0_ask_187 rfl fa_RX0_139 ob_4 fk_1_3 rf_4_3 ?_
  refine Ev.iload (k := 4) (pc' := 192) dX0_ask_190 rfl rfl ?_
  refine Ev.iaload (j := _) (pc' := 193) dX0_ask_192 rfl ar_6 h.1 rfl ?_
  have h := h.2
  refine Ev.iastore (j := 10) (pc' := 194) dX0_ask_193 rfl ar_63 (vpl rfl) rfl (fun I6 eI6 => ?_)
  have h := h I6 eI6
  refine Ev.aload_n (k := 0) (pc' := 195) dX0_ask_194 rfl rfl rfl ?_
  refine Ev.getR (pc' := 198) dX0_ask_195 rfl fa_RX0_30 ob_62 fk_0_0 rf_62_0 ?_
  refine Ev.getR (pc' := 201) dX0_ask_198 rfl fa_RX0_160 ob_3 fk_10_1 rf_3_1 ?_
  refine Ev.iload_n (k := 2) (pc' := 202) dX0_ask_201 rfl rfl rfl ?_
  refine Ev.aload_n (k := 0) (pc' := 203) dX0_ask_202 rfl rfl rfl ?_
  refine Ev.getR (pc' := 206) dX0_ask_203 rfl fa_RX0_9 ob_62 fk_0_1 rf_62_1 ?_
  refine Ef.callVI [.int _, .ref _] [] (pc' := 209) dX0_ask_206 rfl cv_RX0_164_X4_value_10 ⟨Nat.le_of_ble_eq_true rfl, Nat.le_of_ble_eq_true rfl⟩ ob_10 rfl rfl rfl (Nat.le_of_ble_eq_true rfl) (okX4_value_10 h) (fun r9 I7 L8 h => ?_)
  exact Ef.iret dX0_ask_209 rfl h
set_option maxRecDepth 10000 in
theorem okX0_ask_b94 {G : Gx} {o1 : Nat} (ho1 : NowAt o1) {Q : Int32 → Ix → Lx → Prop} {v2 : Int32} {v3 : Int32} {v4 : Int32} {t1 : Int32} {t2 : Int32} {I : Ix} {L : Lx} (h : wpX0_ask_b94 o1 Q v2 v3 v4 t1 t2 I L) : Ef G MX0_ask (qI Q) 94 [(0, .ref 62), (1, .ref o1), (2, .int v2), (3, .int v3), (4, .int v4)] [.int t2, .int t1, .ref 63] I L := by
  unfold wpX0_ask_b94 at h
  refine Ev.iastore (j := _) (pc' := 95) dX0_ask_94 rfl ar_63 h.1 rfl (fun I1 eI1 => ?_)
  have h := h.2 I1 eI1
  refine Ev.aload_n (k := 0) (pc' := 96) dX0_ask_95 rfl rfl rfl ?_
  refine Ev.getR (pc' := 99) dX0_ask_96 rfl fa_RX0_9 ob_62 fk_0_1 rf_62_1 ?_
  refine Ev.iconst (pc' := 100) dX0_ask_99 rfl ki_5 ?_
  refine Ev.aload_n (k := 0) (pc' := 101) dX0_ask_100 rfl rfl rfl ?_
  refine Ev.getR (pc' := 104) dX0_ask_101 rfl fa_RX0_15 ob_62 fk_0_2 rf_62_2 ?_
  refine Ev.iload_n (k := 3) (pc' := 105) dX0_ask_104 rfl rfl rfl ?_
  refine Ev.iaload (j := _) (pc' := 106) dX0_ask_105 rfl ar_64 h.1 rfl ?_
  have h := h.2
  refine Ev.iconst (pc' := 107) dX0_ask_106 rfl ki_m1 ?_
  refine Ev.icmp_ne (pc' := 110) (tgt := 114) dX0_ask_107 rfl rfl (fun hc => ?_) (fun hc => ?_)
  · have h := h.1 hc
    refine Ev.iconst (pc' := 115) dX0_ask_114 rfl ki_1 ?_
    exact okX0_ask_b115 ho1 h
  · have h := h.2 hc
    refine Ev.iconst (pc' := 111) dX0_ask_110 rfl ki_0 ?_
    refine Ev.goto (tgt := 115) dX0_ask_111 rfl ?_
    exact okX0_ask_b115 ho1 h
set_option maxRecDepth 10000 in
theorem okX0_ask {G : Gx} {o1 : Nat} (ho1 : NowAt o1) {a2 : Int32} {a3 : Int32} {I : Ix} {L : Lx} {Q : Int32 → Ix → Lx → Prop} (h : wpX0_ask o1 a2 a3 I L Q) : Mf G MX0_ask [.ref 62, .ref o1, .int a2, .int a3] I L (qI Q) := by
  unfold wpX0_ask at h
  refine Mf.of pn_RX0 (Nat.le_of_ble_eq_true rfl) ?_
  refine Ev.aload_n (k := 0) (pc' := 1) dX0_ask_0 rfl rfl rfl ?_
  refine Ev.getR (pc' := 4) dX0_ask_1 rfl fa_RX0_30 ob_62 fk_0_0 rf_62_0 ?_
  refine Ev.getR (pc' := 7) dX0_ask_4 rfl fa_RX0_129 ob_3 fk_10_7 rf_3_7 ?_
  refine Ev.iload_n (k := 3) (pc' := 8) dX0_ask_7 rfl rfl rfl ?_
  refine Ev.iaload (j := _) (pc' := 9) dX0_ask_8 rfl ar_16 h.1 rfl ?_
  have h := h.2
  refine Ev.istore (ls' := [(4, .int _), (0, .ref _), (1, .ref _), (2, .int _), (3, .int _)]) (pc' := 11) dX0_ask_9 rfl (Nat.le_of_ble_eq_true rfl) rfl ?_
  refine Ev.aload_n (k := 1) (pc' := 12) dX0_ask_11 rfl rfl rfl ?_
  refine Ev.getR (pc' := 15) dX0_ask_12 rfl fa_RX0_9 ob_62 fk_0_1 rf_62_1 ?_
  refine Ev.iconst (pc' := 16) dX0_ask_15 rfl ki_0 ?_
  refine Ev.aload_n (k := 2) (pc' := 17) dX0_ask_16 rfl rfl rfl ?_
  refine Ev.getR (pc' := 20) dX0_ask_17 rfl fa_RX0_76 (nowOB ho1) fk_2_6 (nowR4 ho1) ?_
  refine Ev.iload_n (k := 4) (pc' := 21) dX0_ask_20 rfl rfl rfl ?_
  refine Ev.iaload (j := _) (pc' := 22) dX0_ask_21 rfl (nowA4 ho1) h.1 rfl ?_
  have h := h.2
  refine Ev.iastore (j := 0) (pc' := 23) dX0_ask_22 rfl ar_63 (vpl rfl) rfl (fun I1 eI1 => ?_)
  have h := h I1 eI1
  refine Ev.aload_n (k := 1) (pc' := 24) dX0_ask_23 rfl rfl rfl ?_
  refine Ev.getR (pc' := 27) dX0_ask_24 rfl fa_RX0_9 ob_62 fk_0_1 rf_62_1 ?_
  refine Ev.iconst (pc' := 28) dX0_ask_27 rfl ki_1 ?_
  refine Ev.aload_n (k := 2) (pc' := 29) dX0_ask_28 rfl rfl rfl ?_
  refine Ev.getR (pc' := 32) dX0_ask_29 rfl fa_RX0_79 (nowOB ho1) fk_2_4 (nowR2 ho1) ?_
  refine Ev.iload_n (k := 4) (pc' := 33) dX0_ask_32 rfl rfl rfl ?_
  refine Ev.iaload (j := _) (pc' := 34) dX0_ask_33 rfl (nowA2 ho1) h.1 rfl ?_
  have h := h.2
  refine Ev.iastore (j := 1) (pc' := 35) dX0_ask_34 rfl ar_63 (vpl rfl) rfl (fun I2 eI2 => ?_)
  have h := h I2 eI2
  refine Ev.aload_n (k := 1) (pc' := 36) dX0_ask_35 rfl rfl rfl ?_
  refine Ev.getR (pc' := 39) dX0_ask_36 rfl fa_RX0_9 ob_62 fk_0_1 rf_62_1 ?_
  refine Ev.iconst (pc' := 40) dX0_ask_39 rfl ki_2 ?_
  refine Ev.aload_n (k := 1) (pc' := 41) dX0_ask_40 rfl rfl rfl ?_
  refine Ev.getR (pc' := 44) dX0_ask_41 rfl fa_RX0_30 ob_62 fk_0_0 rf_62_0 ?_
  refine Ev.getR (pc' := 47) dX0_ask_44 rfl fa_RX0_145 ob_3 fk_10_10 rf_3_10 ?_
  refine Ev.iload_n (k := 4) (pc' := 48) dX0_ask_47 rfl rfl rfl ?_
  refine Ev.iaload (j := _) (pc' := 49) dX0_ask_48 rfl ar_19 h.1 rfl ?_
  have h := h.2
  refine Ev.iastore (j := 2) (pc' := 50) dX0_ask_49 rfl ar_63 (vpl rfl) rfl (fun I3 eI3 => ?_)
  have h := h I3 eI3
  refine Ev.aload_n (k := 1) (pc' := 51) dX0_ask_50 rfl rfl rfl ?_
  refine Ev.getR (pc' := 54) dX0_ask_51 rfl fa_RX0_9 ob_62 fk_0_1 rf_62_1 ?_
  refine Ev.iconst (pc' := 55) dX0_ask_54 rfl ki_3 ?_
  refine Ev.aload_n (k := 1) (pc' := 56) dX0_ask_55 rfl rfl rfl ?_
  refine Ev.getR (pc' := 59) dX0_ask_56 rfl fa_RX0_30 ob_62 fk_0_0 rf_62_0 ?_
  refine Ev.getR (pc' := 62) dX0_ask_59 rfl fa_RX0_117 ob_3 fk_10_0 rf_3_0 ?_
  refine Ev.aload_n (k := 2) (pc' := 63) dX0_ask_62 rfl rfl rfl ?_
  refine Ev.getR (pc' := 66) dX0_ask_63 rfl fa_RX0_148 (nowOB ho1) fk_2_8 (nowR6 ho1) ?_
  refine Ev.iload_n (k := 3) (pc' := 67) dX0_ask_66 rfl rfl rfl ?_
  refine Ev.iaload (j := _) (pc' := 68) dX0_ask_67 rfl (nowA6 ho1) h.1 rfl ?_
  have h := h.2
  refine Ev.iload (k := 0) (pc' := 70) dX0_ask_68 rfl rfl ?_
  refine Ef.callVI [.int _, .int _] [.int _, .ref _] (pc' := 73) dX0_ask_70 rfl cv_RX0_151_X1_minutes_4 ⟨Nat.le_of_ble_eq_true rfl, Nat.le_of_ble_eq_true rfl⟩ ob_4 rfl rfl rfl (Nat.le_of_ble_eq_true rfl) (okX1_minutes_4 h) (fun r6 I4 L5 h => ?_)
  refine Ev.iastore (j := 3) (pc' := 74) dX0_ask_73 rfl ar_63 (vpl rfl) rfl (fun I7 eI7 => ?_)
  have h := h I7 eI7
  refine Ev.aload_n (k := 1) (pc' := 75) dX0_ask_74 rfl rfl rfl ?_
  refine Ev.getR (pc' := 78) dX0_ask_75 rfl fa_RX0_9 ob_62 fk_0_1 rf_62_1 ?_
  refine Ev.iconst (pc' := 79) dX0_ask_78 rfl ki_4 ?_
  refine Ev.aload_n (k := 1) (pc' := 80) dX0_ask_79 rfl rfl rfl ?_
  refine Ev.getR (pc' := 83) dX0_ask_80 rfl fa_RX0_15 ob_62 fk_0_2 rf_62_2 ?_
  refine Ev.iload_n (k := 4) (pc' := 84) dX0_ask_83 rfl rfl rfl ?_
  refine Ev.iaload (j := _) (pc' := 85) dX0_ask_84 rfl ar_64 h.1 rfl ?_
  have h := h.2
  refine Ev.iload_n (k := 3) (pc' := 86) dX0_ask_85 rfl rfl rfl ?_
  refine Ev.icmp_ne (pc' := 89) (tgt := 93) dX0_ask_86 rfl rfl (fun hc => ?_) (fun hc => ?_)
  · have h := h.1 hc
    refine Ev.iconst (pc' := 94) dX0_ask_93 rfl ki_0 ?_
    exact Ev.sub [1, 2, 3, 4, 0] rfl (okX0_ask_b94 ho1 h)
  · have h := h.2 hc
    refine Ev.iconst (pc' := 90) dX0_ask_89 rfl ki_1 ?_
    refine Ev.goto (tgt := 94) dX0_ask_90 rfl ?_
    exact Ev.sub [1, 2, 3, 4, 0] rfl (okX0_ask_b94 ho1 h)
def wpX0_aim_l9 (o1 : Nat) (Q : Int32 → Ix → Lx → Prop) (P9 : Int32 → Int32 → Int32 → Int32 → Int32 → Ix → Lx → Prop) (v2 : Int32) (v3 : Int32) (v4 : Int32) (v5 : Int32) (v6 : Int32) (I : Ix) (L : Lx) : Prop := ((I 3 2) ≤ v6 → Q v4 I L) ∧ (¬ (I 3 2) ≤ v6 → vp_in v6 10 ∧ (¬ (I (o1 + 5) v6.toNatClampNeg) = 0 → P9 v2 v3 v4 v5 (v6 + 1) I L) ∧ ((I (o1 + 5) v6.toNatClampNeg) = 0 → wpX0_isInTime o1 v2 v6 v3 I L (fun r3 I1 L2 => (r3 = false → P9 v2 v3 v4 v5 (v6 + 1) I1 L2) ∧ (r3 = true → wpX0_ask o1 v2 v6 I1 L2 (fun r6 I4 L5 => (r6 ≤ v5 → P9 v2 v3 v4 v5 (v6 + 1) I4 L5) ∧ (¬ r6 ≤ v5 → P9 v2 v3 v6 r6 (v6 + 1) I4 L5))))))
def wpX0_aim_h9 (o1 : Nat) (Q : Int32 → Ix → Lx → Prop) (v2 : Int32) (v3 : Int32) (v4 : Int32) (v5 : Int32) (v6 : Int32) (I : Ix) (L : Lx) : Prop := Lfp (X := Int32 × Int32 × Int32 × Int32 × Int32 × Ix × Lx) (fun P z => wpX0_aim_l9 o1 Q (fun v2 v3 v4 v5 v6 I L => P (v2, v3, v4, v5, v6, I, L)) z.1 z.2.1 z.2.2.1 z.2.2.2.1 z.2.2.2.2.1 z.2.2.2.2.2.1 z.2.2.2.2.2.2) (v2, v3, v4, v5, v6, I, L)
theorem wpX0_aim_h9_fold {o1 : Nat} {Q : Int32 → Ix → Lx → Prop} {v2 : Int32} {v3 : Int32} {v4 : Int32} {v5 : Int32} {v6 : Int32} {I : Ix} {L : Lx} (h : wpX0_aim_l9 o1 Q (wpX0_aim_h9 o1 Q) v2 v3 v4 v5 v6 I L) : wpX0_aim_h9 o1 Q v2 v3 v4 v5 v6 I L := Lfp.fold h
def wpX0_aim (o1 : Nat) (a2 : Int32) (a3 : Int32) (I : Ix) (L : Lx) (Q : Int32 → Ix → Lx → Prop) : Prop := wpX0_aim_h9 o1 Q a2 a3 (-1) 0 0 I L
set_option maxRecDepth 10000 in
theorem okX0_aim_l9 {G : Gx} {o1 : Nat} (ho1 : NowAt o1) {Q : Int32 → Ix → Lx → Prop} {P9 : Int32 → Int32 → Int32 → Int32 → Int32 → Ix → Lx → Prop} (hP9 : ∀ (v2 : Int32) (v3 : Int32) (v4 : Int32) (v5 : Int32) (v6 : Int32) (I : Ix) (L : Lx), P9 v2 v3 v4 v5 v6 I L → Ef G MX0_aim (qI Q) 9 [(0, .ref 62), (1, .ref o1), (2, .int v2), (3, .int v3), (4, .int v4), (5, .int v5), (6, .int v6)] [] I L) {v2 : Int32} {v3 : Int32} {v4 : Int32} {v5 : Int32} {v6 : Int32} {I : Ix} {L : Lx} (h : wpX0_aim_l9 o1 Q P9 v2 v3 v4 v5 v6 I L) : Ef G MX0_aim (qI Q) 9 [(0, .ref 62), (1, .ref o1), (2, .int v2), (3, .int v3), (4, .int v4), (5, .int v5), (6, .int v6)] [] I L := by
  unfold wpX0_aim_l9 at h
  refine Ev.iload (k := 6) (pc' := 11) dX0_aim_9 rfl rfl ?_
  refine Ev.aload_n (k := 0) (pc' := 12) dX0_aim_11 rfl rfl rfl ?_
  refine Ev.getR (pc' := 15) dX0_aim_12 rfl fa_RX0_30 ob_62 fk_0_0 rf_62_0 ?_
  refine Ev.getI (pc' := 18) dX0_aim_15 rfl fa_RX0_70 ob_3 fk_10_2 ?_
  refine Ev.icmp_ge (pc' := 21) (tgt := 74) dX0_aim_18 rfl rfl (fun hc => ?_) (fun hc => ?_)
  · have h := h.1 hc
    refine Ev.iload (k := 4) (pc' := 76) dX0_aim_74 rfl rfl ?_
    exact Ef.iret dX0_aim_76 rfl h
  · have h := h.2 hc
    refine Ev.aload_n (k := 1) (pc' := 22) dX0_aim_21 rfl rfl rfl ?_
    refine Ev.getR (pc' := 25) dX0_aim_22 rfl fa_RX0_102 (nowOB ho1) fk_2_7 (nowR5 ho1) ?_
    refine Ev.iload (k := 6) (pc' := 27) dX0_aim_25 rfl rfl ?_
    refine Ev.zaload (j := _) (pc' := 28) dX0_aim_27 rfl (nowA5 ho1) h.1 rfl ?_
    have h := h.2
    refine Ev.if_ne (pc' := 31) (tgt := 68) dX0_aim_28 rfl rfl (fun hc => ?_) (fun hc => ?_)
    · have h := h.1 hc
      refine Ev.iinc (k := 6) (v := _) (ls' := [(6, .int _), (0, .ref _), (1, .ref _), (2, .int _), (3, .int _), (4, .int _), (5, .int _)]) (pc' := 71) dX0_aim_68 rfl rfl (congrArg (_ + ·) ki_1) (Nat.le_of_ble_eq_true rfl) rfl ?_
      refine Ev.goto (tgt := 9) dX0_aim_71 rfl ?_
      exact Ev.sub [1, 2, 3, 4, 5, 6, 0] rfl (hP9 _ _ _ _ _ _ _ h)
    · have h := h.2 hc
      refine Ev.aload_n (k := 0) (pc' := 32) dX0_aim_31 rfl rfl rfl ?_
      refine Ev.aload_n (k := 1) (pc' := 33) dX0_aim_32 rfl rfl rfl ?_
      refine Ev.iload_n (k := 2) (pc' := 34) dX0_aim_33 rfl rfl rfl ?_
      refine Ev.iload (k := 6) (pc' := 36) dX0_aim_34 rfl rfl ?_
      refine Ev.iload_n (k := 3) (pc' := 37) dX0_aim_36 rfl rfl rfl ?_
      refine Ef.callVZ [.ref _, .int _, .int _, .int _] [] (pc' := 40) dX0_aim_37 rfl cv_RX0_170_X0_isInTime ⟨Nat.le_of_ble_eq_true rfl, Nat.le_of_ble_eq_true rfl⟩ ob_62 rfl rfl rfl (Nat.le_of_ble_eq_true rfl) (okX0_isInTime ho1 h) (fun r3 I1 L2 h => ?_)
      refine Ef.ifz_eq (pc' := 43) (tgt := 68) dX0_aim_40 rfl rfl (fun hc => ?_) (fun hc => ?_)
      · have h := h.1 hc
        refine Ev.iinc (k := 6) (v := _) (ls' := [(6, .int _), (0, .ref _), (1, .ref _), (2, .int _), (3, .int _), (4, .int _), (5, .int _)]) (pc' := 71) dX0_aim_68 rfl rfl (congrArg (_ + ·) ki_1) (Nat.le_of_ble_eq_true rfl) rfl ?_
        refine Ev.goto (tgt := 9) dX0_aim_71 rfl ?_
        exact Ev.sub [1, 2, 3, 4, 5, 6, 0] rfl (hP9 _ _ _ _ _ _ _ h)
      · have h := h.2 hc
        refine Ev.aload_n (k := 0) (pc' := 44) dX0_aim_43 rfl rfl rfl ?_
        refine Ev.aload_n (k := 1) (pc' := 45) dX0_aim_44 rfl rfl rfl ?_
        refine Ev.iload_n (k := 2) (pc' := 46) dX0_aim_45 rfl rfl rfl ?_
        refine Ev.iload (k := 6) (pc' := 48) dX0_aim_46 rfl rfl ?_
        refine Ef.callVI [.ref _, .int _, .int _] [] (pc' := 51) dX0_aim_48 rfl cv_RX0_174_X0_ask ⟨Nat.le_of_ble_eq_true rfl, Nat.le_of_ble_eq_true rfl⟩ ob_62 rfl rfl rfl (Nat.le_of_ble_eq_true rfl) (okX0_ask ho1 h) (fun r6 I4 L5 h => ?_)
        refine Ev.istore (ls' := [(7, .int _), (0, .ref _), (1, .ref _), (2, .int _), (3, .int _), (4, .int _), (5, .int _), (6, .int _)]) (pc' := 53) dX0_aim_51 rfl (Nat.le_of_ble_eq_true rfl) rfl ?_
        refine Ev.iload (k := 0) (pc' := 55) dX0_aim_53 rfl rfl ?_
        refine Ev.iload (k := 6) (pc' := 57) dX0_aim_55 rfl rfl ?_
        refine Ev.icmp_le (pc' := 60) (tgt := 68) dX0_aim_57 rfl rfl (fun hc => ?_) (fun hc => ?_)
        · have h := h.1 hc
          refine Ev.iinc (k := 7) (v := _) (ls' := [(6, .int _), (7, .int _), (0, .ref _), (1, .ref _), (2, .int _), (3, .int _), (4, .int _), (5, .int _)]) (pc' := 71) dX0_aim_68 rfl rfl (congrArg (_ + ·) ki_1) (Nat.le_of_ble_eq_true rfl) rfl ?_
          refine Ev.goto (tgt := 9) dX0_aim_71 rfl ?_
          exact Ev.sub [2, 3, 4, 5, 6, 7, 0] rfl (hP9 _ _ _ _ _ _ _ h)
        · have h := h.2 hc
          refine Ev.iload (k := 0) (pc' := 62) dX0_aim_60 rfl rfl ?_
          refine Ev.istore (ls' := [(5, .int _), (7, .int _), (0, .ref _), (1, .ref _), (2, .int _), (3, .int _), (4, .int _), (6, .int _)]) (pc' := 64) dX0_aim_62 rfl (Nat.le_of_ble_eq_true rfl) rfl ?_
          refine Ev.iload (k := 7) (pc' := 66) dX0_aim_64 rfl rfl ?_
          refine Ev.istore (ls' := [(4, .int _), (5, .int _), (7, .int _), (0, .ref _), (1, .ref _), (2, .int _), (3, .int _), (6, .int _)]) (pc' := 68) dX0_aim_66 rfl (Nat.le_of_ble_eq_true rfl) rfl ?_
          refine Ev.iinc (k := 7) (v := _) (ls' := [(6, .int _), (4, .int _), (5, .int _), (7, .int _), (0, .ref _), (1, .ref _), (2, .int _), (3, .int _)]) (pc' := 71) dX0_aim_68 rfl rfl (congrArg (_ + ·) ki_1) (Nat.le_of_ble_eq_true rfl) rfl ?_
          refine Ev.goto (tgt := 9) dX0_aim_71 rfl ?_
          exact Ev.sub [4, 5, 6, 7, 1, 2, 0] rfl (hP9 _ _ _ _ _ _ _ h)
set_option maxRecDepth 10000 in
theorem okX0_aim_h9 {G : Gx} {o1 : Nat} (ho1 : NowAt o1) {Q : Int32 → Ix → Lx → Prop} {v2 : Int32} {v3 : Int32} {v4 : Int32} {v5 : Int32} {v6 : Int32} {I : Ix} {L : Lx} (h : wpX0_aim_h9 o1 Q v2 v3 v4 v5 v6 I L) : Ef G MX0_aim (qI Q) 9 [(0, .ref 62), (1, .ref o1), (2, .int v2), (3, .int v3), (4, .int v4), (5, .int v5), (6, .int v6)] [] I L := by
  unfold wpX0_aim_h9 at h
  refine Lfp.ind (P := fun z => Ef G MX0_aim (qI Q) 9 [(0, .ref 62), (1, .ref o1), (2, .int z.1), (3, .int z.2.1), (4, .int z.2.2.1), (5, .int z.2.2.2.1), (6, .int z.2.2.2.2.1)] [] z.2.2.2.2.2.1 z.2.2.2.2.2.2) ?_ h
  intro z P' hP' h
  obtain ⟨v2, v3, v4, v5, v6, I, L⟩ := z
  exact okX0_aim_l9 ho1 (fun v2 v3 v4 v5 v6 I L h9 => hP' (v2, v3, v4, v5, v6, I, L) h9) h
set_option maxRecDepth 10000 in
theorem okX0_aim {G : Gx} {o1 : Nat} (ho1 : NowAt o1) {a2 : Int32} {a3 : Int32} {I : Ix} {L : Lx} {Q : Int32 → Ix → Lx → Prop} (h : wpX0_aim o1 a2 a3 I L Q) : Mf G MX0_aim [.ref 62, .ref o1, .int a2, .int a3] I L (qI Q) := by
  unfold wpX0_aim at h
  refine Mf.of pn_RX0 (Nat.le_of_ble_eq_true rfl) ?_
  refine Ev.iconst (pc' := 1) dX0_aim_0 rfl ki_m1 ?_
  refine Ev.istore (ls' := [(4, .int _), (0, .ref _), (1, .ref _), (2, .int _), (3, .int _)]) (pc' := 3) dX0_aim_1 rfl (Nat.le_of_ble_eq_true rfl) rfl ?_
  refine Ev.iconst (pc' := 4) dX0_aim_3 rfl ki_0 ?_
  refine Ev.istore (ls' := [(5, .int _), (4, .int _), (0, .ref _), (1, .ref _), (2, .int _), (3, .int _)]) (pc' := 6) dX0_aim_4 rfl (Nat.le_of_ble_eq_true rfl) rfl ?_
  refine Ev.iconst (pc' := 7) dX0_aim_6 rfl ki_0 ?_
  refine Ev.istore (ls' := [(6, .int _), (5, .int _), (4, .int _), (0, .ref _), (1, .ref _), (2, .int _), (3, .int _)]) (pc' := 9) dX0_aim_7 rfl (Nat.le_of_ble_eq_true rfl) rfl ?_
  exact Ev.sub [3, 4, 5, 6, 2, 1, 0] rfl (okX0_aim_h9 ho1 h)
def wpX0_setOut (o1 : Nat) (a2 : Int32) (a3 : Int32) (I : Ix) (L : Lx) (Q : Ix → Lx → Prop) : Prop := wpX0_aim o1 a2 a3 I L (fun r3 I1 L2 => vp_in a2 6 ∧ ∀ I4 : Ix, I4 = pu I1 66 a2.toNatClampNeg r3 → (r3 = (-1) → Q I4 L2) ∧ (¬ r3 = (-1) → vp_in r3 10 ∧ vp_in a2 6 ∧ wpX1_minutes_4 (I4 (o1 + 6) a2.toNatClampNeg) (I4 16 r3.toNatClampNeg) I4 L2 (fun r7 I5 L6 => vp_in a2 6 ∧ ∀ I8 : Ix, I8 = pu I5 67 a2.toNatClampNeg r7 → vp_in a2 6 ∧ ∀ I9 : Ix, I9 = pu I8 (o1 + 6) a2.toNatClampNeg (I4 16 r3.toNatClampNeg) → Q I9 L6)))
set_option maxRecDepth 10000 in
theorem okX0_setOut {G : Gx} {o1 : Nat} (ho1 : NowAt o1) {a2 : Int32} {a3 : Int32} {I : Ix} {L : Lx} {Q : Ix → Lx → Prop} (h : wpX0_setOut o1 a2 a3 I L Q) : Mf G MX0_setOut [.ref 62, .ref o1, .int a2, .int a3] I L (qV Q) := by
  unfold wpX0_setOut at h
  refine Mf.of pn_RX0 (Nat.le_of_ble_eq_true rfl) ?_
  refine Ev.aload_n (k := 0) (pc' := 1) dX0_setOut_0 rfl rfl rfl ?_
  refine Ev.aload_n (k := 1) (pc' := 2) dX0_setOut_1 rfl rfl rfl ?_
  refine Ev.iload_n (k := 2) (pc' := 3) dX0_setOut_2 rfl rfl rfl ?_
  refine Ev.iload_n (k := 3) (pc' := 4) dX0_setOut_3 rfl rfl rfl ?_
  refine Ef.callVI [.ref _, .int _, .int _] [] (pc' := 7) dX0_setOut_4 rfl cv_RX0_178_X0_aim ⟨Nat.le_of_ble_eq_true rfl, Nat.le_of_ble_eq_true rfl⟩ ob_62 rfl rfl rfl (Nat.le_of_ble_eq_true rfl) (okX0_aim ho1 h) (fun r3 I1 L2 h => ?_)
  refine Ev.istore (ls' := [(4, .int _), (0, .ref _), (1, .ref _), (2, .int _), (3, .int _)]) (pc' := 9) dX0_setOut_7 rfl (Nat.le_of_ble_eq_true rfl) rfl ?_
  refine Ev.aload_n (k := 1) (pc' := 10) dX0_setOut_9 rfl rfl rfl ?_
  refine Ev.getR (pc' := 13) dX0_setOut_10 rfl fa_RX0_21 ob_62 fk_0_4 rf_62_4 ?_
  refine Ev.iload_n (k := 3) (pc' := 14) dX0_setOut_13 rfl rfl rfl ?_
  refine Ev.iload (k := 0) (pc' := 16) dX0_setOut_14 rfl rfl ?_
  refine Ev.iastore (j := _) (pc' := 17) dX0_setOut_16 rfl ar_66 h.1 rfl (fun I4 eI4 => ?_)
  have h := h.2 I4 eI4
  refine Ev.iload (k := 0) (pc' := 19) dX0_setOut_17 rfl rfl ?_
  refine Ev.iconst (pc' := 20) dX0_setOut_19 rfl ki_m1 ?_
  refine Ev.icmp_eq (pc' := 23) (tgt := 67) dX0_setOut_20 rfl rfl (fun hc => ?_) (fun hc => ?_)
  · have h := h.1 hc
    exact Ef.vret dX0_setOut_67 rfl h
  · have h := h.2 hc
    refine Ev.aload_n (k := 1) (pc' := 24) dX0_setOut_23 rfl rfl rfl ?_
    refine Ev.getR (pc' := 27) dX0_setOut_24 rfl fa_RX0_30 ob_62 fk_0_0 rf_62_0 ?_
    refine Ev.getR (pc' := 30) dX0_setOut_27 rfl fa_RX0_129 ob_3 fk_10_7 rf_3_7 ?_
    refine Ev.iload (k := 0) (pc' := 32) dX0_setOut_30 rfl rfl ?_
    refine Ev.iaload (j := _) (pc' := 33) dX0_setOut_32 rfl ar_16 h.1 rfl ?_
    have h := h.2
    refine Ev.istore (ls' := [(5, .int _), (4, .int _), (0, .ref _), (1, .ref _), (2, .int _), (3, .int _)]) (pc' := 35) dX0_setOut_33 rfl (Nat.le_of_ble_eq_true rfl) rfl ?_
    refine Ev.aload_n (k := 2) (pc' := 36) dX0_setOut_35 rfl rfl rfl ?_
    refine Ev.getR (pc' := 39) dX0_setOut_36 rfl fa_RX0_24 ob_62 fk_0_5 rf_62_5 ?_
    refine Ev.iload_n (k := 4) (pc' := 40) dX0_setOut_39 rfl rfl rfl ?_
    refine Ev.aload_n (k := 2) (pc' := 41) dX0_setOut_40 rfl rfl rfl ?_
    refine Ev.getR (pc' := 44) dX0_setOut_41 rfl fa_RX0_30 ob_62 fk_0_0 rf_62_0 ?_
    refine Ev.getR (pc' := 47) dX0_setOut_44 rfl fa_RX0_117 ob_3 fk_10_0 rf_3_0 ?_
    refine Ev.aload_n (k := 3) (pc' := 48) dX0_setOut_47 rfl rfl rfl ?_
    refine Ev.getR (pc' := 51) dX0_setOut_48 rfl fa_RX0_148 (nowOB ho1) fk_2_8 (nowR6 ho1) ?_
    refine Ev.iload_n (k := 4) (pc' := 52) dX0_setOut_51 rfl rfl rfl ?_
    refine Ev.iaload (j := _) (pc' := 53) dX0_setOut_52 rfl (nowA6 ho1) h.1 rfl ?_
    have h := h.2
    refine Ev.iload (k := 0) (pc' := 55) dX0_setOut_53 rfl rfl ?_
    refine Ef.callVI [.int _, .int _] [.int _, .ref _] (pc' := 58) dX0_setOut_55 rfl cv_RX0_151_X1_minutes_4 ⟨Nat.le_of_ble_eq_true rfl, Nat.le_of_ble_eq_true rfl⟩ ob_4 rfl rfl rfl (Nat.le_of_ble_eq_true rfl) (okX1_minutes_4 h) (fun r7 I5 L6 h => ?_)
    refine Ev.iastore (j := _) (pc' := 59) dX0_setOut_58 rfl ar_67 h.1 rfl (fun I8 eI8 => ?_)
    have h := h.2 I8 eI8
    refine Ev.aload_n (k := 3) (pc' := 60) dX0_setOut_59 rfl rfl rfl ?_
    refine Ev.getR (pc' := 63) dX0_setOut_60 rfl fa_RX0_148 (nowOB ho1) fk_2_8 (nowR6 ho1) ?_
    refine Ev.iload_n (k := 4) (pc' := 64) dX0_setOut_63 rfl rfl rfl ?_
    refine Ev.iload (k := 0) (pc' := 66) dX0_setOut_64 rfl rfl ?_
    refine Ev.iastore (j := _) (pc' := 67) dX0_setOut_66 rfl (nowA6 ho1) h.1 rfl (fun I9 eI9 => ?_)
    have h := h.2 I9 eI9
    exact Ef.vret dX0_setOut_67 rfl h
def wpX0_isAhead (a1 : Int32) (a2 : Int32) (a3 : Int32) (I : Ix) (L : Lx) (Q : Bool → Ix → Lx → Prop) : Prop := (¬ a3 = 1 → vp_in a1 6 ∧ vp_in a2 6 ∧ ((I 67 a2.toNatClampNeg) ≤ (I 67 a1.toNatClampNeg) → Q false I L) ∧ (¬ (I 67 a2.toNatClampNeg) ≤ (I 67 a1.toNatClampNeg) → Q true I L)) ∧ (a3 = 1 → vp_in a1 6 ∧ vp_in a2 6 ∧ ((I 24 a1.toNatClampNeg) ≤ (I 24 a2.toNatClampNeg) → Q false I L) ∧ (¬ (I 24 a1.toNatClampNeg) ≤ (I 24 a2.toNatClampNeg) → Q true I L))
set_option maxRecDepth 10000 in
theorem okX0_isAhead {G : Gx} {a1 : Int32} {a2 : Int32} {a3 : Int32} {I : Ix} {L : Lx} {Q : Bool → Ix → Lx → Prop} (h : wpX0_isAhead a1 a2 a3 I L Q) : Mf G MX0_isAhead [.ref 62, .int a1, .int a2, .int a3] I L (qZ Q) := by
  unfold wpX0_isAhead at h
  refine Mf.of pn_RX0 (Nat.le_of_ble_eq_true rfl) ?_
  refine Ev.iload_n (k := 3) (pc' := 1) dX0_isAhead_0 rfl rfl rfl ?_
  refine Ev.iconst (pc' := 2) dX0_isAhead_1 rfl ki_1 ?_
  refine Ev.icmp_ne (pc' := 5) (tgt := 32) dX0_isAhead_2 rfl rfl (fun hc => ?_) (fun hc => ?_)
  · have h := h.1 hc
    refine Ev.aload_n (k := 0) (pc' := 33) dX0_isAhead_32 rfl rfl rfl ?_
    refine Ev.getR (pc' := 36) dX0_isAhead_33 rfl fa_RX0_24 ob_62 fk_0_5 rf_62_5 ?_
    refine Ev.iload_n (k := 1) (pc' := 37) dX0_isAhead_36 rfl rfl rfl ?_
    refine Ev.iaload (j := _) (pc' := 38) dX0_isAhead_37 rfl ar_67 h.1 rfl ?_
    have h := h.2
    refine Ev.aload_n (k := 0) (pc' := 39) dX0_isAhead_38 rfl rfl rfl ?_
    refine Ev.getR (pc' := 42) dX0_isAhead_39 rfl fa_RX0_24 ob_62 fk_0_5 rf_62_5 ?_
    refine Ev.iload_n (k := 2) (pc' := 43) dX0_isAhead_42 rfl rfl rfl ?_
    refine Ev.iaload (j := _) (pc' := 44) dX0_isAhead_43 rfl ar_67 h.1 rfl ?_
    have h := h.2
    refine Ev.icmp_ge (pc' := 47) (tgt := 51) dX0_isAhead_44 rfl rfl (fun hc => ?_) (fun hc => ?_)
    · have h := h.1 hc
      refine Ev.iconst (pc' := 52) dX0_isAhead_51 rfl ki_0 ?_
      exact Ef.zret (b := false) dX0_isAhead_52 rfl h
    · have h := h.2 hc
      refine Ev.iconst (pc' := 48) dX0_isAhead_47 rfl ki_1 ?_
      refine Ev.goto (tgt := 52) dX0_isAhead_48 rfl ?_
      exact Ef.zret (b := true) dX0_isAhead_52 rfl h
  · have h := h.2 hc
    refine Ev.aload_n (k := 0) (pc' := 6) dX0_isAhead_5 rfl rfl rfl ?_
    refine Ev.getR (pc' := 9) dX0_isAhead_6 rfl fa_RX0_30 ob_62 fk_0_0 rf_62_0 ?_
    refine Ev.getR (pc' := 12) dX0_isAhead_9 rfl fa_RX0_157 ob_3 fk_10_15 rf_3_15 ?_
    refine Ev.iload_n (k := 1) (pc' := 13) dX0_isAhead_12 rfl rfl rfl ?_
    refine Ev.iaload (j := _) (pc' := 14) dX0_isAhead_13 rfl ar_24 h.1 rfl ?_
    have h := h.2
    refine Ev.aload_n (k := 0) (pc' := 15) dX0_isAhead_14 rfl rfl rfl ?_
    refine Ev.getR (pc' := 18) dX0_isAhead_15 rfl fa_RX0_30 ob_62 fk_0_0 rf_62_0 ?_
    refine Ev.getR (pc' := 21) dX0_isAhead_18 rfl fa_RX0_157 ob_3 fk_10_15 rf_3_15 ?_
    refine Ev.iload_n (k := 2) (pc' := 22) dX0_isAhead_21 rfl rfl rfl ?_
    refine Ev.iaload (j := _) (pc' := 23) dX0_isAhead_22 rfl ar_24 h.1 rfl ?_
    have h := h.2
    refine Ev.icmp_le (pc' := 26) (tgt := 30) dX0_isAhead_23 rfl rfl (fun hc => ?_) (fun hc => ?_)
    · have h := h.1 hc
      refine Ev.iconst (pc' := 31) dX0_isAhead_30 rfl ki_0 ?_
      exact Ef.zret (b := false) dX0_isAhead_31 rfl h
    · have h := h.2 hc
      refine Ev.iconst (pc' := 27) dX0_isAhead_26 rfl ki_1 ?_
      refine Ev.goto (tgt := 31) dX0_isAhead_27 rfl ?_
      exact Ef.zret (b := true) dX0_isAhead_31 rfl h
def wpJ6_bitCount_0f7a4 (a0 : Int32) (I : Ix) (L : Lx) (Q : Int32 → Ix → Lx → Prop) : Prop := Q ((((((((a0 - ((jush a0 1) &&& 1431655765)) &&& 858993459) + ((jush (a0 - ((jush a0 1) &&& 1431655765)) 2) &&& 858993459)) + (jush (((a0 - ((jush a0 1) &&& 1431655765)) &&& 858993459) + ((jush (a0 - ((jush a0 1) &&& 1431655765)) 2) &&& 858993459)) 4)) &&& 252645135) + (jush (((((a0 - ((jush a0 1) &&& 1431655765)) &&& 858993459) + ((jush (a0 - ((jush a0 1) &&& 1431655765)) 2) &&& 858993459)) + (jush (((a0 - ((jush a0 1) &&& 1431655765)) &&& 858993459) + ((jush (a0 - ((jush a0 1) &&& 1431655765)) 2) &&& 858993459)) 4)) &&& 252645135) 8)) + (jush ((((((a0 - ((jush a0 1) &&& 1431655765)) &&& 858993459) + ((jush (a0 - ((jush a0 1) &&& 1431655765)) 2) &&& 858993459)) + (jush (((a0 - ((jush a0 1) &&& 1431655765)) &&& 858993459) + ((jush (a0 - ((jush a0 1) &&& 1431655765)) 2) &&& 858993459)) 4)) &&& 252645135) + (jush (((((a0 - ((jush a0 1) &&& 1431655765)) &&& 858993459) + ((jush (a0 - ((jush a0 1) &&& 1431655765)) 2) &&& 858993459)) + (jush (((a0 - ((jush a0 1) &&& 1431655765)) &&& 858993459) + ((jush (a0 - ((jush a0 1) &&& 1431655765)) 2) &&& 858993459)) 4)) &&& 252645135) 8)) 16)) &&& 63) I L
set_option maxRecDepth 10000 in
theorem okJ6_bitCount_0f7a4 {G : Gx} {a0 : Int32} {I : Ix} {L : Lx} {Q : Int32 → Ix → Lx → Prop} (h : wpJ6_bitCount_0f7a4 a0 I L Q) : Mf G MJ6_bitCount_0f7a4 [.int a0] I L (qI Q) := by
  unfold wpJ6_bitCount_0f7a4 at h
  refine Mf.of pn_RJ6 (Nat.le_of_ble_eq_true rfl) ?_
  refine Ev.iload_n (k := 0) (pc' := 1) dJ6_bitCount_0f7a4_0 rfl rfl rfl ?_
  refine Ev.iload_n (k := 0) (pc' := 2) dJ6_bitCount_0f7a4_1 rfl rfl rfl ?_
  refine Ev.iconst (pc' := 3) dJ6_bitCount_0f7a4_2 rfl ki_1 ?_
  refine Ev.iushr (pc' := 4) dJ6_bitCount_0f7a4_3 rfl ?_
  refine Ev.ldc_w (pc' := 7) dJ6_bitCount_0f7a4_4 rfl lc_RJ6_265 ?_
  refine Ev.iand (pc' := 8) dJ6_bitCount_0f7a4_7 rfl ?_
  refine Ev.isub (pc' := 9) dJ6_bitCount_0f7a4_8 rfl ?_
  refine Ev.istore_n (ls' := [(0, .int _)]) (pc' := 10) dJ6_bitCount_0f7a4_9 rfl rfl (Nat.le_of_ble_eq_true rfl) rfl ?_
  refine Ev.iload_n (k := 0) (pc' := 11) dJ6_bitCount_0f7a4_10 rfl rfl rfl ?_
  refine Ev.ldc_w (pc' := 14) dJ6_bitCount_0f7a4_11 rfl lc_RJ6_266 ?_
  refine Ev.iand (pc' := 15) dJ6_bitCount_0f7a4_14 rfl ?_
  refine Ev.iload_n (k := 0) (pc' := 16) dJ6_bitCount_0f7a4_15 rfl rfl rfl ?_
  refine Ev.iconst (pc' := 17) dJ6_bitCount_0f7a4_16 rfl ki_2 ?_
  refine Ev.iushr (pc' := 18) dJ6_bitCount_0f7a4_17 rfl ?_
  refine Ev.ldc_w (pc' := 21) dJ6_bitCount_0f7a4_18 rfl lc_RJ6_266 ?_
  refine Ev.iand (pc' := 22) dJ6_bitCount_0f7a4_21 rfl ?_
  refine Ev.iadd (pc' := 23) dJ6_bitCount_0f7a4_22 rfl ?_
  refine Ev.istore_n (ls' := [(0, .int _)]) (pc' := 24) dJ6_bitCount_0f7a4_23 rfl rfl (Nat.le_of_ble_eq_true rfl) rfl ?_
  refine Ev.iload_n (k := 0) (pc' := 25) dJ6_bitCount_0f7a4_24 rfl rfl rfl ?_
  refine Ev.iload_n (k := 0) (pc' := 26) dJ6_bitCount_0f7a4_25 rfl rfl rfl ?_
  refine Ev.iconst (pc' := 27) dJ6_bitCount_0f7a4_26 rfl ki_4 ?_
  refine Ev.iushr (pc' := 28) dJ6_bitCount_0f7a4_27 rfl ?_
  refine Ev.iadd (pc' := 29) dJ6_bitCount_0f7a4_28 rfl ?_
  refine Ev.ldc_w (pc' := 32) dJ6_bitCount_0f7a4_29 rfl lc_RJ6_267 ?_
  refine Ev.iand (pc' := 33) dJ6_bitCount_0f7a4_32 rfl ?_
  refine Ev.istore_n (ls' := [(0, .int _)]) (pc' := 34) dJ6_bitCount_0f7a4_33 rfl rfl (Nat.le_of_ble_eq_true rfl) rfl ?_
  refine Ev.iload_n (k := 0) (pc' := 35) dJ6_bitCount_0f7a4_34 rfl rfl rfl ?_
  refine Ev.iload_n (k := 0) (pc' := 36) dJ6_bitCount_0f7a4_35 rfl rfl rfl ?_
  refine Ev.bipush (pc' := 38) dJ6_bitCount_0f7a4_36 rfl kb_8 ?_
  refine Ev.iushr (pc' := 39) dJ6_bitCount_0f7a4_38 rfl ?_
  refine Ev.iadd (pc' := 40) dJ6_bitCount_0f7a4_39 rfl ?_
  refine Ev.istore_n (ls' := [(0, .int _)]) (pc' := 41) dJ6_bitCount_0f7a4_40 rfl rfl (Nat.le_of_ble_eq_true rfl) rfl ?_
  refine Ev.iload_n (k := 0) (pc' := 42) dJ6_bitCount_0f7a4_41 rfl rfl rfl ?_
  refine Ev.iload_n (k := 0) (pc' := 43) dJ6_bitCount_0f7a4_42 rfl rfl rfl ?_
  refine Ev.bipush (pc' := 45) dJ6_bitCount_0f7a4_43 rfl kb_16 ?_
  refine Ev.iushr (pc' := 46) dJ6_bitCount_0f7a4_45 rfl ?_
  refine Ev.iadd (pc' := 47) dJ6_bitCount_0f7a4_46 rfl ?_
  refine Ev.istore_n (ls' := [(0, .int _)]) (pc' := 48) dJ6_bitCount_0f7a4_47 rfl rfl (Nat.le_of_ble_eq_true rfl) rfl ?_
  refine Ev.iload_n (k := 0) (pc' := 49) dJ6_bitCount_0f7a4_48 rfl rfl rfl ?_
  refine Ev.bipush (pc' := 51) dJ6_bitCount_0f7a4_49 rfl kb_63 ?_
  refine Ev.iand (pc' := 52) dJ6_bitCount_0f7a4_51 rfl ?_
  exact Ef.iret dJ6_bitCount_0f7a4_52 rfl h
def wpX2_draw (o0 : Nat) (a1 : Int32) (I : Ix) (L : Lx) (Q : Int32 → Ix → Lx → Prop) : Prop := ∀ I1 : Ix, I1 = pu I o0 2 (((I o0 2) * 1103515245) + 12345) → (a1 ≤ 0 → Q 0 I1 L) ∧ (¬ a1 ≤ 0 → ¬ a1 = 0 ∧ Q (jrem (jush (I1 o0 2) 16) a1) I1 L)
set_option maxRecDepth 10000 in
theorem okX2_draw {G : Gx} {o0 : Nat} (ho0 : NowAt o0) {a1 : Int32} {I : Ix} {L : Lx} {Q : Int32 → Ix → Lx → Prop} (h : wpX2_draw o0 a1 I L Q) : Mf G MX2_draw [.ref o0, .int a1] I L (qI Q) := by
  unfold wpX2_draw at h
  refine Mf.of pn_RX2 (Nat.le_of_ble_eq_true rfl) ?_
  refine Ev.aload_n (k := 0) (pc' := 1) dX2_draw_0 rfl rfl rfl ?_
  refine Ev.aload_n (k := 0) (pc' := 2) dX2_draw_1 rfl rfl rfl ?_
  refine Ev.getI (pc' := 5) dX2_draw_2 rfl fa_RX2_9 (nowOB ho0) fk_2_2 ?_
  refine Ev.ldc (pc' := 7) dX2_draw_5 rfl lc_RX2_59 ?_
  refine Ev.imul (pc' := 8) dX2_draw_7 rfl ?_
  refine Ev.sipush (pc' := 11) dX2_draw_8 rfl ks_12345 ?_
  refine Ev.iadd (pc' := 12) dX2_draw_11 rfl ?_
  refine Ev.putI (pc' := 15) dX2_draw_12 rfl fa_RX2_9 (nowOB ho0) fk_2_2 rfl rfl (fun I1 eI1 => ?_)
  have h := h I1 eI1
  refine Ev.iload_n (k := 1) (pc' := 16) dX2_draw_15 rfl rfl rfl ?_
  refine Ev.if_le (pc' := 19) (tgt := 31) dX2_draw_16 rfl rfl (fun hc => ?_) (fun hc => ?_)
  · have h := h.1 hc
    refine Ev.iconst (pc' := 32) dX2_draw_31 rfl ki_0 ?_
    exact Ef.iret dX2_draw_32 rfl h
  · have h := h.2 hc
    refine Ev.aload_n (k := 0) (pc' := 20) dX2_draw_19 rfl rfl rfl ?_
    refine Ev.getI (pc' := 23) dX2_draw_20 rfl fa_RX2_9 (nowOB ho0) fk_2_2 ?_
    refine Ev.bipush (pc' := 25) dX2_draw_23 rfl kb_16 ?_
    refine Ev.iushr (pc' := 26) dX2_draw_25 rfl ?_
    refine Ev.iload_n (k := 1) (pc' := 27) dX2_draw_26 rfl rfl rfl ?_
    refine Ev.irem (pc' := 28) dX2_draw_27 rfl h.1 ?_
    have h := h.2
    refine Ev.goto (tgt := 32) dX2_draw_28 rfl ?_
    exact Ef.iret dX2_draw_32 rfl h
def wpX0_drawnOf_l24 (o1 : Nat) (Q : Int32 → Ix → Lx → Prop) (P24 : Int32 → Int32 → Int32 → Ix → Lx → Prop) (v2 : Int32) (v4 : Int32) (v5 : Int32) (I : Ix) (L : Lx) : Prop := ((I 3 3) ≤ v5 → Q (-1) I L) ∧ (¬ (I 3 3) ≤ v5 → (¬ ((jush v2 v5) &&& 1) = 1 → P24 v2 v4 (v5 + 1) I L) ∧ (((jush v2 v5) &&& 1) = 1 → (¬ v4 = 0 → P24 v2 (v4 + (-1)) (v5 + 1) I L) ∧ (v4 = 0 → Q v5 I L)))
def wpX0_drawnOf_h24 (o1 : Nat) (Q : Int32 → Ix → Lx → Prop) (v2 : Int32) (v4 : Int32) (v5 : Int32) (I : Ix) (L : Lx) : Prop := Lfp (X := Int32 × Int32 × Int32 × Ix × Lx) (fun P z => wpX0_drawnOf_l24 o1 Q (fun v2 v4 v5 I L => P (v2, v4, v5, I, L)) z.1 z.2.1 z.2.2.1 z.2.2.2.1 z.2.2.2.2) (v2, v4, v5, I, L)
theorem wpX0_drawnOf_h24_fold {o1 : Nat} {Q : Int32 → Ix → Lx → Prop} {v2 : Int32} {v4 : Int32} {v5 : Int32} {I : Ix} {L : Lx} (h : wpX0_drawnOf_l24 o1 Q (wpX0_drawnOf_h24 o1 Q) v2 v4 v5 I L) : wpX0_drawnOf_h24 o1 Q v2 v4 v5 I L := Lfp.fold h
def wpX0_drawnOf (o1 : Nat) (a2 : Int32) (I : Ix) (L : Lx) (Q : Int32 → Ix → Lx → Prop) : Prop := wpJ6_bitCount_0f7a4 a2 I L (fun r3 I1 L2 => (r3 ≤ 1 → wpX0_drawnOf_h24 o1 Q a2 0 0 I1 L2) ∧ (¬ r3 ≤ 1 → wpX2_draw o1 r3 I1 L2 (fun r6 I4 L5 => wpX0_drawnOf_h24 o1 Q a2 r6 0 I4 L5)))
set_option maxRecDepth 10000 in
theorem okX0_drawnOf_l24 {G : Gx} {o1 : Nat} (ho1 : NowAt o1) {Q : Int32 → Ix → Lx → Prop} {P24 : Int32 → Int32 → Int32 → Ix → Lx → Prop} (hP24 : ∀ (v2 : Int32) (v4 : Int32) (v5 : Int32) (I : Ix) (L : Lx), P24 v2 v4 v5 I L → Ef G MX0_drawnOf (qI Q) 24 [(0, .ref 62), (2, .int v2), (4, .int v4), (5, .int v5)] [] I L) {v2 : Int32} {v4 : Int32} {v5 : Int32} {I : Ix} {L : Lx} (h : wpX0_drawnOf_l24 o1 Q P24 v2 v4 v5 I L) : Ef G MX0_drawnOf (qI Q) 24 [(0, .ref 62), (2, .int v2), (4, .int v4), (5, .int v5)] [] I L := by
  unfold wpX0_drawnOf_l24 at h
  refine Ev.iload (k := 3) (pc' := 26) dX0_drawnOf_24 rfl rfl ?_
  refine Ev.aload_n (k := 0) (pc' := 27) dX0_drawnOf_26 rfl rfl rfl ?_
  refine Ev.getR (pc' := 30) dX0_drawnOf_27 rfl fa_RX0_30 ob_62 fk_0_0 rf_62_0 ?_
  refine Ev.getI (pc' := 33) dX0_drawnOf_30 rfl fa_RX0_64 ob_3 fk_10_3 ?_
  refine Ev.icmp_ge (pc' := 36) (tgt := 63) dX0_drawnOf_33 rfl rfl (fun hc => ?_) (fun hc => ?_)
  · have h := h.1 hc
    refine Ev.iconst (pc' := 64) dX0_drawnOf_63 rfl ki_m1 ?_
    exact Ef.iret dX0_drawnOf_64 rfl h
  · have h := h.2 hc
    refine Ev.iload_n (k := 1) (pc' := 37) dX0_drawnOf_36 rfl rfl rfl ?_
    refine Ev.iload (k := 3) (pc' := 39) dX0_drawnOf_37 rfl rfl ?_
    refine Ev.iushr (pc' := 40) dX0_drawnOf_39 rfl ?_
    refine Ev.iconst (pc' := 41) dX0_drawnOf_40 rfl ki_1 ?_
    refine Ev.iand (pc' := 42) dX0_drawnOf_41 rfl ?_
    refine Ev.iconst (pc' := 43) dX0_drawnOf_42 rfl ki_1 ?_
    refine Ev.icmp_ne (pc' := 46) (tgt := 57) dX0_drawnOf_43 rfl rfl (fun hc => ?_) (fun hc => ?_)
    · have h := h.1 hc
      refine Ev.iinc (k := 3) (v := _) (ls' := [(5, .int _), (0, .ref _), (2, .int _), (4, .int _)]) (pc' := 60) dX0_drawnOf_57 rfl rfl (congrArg (_ + ·) ki_1) (Nat.le_of_ble_eq_true rfl) rfl ?_
      refine Ev.goto (tgt := 24) dX0_drawnOf_60 rfl ?_
      exact Ev.sub [1, 2, 3, 0] rfl (hP24 _ _ _ _ _ h)
    · have h := h.2 hc
      refine Ev.iload (k := 2) (pc' := 48) dX0_drawnOf_46 rfl rfl ?_
      refine Ev.if_ne (pc' := 51) (tgt := 54) dX0_drawnOf_48 rfl rfl (fun hc => ?_) (fun hc => ?_)
      · have h := h.1 hc
        refine Ev.iinc (k := 2) (v := _) (ls' := [(4, .int _), (0, .ref _), (2, .int _), (5, .int _)]) (pc' := 57) dX0_drawnOf_54 rfl rfl (congrArg (_ + ·) ki_m1) (Nat.le_of_ble_eq_true rfl) rfl ?_
        refine Ev.iinc (k := 3) (v := _) (ls' := [(5, .int _), (4, .int _), (0, .ref _), (2, .int _)]) (pc' := 60) dX0_drawnOf_57 rfl rfl (congrArg (_ + ·) ki_1) (Nat.le_of_ble_eq_true rfl) rfl ?_
        refine Ev.goto (tgt := 24) dX0_drawnOf_60 rfl ?_
        exact Ev.sub [2, 3, 1, 0] rfl (hP24 _ _ _ _ _ h)
      · have h := h.2 hc
        refine Ev.iload (k := 3) (pc' := 53) dX0_drawnOf_51 rfl rfl ?_
        exact Ef.iret dX0_drawnOf_53 rfl h
set_option maxRecDepth 10000 in
theorem okX0_drawnOf_h24 {G : Gx} {o1 : Nat} (ho1 : NowAt o1) {Q : Int32 → Ix → Lx → Prop} {v2 : Int32} {v4 : Int32} {v5 : Int32} {I : Ix} {L : Lx} (h : wpX0_drawnOf_h24 o1 Q v2 v4 v5 I L) : Ef G MX0_drawnOf (qI Q) 24 [(0, .ref 62), (2, .int v2), (4, .int v4), (5, .int v5)] [] I L := by
  unfold wpX0_drawnOf_h24 at h
  refine Lfp.ind (P := fun z => Ef G MX0_drawnOf (qI Q) 24 [(0, .ref 62), (2, .int z.1), (4, .int z.2.1), (5, .int z.2.2.1)] [] z.2.2.2.1 z.2.2.2.2) ?_ h
  intro z P' hP' h
  obtain ⟨v2, v4, v5, I, L⟩ := z
  exact okX0_drawnOf_l24 ho1 (fun v2 v4 v5 I L h9 => hP' (v2, v4, v5, I, L) h9) h
set_option maxRecDepth 10000 in
theorem okX0_drawnOf {G : Gx} {o1 : Nat} (ho1 : NowAt o1) {a2 : Int32} {I : Ix} {L : Lx} {Q : Int32 → Ix → Lx → Prop} (h : wpX0_drawnOf o1 a2 I L Q) : Mf G MX0_drawnOf [.ref 62, .ref o1, .int a2] I L (qI Q) := by
  unfold wpX0_drawnOf at h
  refine Mf.of pn_RX0 (Nat.le_of_ble_eq_true rfl) ?_
  refine Ev.iload_n (k := 2) (pc' := 1) dX0_drawnOf_0 rfl rfl rfl ?_
  refine Ef.callSI [.int _] [] (pc' := 4) dX0_drawnOf_1 rfl cv_RX0_195_J6_bitCount_0f7a4 ⟨Nat.le_of_ble_eq_true rfl, Nat.le_of_ble_eq_true rfl⟩ rfl rfl (Nat.le_of_ble_eq_true rfl) (okJ6_bitCount_0f7a4 h) (fun r3 I1 L2 h => ?_)
  refine Ev.istore_n (ls' := [(3, .int _), (0, .ref _), (1, .ref _), (2, .int _)]) (pc' := 5) dX0_drawnOf_4 rfl rfl (Nat.le_of_ble_eq_true rfl) rfl ?_
  refine Ev.iload_n (k := 0) (pc' := 6) dX0_drawnOf_5 rfl rfl rfl ?_
  refine Ev.iconst (pc' := 7) dX0_drawnOf_6 rfl ki_1 ?_
  refine Ev.icmp_le (pc' := 10) (tgt := 18) dX0_drawnOf_7 rfl rfl (fun hc => ?_) (fun hc => ?_)
  · have h := h.1 hc
    refine Ev.iconst (pc' := 19) dX0_drawnOf_18 rfl ki_0 ?_
    refine Ev.istore (ls' := [(4, .int _), (3, .int _), (0, .ref _), (1, .ref _), (2, .int _)]) (pc' := 21) dX0_drawnOf_19 rfl (Nat.le_of_ble_eq_true rfl) rfl ?_
    refine Ev.iconst (pc' := 22) dX0_drawnOf_21 rfl ki_0 ?_
    refine Ev.istore (ls' := [(5, .int _), (4, .int _), (3, .int _), (0, .ref _), (1, .ref _), (2, .int _)]) (pc' := 24) dX0_drawnOf_22 rfl (Nat.le_of_ble_eq_true rfl) rfl ?_
    exact Ev.sub [3, 5, 1, 0] rfl (okX0_drawnOf_h24 ho1 h)
  · have h := h.2 hc
    refine Ev.aload_n (k := 2) (pc' := 11) dX0_drawnOf_10 rfl rfl rfl ?_
    refine Ev.iload_n (k := 0) (pc' := 12) dX0_drawnOf_11 rfl rfl rfl ?_
    refine Ef.callVI [.int _] [] (pc' := 15) dX0_drawnOf_12 rfl cv_RX0_48_X2_draw ⟨Nat.le_of_ble_eq_true rfl, Nat.le_of_ble_eq_true rfl⟩ (nowOB ho1) rfl rfl rfl (Nat.le_of_ble_eq_true rfl) (okX2_draw ho1 h) (fun r6 I4 L5 h => ?_)
    refine Ev.goto (tgt := 19) dX0_drawnOf_15 rfl ?_
    refine Ev.istore (ls' := [(4, .int _), (3, .int _), (0, .ref _), (1, .ref _), (2, .int _)]) (pc' := 21) dX0_drawnOf_19 rfl (Nat.le_of_ble_eq_true rfl) rfl ?_
    refine Ev.iconst (pc' := 22) dX0_drawnOf_21 rfl ki_0 ?_
    refine Ev.istore (ls' := [(5, .int _), (4, .int _), (3, .int _), (0, .ref _), (1, .ref _), (2, .int _)]) (pc' := 24) dX0_drawnOf_22 rfl (Nat.le_of_ble_eq_true rfl) rfl ?_
    exact Ev.sub [3, 5, 1, 0] rfl (okX0_drawnOf_h24 ho1 h)
def wpX0_winner_l18 (o1 : Nat) (Q : Int32 → Ix → Lx → Prop) (P18 : Int32 → Int32 → Int32 → Int32 → Ix → Lx → Prop) (v2 : Int32) (v3 : Int32) (v4 : Int32) (v5 : Int32) (I : Ix) (L : Lx) : Prop := ((I 3 3) ≤ v5 → Q v4 I L) ∧ (¬ (I 3 3) ≤ v5 → (¬ ((jush v2 v5) &&& 1) = 1 → P18 v2 v3 v4 (v5 + 1) I L) ∧ (((jush v2 v5) &&& 1) = 1 → (v4 = (-1) → P18 v2 v3 v5 (v5 + 1) I L) ∧ (¬ v4 = (-1) → wpX0_isAhead v5 v4 v3 I L (fun r3 I1 L2 => (r3 = false → P18 v2 v3 v4 (v5 + 1) I1 L2) ∧ (r3 = true → P18 v2 v3 v5 (v5 + 1) I1 L2)))))
def wpX0_winner_h18 (o1 : Nat) (Q : Int32 → Ix → Lx → Prop) (v2 : Int32) (v3 : Int32) (v4 : Int32) (v5 : Int32) (I : Ix) (L : Lx) : Prop := Lfp (X := Int32 × Int32 × Int32 × Int32 × Ix × Lx) (fun P z => wpX0_winner_l18 o1 Q (fun v2 v3 v4 v5 I L => P (v2, v3, v4, v5, I, L)) z.1 z.2.1 z.2.2.1 z.2.2.2.1 z.2.2.2.2.1 z.2.2.2.2.2) (v2, v3, v4, v5, I, L)
theorem wpX0_winner_h18_fold {o1 : Nat} {Q : Int32 → Ix → Lx → Prop} {v2 : Int32} {v3 : Int32} {v4 : Int32} {v5 : Int32} {I : Ix} {L : Lx} (h : wpX0_winner_l18 o1 Q (wpX0_winner_h18 o1 Q) v2 v3 v4 v5 I L) : wpX0_winner_h18 o1 Q v2 v3 v4 v5 I L := Lfp.fold h
def wpX0_winner (o1 : Nat) (a2 : Int32) (a3 : Int32) (I : Ix) (L : Lx) (Q : Int32 → Ix → Lx → Prop) : Prop := (¬ a3 = 2 → wpX0_winner_h18 o1 Q a2 a3 (-1) 0 I L) ∧ (a3 = 2 → wpX0_drawnOf o1 a2 I L (fun r3 I1 L2 => Q r3 I1 L2))
set_option maxRecDepth 10000 in
theorem okX0_winner_l18 {G : Gx} {o1 : Nat} (ho1 : NowAt o1) {Q : Int32 → Ix → Lx → Prop} {P18 : Int32 → Int32 → Int32 → Int32 → Ix → Lx → Prop} (hP18 : ∀ (v2 : Int32) (v3 : Int32) (v4 : Int32) (v5 : Int32) (I : Ix) (L : Lx), P18 v2 v3 v4 v5 I L → Ef G MX0_winner (qI Q) 18 [(0, .ref 62), (2, .int v2), (3, .int v3), (4, .int v4), (5, .int v5)] [] I L) {v2 : Int32} {v3 : Int32} {v4 : Int32} {v5 : Int32} {I : Ix} {L : Lx} (h : wpX0_winner_l18 o1 Q P18 v2 v3 v4 v5 I L) : Ef G MX0_winner (qI Q) 18 [(0, .ref 62), (2, .int v2), (3, .int v3), (4, .int v4), (5, .int v5)] [] I L := by
  unfold wpX0_winner_l18 at h
  refine Ev.iload (k := 4) (pc' := 20) dX0_winner_18 rfl rfl ?_
  refine Ev.aload_n (k := 0) (pc' := 21) dX0_winner_20 rfl rfl rfl ?_
  refine Ev.getR (pc' := 24) dX0_winner_21 rfl fa_RX0_30 ob_62 fk_0_0 rf_62_0 ?_
  refine Ev.getI (pc' := 27) dX0_winner_24 rfl fa_RX0_64 ob_3 fk_10_3 ?_
  refine Ev.icmp_ge (pc' := 30) (tgt := 68) dX0_winner_27 rfl rfl (fun hc => ?_) (fun hc => ?_)
  · have h := h.1 hc
    refine Ev.iload (k := 3) (pc' := 70) dX0_winner_68 rfl rfl ?_
    exact Ef.iret dX0_winner_70 rfl h
  · have h := h.2 hc
    refine Ev.iload_n (k := 1) (pc' := 31) dX0_winner_30 rfl rfl rfl ?_
    refine Ev.iload (k := 4) (pc' := 33) dX0_winner_31 rfl rfl ?_
    refine Ev.iushr (pc' := 34) dX0_winner_33 rfl ?_
    refine Ev.iconst (pc' := 35) dX0_winner_34 rfl ki_1 ?_
    refine Ev.iand (pc' := 36) dX0_winner_35 rfl ?_
    refine Ev.iconst (pc' := 37) dX0_winner_36 rfl ki_1 ?_
    refine Ev.icmp_ne (pc' := 40) (tgt := 62) dX0_winner_37 rfl rfl (fun hc => ?_) (fun hc => ?_)
    · have h := h.1 hc
      refine Ev.iinc (k := 4) (v := _) (ls' := [(5, .int _), (0, .ref _), (2, .int _), (3, .int _), (4, .int _)]) (pc' := 65) dX0_winner_62 rfl rfl (congrArg (_ + ·) ki_1) (Nat.le_of_ble_eq_true rfl) rfl ?_
      refine Ev.goto (tgt := 18) dX0_winner_65 rfl ?_
      exact Ev.sub [1, 2, 3, 4, 0] rfl (hP18 _ _ _ _ _ _ h)
    · have h := h.2 hc
      refine Ev.iload (k := 3) (pc' := 42) dX0_winner_40 rfl rfl ?_
      refine Ev.iconst (pc' := 43) dX0_winner_42 rfl ki_m1 ?_
      refine Ev.icmp_eq (pc' := 46) (tgt := 58) dX0_winner_43 rfl rfl (fun hc => ?_) (fun hc => ?_)
      · have h := h.1 hc
        refine Ev.iload (k := 4) (pc' := 60) dX0_winner_58 rfl rfl ?_
        refine Ev.istore (ls' := [(4, .int _), (0, .ref _), (2, .int _), (3, .int _), (5, .int _)]) (pc' := 62) dX0_winner_60 rfl (Nat.le_of_ble_eq_true rfl) rfl ?_
        refine Ev.iinc (k := 4) (v := _) (ls' := [(5, .int _), (4, .int _), (0, .ref _), (2, .int _), (3, .int _)]) (pc' := 65) dX0_winner_62 rfl rfl (congrArg (_ + ·) ki_1) (Nat.le_of_ble_eq_true rfl) rfl ?_
        refine Ev.goto (tgt := 18) dX0_winner_65 rfl ?_
        exact Ev.sub [2, 3, 4, 1, 0] rfl (hP18 _ _ _ _ _ _ h)
      · have h := h.2 hc
        refine Ev.aload_n (k := 0) (pc' := 47) dX0_winner_46 rfl rfl rfl ?_
        refine Ev.iload (k := 4) (pc' := 49) dX0_winner_47 rfl rfl ?_
        refine Ev.iload (k := 3) (pc' := 51) dX0_winner_49 rfl rfl ?_
        refine Ev.iload_n (k := 2) (pc' := 52) dX0_winner_51 rfl rfl rfl ?_
        refine Ef.callVZ [.int _, .int _, .int _] [] (pc' := 55) dX0_winner_52 rfl cv_RX0_191_X0_isAhead ⟨Nat.le_of_ble_eq_true rfl, Nat.le_of_ble_eq_true rfl⟩ ob_62 rfl rfl rfl (Nat.le_of_ble_eq_true rfl) (okX0_isAhead h) (fun r3 I1 L2 h => ?_)
        refine Ef.ifz_eq (pc' := 58) (tgt := 62) dX0_winner_55 rfl rfl (fun hc => ?_) (fun hc => ?_)
        · have h := h.1 hc
          refine Ev.iinc (k := 4) (v := _) (ls' := [(5, .int _), (0, .ref _), (2, .int _), (3, .int _), (4, .int _)]) (pc' := 65) dX0_winner_62 rfl rfl (congrArg (_ + ·) ki_1) (Nat.le_of_ble_eq_true rfl) rfl ?_
          refine Ev.goto (tgt := 18) dX0_winner_65 rfl ?_
          exact Ev.sub [1, 2, 3, 4, 0] rfl (hP18 _ _ _ _ _ _ h)
        · have h := h.2 hc
          refine Ev.iload (k := 4) (pc' := 60) dX0_winner_58 rfl rfl ?_
          refine Ev.istore (ls' := [(4, .int _), (0, .ref _), (2, .int _), (3, .int _), (5, .int _)]) (pc' := 62) dX0_winner_60 rfl (Nat.le_of_ble_eq_true rfl) rfl ?_
          refine Ev.iinc (k := 4) (v := _) (ls' := [(5, .int _), (4, .int _), (0, .ref _), (2, .int _), (3, .int _)]) (pc' := 65) dX0_winner_62 rfl rfl (congrArg (_ + ·) ki_1) (Nat.le_of_ble_eq_true rfl) rfl ?_
          refine Ev.goto (tgt := 18) dX0_winner_65 rfl ?_
          exact Ev.sub [2, 3, 4, 1, 0] rfl (hP18 _ _ _ _ _ _ h)
set_option maxRecDepth 10000 in
theorem okX0_winner_h18 {G : Gx} {o1 : Nat} (ho1 : NowAt o1) {Q : Int32 → Ix → Lx → Prop} {v2 : Int32} {v3 : Int32} {v4 : Int32} {v5 : Int32} {I : Ix} {L : Lx} (h : wpX0_winner_h18 o1 Q v2 v3 v4 v5 I L) : Ef G MX0_winner (qI Q) 18 [(0, .ref 62), (2, .int v2), (3, .int v3), (4, .int v4), (5, .int v5)] [] I L := by
  unfold wpX0_winner_h18 at h
  refine Lfp.ind (P := fun z => Ef G MX0_winner (qI Q) 18 [(0, .ref 62), (2, .int z.1), (3, .int z.2.1), (4, .int z.2.2.1), (5, .int z.2.2.2.1)] [] z.2.2.2.2.1 z.2.2.2.2.2) ?_ h
  intro z P' hP' h
  obtain ⟨v2, v3, v4, v5, I, L⟩ := z
  exact okX0_winner_l18 ho1 (fun v2 v3 v4 v5 I L h9 => hP' (v2, v3, v4, v5, I, L) h9) h
set_option maxRecDepth 10000 in
theorem okX0_winner {G : Gx} {o1 : Nat} (ho1 : NowAt o1) {a2 : Int32} {a3 : Int32} {I : Ix} {L : Lx} {Q : Int32 → Ix → Lx → Prop} (h : wpX0_winner o1 a2 a3 I L Q) : Mf G MX0_winner [.ref 62, .ref o1, .int a2, .int a3] I L (qI Q) := by
  unfold wpX0_winner at h
  refine Mf.of pn_RX0 (Nat.le_of_ble_eq_true rfl) ?_
  refine Ev.iload_n (k := 3) (pc' := 1) dX0_winner_0 rfl rfl rfl ?_
  refine Ev.iconst (pc' := 2) dX0_winner_1 rfl ki_2 ?_
  refine Ev.icmp_ne (pc' := 5) (tgt := 12) dX0_winner_2 rfl rfl (fun hc => ?_) (fun hc => ?_)
  · have h := h.1 hc
    refine Ev.iconst (pc' := 13) dX0_winner_12 rfl ki_m1 ?_
    refine Ev.istore (ls' := [(4, .int _), (0, .ref _), (1, .ref _), (2, .int _), (3, .int _)]) (pc' := 15) dX0_winner_13 rfl (Nat.le_of_ble_eq_true rfl) rfl ?_
    refine Ev.iconst (pc' := 16) dX0_winner_15 rfl ki_0 ?_
    refine Ev.istore (ls' := [(5, .int _), (4, .int _), (0, .ref _), (1, .ref _), (2, .int _), (3, .int _)]) (pc' := 18) dX0_winner_16 rfl (Nat.le_of_ble_eq_true rfl) rfl ?_
    exact Ev.sub [2, 4, 5, 1, 0] rfl (okX0_winner_h18 ho1 h)
  · have h := h.2 hc
    refine Ev.aload_n (k := 0) (pc' := 6) dX0_winner_5 rfl rfl rfl ?_
    refine Ev.aload_n (k := 1) (pc' := 7) dX0_winner_6 rfl rfl rfl ?_
    refine Ev.iload_n (k := 2) (pc' := 8) dX0_winner_7 rfl rfl rfl ?_
    refine Ef.callVI [.ref _, .int _] [] (pc' := 11) dX0_winner_8 rfl cv_RX0_187_X0_drawnOf ⟨Nat.le_of_ble_eq_true rfl, Nat.le_of_ble_eq_true rfl⟩ ob_62 rfl rfl rfl (Nat.le_of_ble_eq_true rfl) (okX0_drawnOf ho1 h) (fun r3 I1 L2 h => ?_)
    exact Ef.iret dX0_winner_11 rfl h
def wpX10_isTaker_3 (a1 : Int32) (a2 : Int32) (I : Ix) (L : Lx) (Q : Bool → Ix → Lx → Prop) : Prop := vp_in a1 6 ∧ vp_in a2 10 ∧ ((I 24 a1.toNatClampNeg) < (I 19 a2.toNatClampNeg) → Q false I L) ∧ (¬ (I 24 a1.toNatClampNeg) < (I 19 a2.toNatClampNeg) → Q true I L)
set_option maxRecDepth 10000 in
theorem okX10_isTaker_3 {G : Gx} {a1 : Int32} {a2 : Int32} {I : Ix} {L : Lx} {Q : Bool → Ix → Lx → Prop} (h : wpX10_isTaker_3 a1 a2 I L Q) : Mf G MX10_isTaker_3 [.ref 3, .int a1, .int a2] I L (qZ Q) := by
  unfold wpX10_isTaker_3 at h
  refine Mf.of pn_RX10 (Nat.le_of_ble_eq_true rfl) ?_
  refine Ev.aload_n (k := 0) (pc' := 1) dX10_isTaker_0 rfl rfl rfl ?_
  refine Ev.getR (pc' := 4) dX10_isTaker_1 rfl fa_RX10_55 ob_3 fk_10_15 rf_3_15 ?_
  refine Ev.iload_n (k := 1) (pc' := 5) dX10_isTaker_4 rfl rfl rfl ?_
  refine Ev.iaload (j := _) (pc' := 6) dX10_isTaker_5 rfl ar_24 h.1 rfl ?_
  have h := h.2
  refine Ev.aload_n (k := 0) (pc' := 7) dX10_isTaker_6 rfl rfl rfl ?_
  refine Ev.getR (pc' := 10) dX10_isTaker_7 rfl fa_RX10_39 ob_3 fk_10_10 rf_3_10 ?_
  refine Ev.iload_n (k := 2) (pc' := 11) dX10_isTaker_10 rfl rfl rfl ?_
  refine Ev.iaload (j := _) (pc' := 12) dX10_isTaker_11 rfl ar_19 h.1 rfl ?_
  have h := h.2
  refine Ev.icmp_lt (pc' := 15) (tgt := 19) dX10_isTaker_12 rfl rfl (fun hc => ?_) (fun hc => ?_)
  · have h := h.1 hc
    refine Ev.iconst (pc' := 20) dX10_isTaker_19 rfl ki_0 ?_
    exact Ef.zret (b := false) dX10_isTaker_20 rfl h
  · have h := h.2 hc
    refine Ev.iconst (pc' := 16) dX10_isTaker_15 rfl ki_1 ?_
    refine Ev.goto (tgt := 20) dX10_isTaker_16 rfl ?_
    exact Ef.zret (b := true) dX10_isTaker_20 rfl h
def wpX0_settle_l6 (o1 : Nat) (Q : Ix → Lx → Prop) (P6 : Int32 → Int32 → Int32 → Int32 → Ix → Lx → Prop) (v2 : Int32) (v3 : Int32) (v4 : Int32) (v5 : Int32) (I : Ix) (L : Lx) : Prop := ((I 3 3) ≤ v5 → vp_in v2 10 ∧ ∀ I1 : Ix, I1 = pu I (o1 + 3) v2.toNatClampNeg v4 → vp_in v2 10 ∧ ((I1 68 v2.toNatClampNeg) = 0 → (¬ v4 = 0 → Q I1 L) ∧ (v4 = 0 → vp_in v2 10 ∧ (¬ (I1 19 v2.toNatClampNeg) = 0 → Q I1 L) ∧ ((I1 19 v2.toNatClampNeg) = 0 → vp_in v2 10 ∧ ∀ I2 : Ix, I2 = pu I1 (o1 + 1) v2.toNatClampNeg (-1) → Q I2 L))) ∧ (¬ (I1 68 v2.toNatClampNeg) = 0 → vp_in v2 10 ∧ wpX0_winner o1 (I1 68 v2.toNatClampNeg) v3 I1 L (fun r5 I3 L4 => vp_in v2 10 ∧ ∀ I6 : Ix, I6 = pu I3 (o1 + 1) v2.toNatClampNeg r5 → Q I6 L4))) ∧ (¬ (I 3 3) ≤ v5 → vp_in v5 6 ∧ (¬ (I 66 v5.toNatClampNeg) = v2 → P6 v2 v3 v4 (v5 + 1) I L) ∧ ((I 66 v5.toNatClampNeg) = v2 → wpX10_isTaker_3 v5 v2 I L (fun r9 I7 L8 => (r9 = false → P6 v2 v3 (v4 + 1) (v5 + 1) I7 L8) ∧ (r9 = true → vp_in v2 10 ∧ vp_in v2 10 ∧ ∀ I10 : Ix, I10 = pu I7 68 v2.toNatClampNeg ((I7 68 v2.toNatClampNeg) ||| (jshl 1 v5)) → P6 v2 v3 (v4 + 1) (v5 + 1) I10 L8))))
def wpX0_settle_h6 (o1 : Nat) (Q : Ix → Lx → Prop) (v2 : Int32) (v3 : Int32) (v4 : Int32) (v5 : Int32) (I : Ix) (L : Lx) : Prop := Lfp (X := Int32 × Int32 × Int32 × Int32 × Ix × Lx) (fun P z => wpX0_settle_l6 o1 Q (fun v2 v3 v4 v5 I L => P (v2, v3, v4, v5, I, L)) z.1 z.2.1 z.2.2.1 z.2.2.2.1 z.2.2.2.2.1 z.2.2.2.2.2) (v2, v3, v4, v5, I, L)
theorem wpX0_settle_h6_fold {o1 : Nat} {Q : Ix → Lx → Prop} {v2 : Int32} {v3 : Int32} {v4 : Int32} {v5 : Int32} {I : Ix} {L : Lx} (h : wpX0_settle_l6 o1 Q (wpX0_settle_h6 o1 Q) v2 v3 v4 v5 I L) : wpX0_settle_h6 o1 Q v2 v3 v4 v5 I L := Lfp.fold h
def wpX0_settle (o1 : Nat) (a2 : Int32) (a3 : Int32) (I : Ix) (L : Lx) (Q : Ix → Lx → Prop) : Prop := wpX0_settle_h6 o1 Q a2 a3 0 0 I L
set_option maxRecDepth 10000 in
theorem okX0_settle_l6 {G : Gx} {o1 : Nat} (ho1 : NowAt o1) {Q : Ix → Lx → Prop} {P6 : Int32 → Int32 → Int32 → Int32 → Ix → Lx → Prop} (hP6 : ∀ (v2 : Int32) (v3 : Int32) (v4 : Int32) (v5 : Int32) (I : Ix) (L : Lx), P6 v2 v3 v4 v5 I L → Ef G MX0_settle (qV Q) 6 [(0, .ref 62), (1, .ref o1), (2, .int v2), (3, .int v3), (4, .int v4), (5, .int v5)] [] I L) {v2 : Int32} {v3 : Int32} {v4 : Int32} {v5 : Int32} {I : Ix} {L : Lx} (h : wpX0_settle_l6 o1 Q P6 v2 v3 v4 v5 I L) : Ef G MX0_settle (qV Q) 6 [(0, .ref 62), (1, .ref o1), (2, .int v2), (3, .int v3), (4, .int v4), (5, .int v5)] [] I L := by
  unfold wpX0_settle_l6 at h
  refine Ev.iload (k := 5) (pc' := 8) dX0_settle_6 rfl rfl ?_
  refine Ev.aload_n (k := 0) (pc' := 9) dX0_settle_8 rfl rfl rfl ?_
  refine Ev.getR (pc' := 12) dX0_settle_9 rfl fa_RX0_30 ob_62 fk_0_0 rf_62_0 ?_
  refine Ev.getI (pc' := 15) dX0_settle_12 rfl fa_RX0_64 ob_3 fk_10_3 ?_
  refine Ev.icmp_ge (pc' := 18) (tgt := 64) dX0_settle_15 rfl rfl (fun hc => ?_) (fun hc => ?_)
  · have h := h.1 hc
    refine Ev.aload_n (k := 1) (pc' := 65) dX0_settle_64 rfl rfl rfl ?_
    refine Ev.getR (pc' := 68) dX0_settle_65 rfl fa_RX0_142 (nowOB ho1) fk_2_5 (nowR3 ho1) ?_
    refine Ev.iload_n (k := 2) (pc' := 69) dX0_settle_68 rfl rfl rfl ?_
    refine Ev.iload (k := 4) (pc' := 71) dX0_settle_69 rfl rfl ?_
    refine Ev.iastore (j := _) (pc' := 72) dX0_settle_71 rfl (nowA3 ho1) h.1 rfl (fun I1 eI1 => ?_)
    have h := h.2 I1 eI1
    refine Ev.aload_n (k := 0) (pc' := 73) dX0_settle_72 rfl rfl rfl ?_
    refine Ev.getR (pc' := 76) dX0_settle_73 rfl fa_RX0_27 ob_62 fk_0_6 rf_62_6 ?_
    refine Ev.iload_n (k := 2) (pc' := 77) dX0_settle_76 rfl rfl rfl ?_
    refine Ev.iaload (j := _) (pc' := 78) dX0_settle_77 rfl ar_68 h.1 rfl ?_
    have h := h.2
    refine Ev.if_eq (pc' := 81) (tgt := 102) dX0_settle_78 rfl rfl (fun hc => ?_) (fun hc => ?_)
    · have h := h.1 hc
      refine Ev.iload (k := 4) (pc' := 104) dX0_settle_102 rfl rfl ?_
      refine Ev.if_ne (pc' := 107) (tgt := 126) dX0_settle_104 rfl rfl (fun hc => ?_) (fun hc => ?_)
      · have h := h.1 hc
        exact Ef.vret dX0_settle_126 rfl h
      · have h := h.2 hc
        refine Ev.aload_n (k := 0) (pc' := 108) dX0_settle_107 rfl rfl rfl ?_
        refine Ev.getR (pc' := 111) dX0_settle_108 rfl fa_RX0_30 ob_62 fk_0_0 rf_62_0 ?_
        refine Ev.getR (pc' := 114) dX0_settle_111 rfl fa_RX0_145 ob_3 fk_10_10 rf_3_10 ?_
        refine Ev.iload_n (k := 2) (pc' := 115) dX0_settle_114 rfl rfl rfl ?_
        refine Ev.iaload (j := _) (pc' := 116) dX0_settle_115 rfl ar_19 h.1 rfl ?_
        have h := h.2
        refine Ev.if_ne (pc' := 119) (tgt := 126) dX0_settle_116 rfl rfl (fun hc => ?_) (fun hc => ?_)
        · have h := h.1 hc
          exact Ef.vret dX0_settle_126 rfl h
        · have h := h.2 hc
          refine Ev.aload_n (k := 1) (pc' := 120) dX0_settle_119 rfl rfl rfl ?_
          refine Ev.getR (pc' := 123) dX0_settle_120 rfl fa_RX0_73 (nowOB ho1) fk_2_3 (nowR1 ho1) ?_
          refine Ev.iload_n (k := 2) (pc' := 124) dX0_settle_123 rfl rfl rfl ?_
          refine Ev.iconst (pc' := 125) dX0_settle_124 rfl ki_m1 ?_
          refine Ev.iastore (j := _) (pc' := 126) dX0_settle_125 rfl (nowA1 ho1) h.1 rfl (fun I2 eI2 => ?_)
          have h := h.2 I2 eI2
          exact Ef.vret dX0_settle_126 rfl h
    · have h := h.2 hc
      refine Ev.aload_n (k := 1) (pc' := 82) dX0_settle_81 rfl rfl rfl ?_
      refine Ev.getR (pc' := 85) dX0_settle_82 rfl fa_RX0_73 (nowOB ho1) fk_2_3 (nowR1 ho1) ?_
      refine Ev.iload_n (k := 2) (pc' := 86) dX0_settle_85 rfl rfl rfl ?_
      refine Ev.aload_n (k := 0) (pc' := 87) dX0_settle_86 rfl rfl rfl ?_
      refine Ev.aload_n (k := 1) (pc' := 88) dX0_settle_87 rfl rfl rfl ?_
      refine Ev.aload_n (k := 0) (pc' := 89) dX0_settle_88 rfl rfl rfl ?_
      refine Ev.getR (pc' := 92) dX0_settle_89 rfl fa_RX0_27 ob_62 fk_0_6 rf_62_6 ?_
      refine Ev.iload_n (k := 2) (pc' := 93) dX0_settle_92 rfl rfl rfl ?_
      refine Ev.iaload (j := _) (pc' := 94) dX0_settle_93 rfl ar_68 h.1 rfl ?_
      have h := h.2
      refine Ev.iload_n (k := 3) (pc' := 95) dX0_settle_94 rfl rfl rfl ?_
      refine Ef.callVI [.ref _, .int _, .int _] [.int _, .ref _] (pc' := 98) dX0_settle_95 rfl cv_RX0_184_X0_winner ⟨Nat.le_of_ble_eq_true rfl, Nat.le_of_ble_eq_true rfl⟩ ob_62 rfl rfl rfl (Nat.le_of_ble_eq_true rfl) (okX0_winner ho1 h) (fun r5 I3 L4 h => ?_)
      refine Ev.iastore (j := _) (pc' := 99) dX0_settle_98 rfl (nowA1 ho1) h.1 rfl (fun I6 eI6 => ?_)
      have h := h.2 I6 eI6
      refine Ev.goto (tgt := 126) dX0_settle_99 rfl ?_
      exact Ef.vret dX0_settle_126 rfl h
  · have h := h.2 hc
    refine Ev.aload_n (k := 0) (pc' := 19) dX0_settle_18 rfl rfl rfl ?_
    refine Ev.getR (pc' := 22) dX0_settle_19 rfl fa_RX0_21 ob_62 fk_0_4 rf_62_4 ?_
    refine Ev.iload (k := 5) (pc' := 24) dX0_settle_22 rfl rfl ?_
    refine Ev.iaload (j := _) (pc' := 25) dX0_settle_24 rfl ar_66 h.1 rfl ?_
    have h := h.2
    refine Ev.iload_n (k := 2) (pc' := 26) dX0_settle_25 rfl rfl rfl ?_
    refine Ev.icmp_ne (pc' := 29) (tgt := 58) dX0_settle_26 rfl rfl (fun hc => ?_) (fun hc => ?_)
    · have h := h.1 hc
      refine Ev.iinc (k := 5) (v := _) (ls' := [(5, .int _), (0, .ref _), (1, .ref _), (2, .int _), (3, .int _), (4, .int _)]) (pc' := 61) dX0_settle_58 rfl rfl (congrArg (_ + ·) ki_1) (Nat.le_of_ble_eq_true rfl) rfl ?_
      refine Ev.goto (tgt := 6) dX0_settle_61 rfl ?_
      exact Ev.sub [1, 2, 3, 4, 5, 0] rfl (hP6 _ _ _ _ _ _ h)
    · have h := h.2 hc
      refine Ev.iinc (k := 4) (v := _) (ls' := [(4, .int _), (0, .ref _), (1, .ref _), (2, .int _), (3, .int _), (5, .int _)]) (pc' := 32) dX0_settle_29 rfl rfl (congrArg (_ + ·) ki_1) (Nat.le_of_ble_eq_true rfl) rfl ?_
      refine Ev.aload_n (k := 1) (pc' := 33) dX0_settle_32 rfl rfl rfl ?_
      refine Ev.getR (pc' := 36) dX0_settle_33 rfl fa_RX0_30 ob_62 fk_0_0 rf_62_0 ?_
      refine Ev.iload (k := 5) (pc' := 38) dX0_settle_36 rfl rfl ?_
      refine Ev.iload_n (k := 3) (pc' := 39) dX0_settle_38 rfl rfl rfl ?_
      refine Ef.callVZ [.int _, .int _] [] (pc' := 42) dX0_settle_39 rfl cv_RX0_181_X10_isTaker_3 ⟨Nat.le_of_ble_eq_true rfl, Nat.le_of_ble_eq_true rfl⟩ ob_3 rfl rfl rfl (Nat.le_of_ble_eq_true rfl) (okX10_isTaker_3 h) (fun r9 I7 L8 h => ?_)
      refine Ef.ifz_eq (pc' := 45) (tgt := 58) dX0_settle_42 rfl rfl (fun hc => ?_) (fun hc => ?_)
      · have h := h.1 hc
        refine Ev.iinc (k := 5) (v := _) (ls' := [(5, .int _), (4, .int _), (0, .ref _), (1, .ref _), (2, .int _), (3, .int _)]) (pc' := 61) dX0_settle_58 rfl rfl (congrArg (_ + ·) ki_1) (Nat.le_of_ble_eq_true rfl) rfl ?_
        refine Ev.goto (tgt := 6) dX0_settle_61 rfl ?_
        exact Ev.sub [2, 3, 4, 5, 1, 0] rfl (hP6 _ _ _ _ _ _ h)
      · have h := h.2 hc
        refine Ev.aload_n (k := 1) (pc' := 46) dX0_settle_45 rfl rfl rfl ?_
        refine Ev.getR (pc' := 49) dX0_settle_46 rfl fa_RX0_27 ob_62 fk_0_6 rf_62_6 ?_
        refine Ev.iload_n (k := 3) (pc' := 50) dX0_settle_49 rfl rfl rfl ?_
        refine Ev.dup2 (pc' := 51) dX0_settle_50 rfl rfl rfl ?_
        refine Ev.iaload (j := _) (pc' := 52) dX0_settle_51 rfl ar_68 h.1 rfl ?_
        have h := h.2
        refine Ev.iconst (pc' := 53) dX0_settle_52 rfl ki_1 ?_
        refine Ev.iload (k := 5) (pc' := 55) dX0_settle_53 rfl rfl ?_
        refine Ev.ishl (pc' := 56) dX0_settle_55 rfl ?_
        refine Ev.ior (pc' := 57) dX0_settle_56 rfl ?_
        refine Ev.iastore (j := _) (pc' := 58) dX0_settle_57 rfl ar_68 h.1 rfl (fun I10 eI10 => ?_)
        have h := h.2 I10 eI10
        refine Ev.iinc (k := 5) (v := _) (ls' := [(5, .int _), (4, .int _), (0, .ref _), (1, .ref _), (2, .int _), (3, .int _)]) (pc' := 61) dX0_settle_58 rfl rfl (congrArg (_ + ·) ki_1) (Nat.le_of_ble_eq_true rfl) rfl ?_
        refine Ev.goto (tgt := 6) dX0_settle_61 rfl ?_
        exact Ev.sub [2, 3, 4, 5, 1, 0] rfl (hP6 _ _ _ _ _ _ h)
set_option maxRecDepth 10000 in
theorem okX0_settle_h6 {G : Gx} {o1 : Nat} (ho1 : NowAt o1) {Q : Ix → Lx → Prop} {v2 : Int32} {v3 : Int32} {v4 : Int32} {v5 : Int32} {I : Ix} {L : Lx} (h : wpX0_settle_h6 o1 Q v2 v3 v4 v5 I L) : Ef G MX0_settle (qV Q) 6 [(0, .ref 62), (1, .ref o1), (2, .int v2), (3, .int v3), (4, .int v4), (5, .int v5)] [] I L := by
  unfold wpX0_settle_h6 at h
  refine Lfp.ind (P := fun z => Ef G MX0_settle (qV Q) 6 [(0, .ref 62), (1, .ref o1), (2, .int z.1), (3, .int z.2.1), (4, .int z.2.2.1), (5, .int z.2.2.2.1)] [] z.2.2.2.2.1 z.2.2.2.2.2) ?_ h
  intro z P' hP' h
  obtain ⟨v2, v3, v4, v5, I, L⟩ := z
  exact okX0_settle_l6 ho1 (fun v2 v3 v4 v5 I L h9 => hP' (v2, v3, v4, v5, I, L) h9) h
set_option maxRecDepth 10000 in
theorem okX0_settle {G : Gx} {o1 : Nat} (ho1 : NowAt o1) {a2 : Int32} {a3 : Int32} {I : Ix} {L : Lx} {Q : Ix → Lx → Prop} (h : wpX0_settle o1 a2 a3 I L Q) : Mf G MX0_settle [.ref 62, .ref o1, .int a2, .int a3] I L (qV Q) := by
  unfold wpX0_settle at h
  refine Mf.of pn_RX0 (Nat.le_of_ble_eq_true rfl) ?_
  refine Ev.iconst (pc' := 1) dX0_settle_0 rfl ki_0 ?_
  refine Ev.istore (ls' := [(4, .int _), (0, .ref _), (1, .ref _), (2, .int _), (3, .int _)]) (pc' := 3) dX0_settle_1 rfl (Nat.le_of_ble_eq_true rfl) rfl ?_
  refine Ev.iconst (pc' := 4) dX0_settle_3 rfl ki_0 ?_
  refine Ev.istore (ls' := [(5, .int _), (4, .int _), (0, .ref _), (1, .ref _), (2, .int _), (3, .int _)]) (pc' := 6) dX0_settle_4 rfl (Nat.le_of_ble_eq_true rfl) rfl ?_
  exact Ev.sub [2, 3, 4, 5, 1, 0] rfl (okX0_settle_h6 ho1 h)
def wpX0_remember_l2 (o1 : Nat) (Q : Ix → Lx → Prop) (P2 : Int32 → Ix → Lx → Prop) (v2 : Int32) (I : Ix) (L : Lx) : Prop := (10 ≤ v2 → Q I L) ∧ (¬ 10 ≤ v2 → vp_in v2 10 ∧ vp_in v2 10 ∧ ∀ I1 : Ix, I1 = pu I 64 v2.toNatClampNeg (I (o1 + 1) v2.toNatClampNeg) → vp_in v2 10 ∧ vp_in v2 10 ∧ ∀ I2 : Ix, I2 = pu I1 65 v2.toNatClampNeg (I1 (o1 + 3) v2.toNatClampNeg) → vp_in v2 10 ∧ ∀ I3 : Ix, I3 = pu I2 68 v2.toNatClampNeg 0 → P2 (v2 + 1) I3 L)
def wpX0_remember_h2 (o1 : Nat) (Q : Ix → Lx → Prop) (v2 : Int32) (I : Ix) (L : Lx) : Prop := Lfp (X := Int32 × Ix × Lx) (fun P z => wpX0_remember_l2 o1 Q (fun v2 I L => P (v2, I, L)) z.1 z.2.1 z.2.2) (v2, I, L)
theorem wpX0_remember_h2_fold {o1 : Nat} {Q : Ix → Lx → Prop} {v2 : Int32} {I : Ix} {L : Lx} (h : wpX0_remember_l2 o1 Q (wpX0_remember_h2 o1 Q) v2 I L) : wpX0_remember_h2 o1 Q v2 I L := Lfp.fold h
def wpX0_remember (o1 : Nat) (I : Ix) (L : Lx) (Q : Ix → Lx → Prop) : Prop := wpX0_remember_h2 o1 Q 0 I L
set_option maxRecDepth 10000 in
theorem okX0_remember_l2 {G : Gx} {o1 : Nat} (ho1 : NowAt o1) {Q : Ix → Lx → Prop} {P2 : Int32 → Ix → Lx → Prop} (hP2 : ∀ (v2 : Int32) (I : Ix) (L : Lx), P2 v2 I L → Ef G MX0_remember (qV Q) 2 [(0, .ref 62), (1, .ref o1), (2, .int v2)] [] I L) {v2 : Int32} {I : Ix} {L : Lx} (h : wpX0_remember_l2 o1 Q P2 v2 I L) : Ef G MX0_remember (qV Q) 2 [(0, .ref 62), (1, .ref o1), (2, .int v2)] [] I L := by
  unfold wpX0_remember_l2 at h
  refine Ev.iload_n (k := 2) (pc' := 3) dX0_remember_2 rfl rfl rfl ?_
  refine Ev.bipush (pc' := 5) dX0_remember_3 rfl kb_10 ?_
  refine Ev.icmp_ge (pc' := 8) (tgt := 45) dX0_remember_5 rfl rfl (fun hc => ?_) (fun hc => ?_)
  · have h := h.1 hc
    exact Ef.vret dX0_remember_45 rfl h
  · have h := h.2 hc
    refine Ev.aload_n (k := 0) (pc' := 9) dX0_remember_8 rfl rfl rfl ?_
    refine Ev.getR (pc' := 12) dX0_remember_9 rfl fa_RX0_15 ob_62 fk_0_2 rf_62_2 ?_
    refine Ev.iload_n (k := 2) (pc' := 13) dX0_remember_12 rfl rfl rfl ?_
    refine Ev.aload_n (k := 1) (pc' := 14) dX0_remember_13 rfl rfl rfl ?_
    refine Ev.getR (pc' := 17) dX0_remember_14 rfl fa_RX0_73 (nowOB ho1) fk_2_3 (nowR1 ho1) ?_
    refine Ev.iload_n (k := 2) (pc' := 18) dX0_remember_17 rfl rfl rfl ?_
    refine Ev.iaload (j := _) (pc' := 19) dX0_remember_18 rfl (nowA1 ho1) h.1 rfl ?_
    have h := h.2
    refine Ev.iastore (j := _) (pc' := 20) dX0_remember_19 rfl ar_64 h.1 rfl (fun I1 eI1 => ?_)
    have h := h.2 I1 eI1
    refine Ev.aload_n (k := 0) (pc' := 21) dX0_remember_20 rfl rfl rfl ?_
    refine Ev.getR (pc' := 24) dX0_remember_21 rfl fa_RX0_18 ob_62 fk_0_3 rf_62_3 ?_
    refine Ev.iload_n (k := 2) (pc' := 25) dX0_remember_24 rfl rfl rfl ?_
    refine Ev.aload_n (k := 1) (pc' := 26) dX0_remember_25 rfl rfl rfl ?_
    refine Ev.getR (pc' := 29) dX0_remember_26 rfl fa_RX0_142 (nowOB ho1) fk_2_5 (nowR3 ho1) ?_
    refine Ev.iload_n (k := 2) (pc' := 30) dX0_remember_29 rfl rfl rfl ?_
    refine Ev.iaload (j := _) (pc' := 31) dX0_remember_30 rfl (nowA3 ho1) h.1 rfl ?_
    have h := h.2
    refine Ev.iastore (j := _) (pc' := 32) dX0_remember_31 rfl ar_65 h.1 rfl (fun I2 eI2 => ?_)
    have h := h.2 I2 eI2
    refine Ev.aload_n (k := 0) (pc' := 33) dX0_remember_32 rfl rfl rfl ?_
    refine Ev.getR (pc' := 36) dX0_remember_33 rfl fa_RX0_27 ob_62 fk_0_6 rf_62_6 ?_
    refine Ev.iload_n (k := 2) (pc' := 37) dX0_remember_36 rfl rfl rfl ?_
    refine Ev.iconst (pc' := 38) dX0_remember_37 rfl ki_0 ?_
    refine Ev.iastore (j := _) (pc' := 39) dX0_remember_38 rfl ar_68 h.1 rfl (fun I3 eI3 => ?_)
    have h := h.2 I3 eI3
    refine Ev.iinc (k := 2) (v := _) (ls' := [(2, .int _), (0, .ref _), (1, .ref _)]) (pc' := 42) dX0_remember_39 rfl rfl (congrArg (_ + ·) ki_1) (Nat.le_of_ble_eq_true rfl) rfl ?_
    refine Ev.goto (tgt := 2) dX0_remember_42 rfl ?_
    exact Ev.sub [1, 2, 0] rfl (hP2 _ _ _ h)
set_option maxRecDepth 10000 in
theorem okX0_remember_h2 {G : Gx} {o1 : Nat} (ho1 : NowAt o1) {Q : Ix → Lx → Prop} {v2 : Int32} {I : Ix} {L : Lx} (h : wpX0_remember_h2 o1 Q v2 I L) : Ef G MX0_remember (qV Q) 2 [(0, .ref 62), (1, .ref o1), (2, .int v2)] [] I L := by
  unfold wpX0_remember_h2 at h
  refine Lfp.ind (P := fun z => Ef G MX0_remember (qV Q) 2 [(0, .ref 62), (1, .ref o1), (2, .int z.1)] [] z.2.1 z.2.2) ?_ h
  intro z P' hP' h
  obtain ⟨v2, I, L⟩ := z
  exact okX0_remember_l2 ho1 (fun v2 I L h9 => hP' (v2, I, L) h9) h
set_option maxRecDepth 10000 in
theorem okX0_remember {G : Gx} {o1 : Nat} (ho1 : NowAt o1) {I : Ix} {L : Lx} {Q : Ix → Lx → Prop} (h : wpX0_remember o1 I L Q) : Mf G MX0_remember [.ref 62, .ref o1] I L (qV Q) := by
  unfold wpX0_remember at h
  refine Mf.of pn_RX0 (Nat.le_of_ble_eq_true rfl) ?_
  refine Ev.iconst (pc' := 1) dX0_remember_0 rfl ki_0 ?_
  refine Ev.istore_n (ls' := [(2, .int _), (0, .ref _), (1, .ref _)]) (pc' := 2) dX0_remember_1 rfl rfl (Nat.le_of_ble_eq_true rfl) rfl ?_
  exact Ev.sub [1, 2, 0] rfl (okX0_remember_h2 ho1 h)
def wpX0_noons_l138 (o1 : Nat) (Q : Ix → Lx → Prop) (P51 : Int32 → Int32 → Ix → Lx → Prop) (P138 : Int32 → Int32 → Int32 → Int32 → Ix → Lx → Prop) (v2 : Int32) (v5 : Int32) (v6 : Int32) (v7 : Int32) (I : Ix) (L : Lx) : Prop := ((I 3 3) ≤ v7 → P51 v2 (v5 + 1) I L) ∧ (¬ (I 3 3) ≤ v7 → wpX0_stoodAt v7 v6 I L (fun r3 I1 L2 => (r3 = false → P138 v2 v5 v6 (v7 + 1) I1 L2) ∧ (r3 = true → vp_in v6 8 ∧ wpX0_setOut o1 v7 (I1 6 v6.toNatClampNeg) I1 L2 (fun I4 L5 => P138 v2 v5 v6 (v7 + 1) I4 L5))))
def wpX0_noons_h138 (o1 : Nat) (Q : Ix → Lx → Prop) (P51 : Int32 → Int32 → Ix → Lx → Prop) (v2 : Int32) (v5 : Int32) (v6 : Int32) (v7 : Int32) (I : Ix) (L : Lx) : Prop := Lfp (X := Int32 × Int32 × Int32 × Int32 × Ix × Lx) (fun P z => wpX0_noons_l138 o1 Q P51 (fun v2 v5 v6 v7 I L => P (v2, v5, v6, v7, I, L)) z.1 z.2.1 z.2.2.1 z.2.2.2.1 z.2.2.2.2.1 z.2.2.2.2.2) (v2, v5, v6, v7, I, L)
theorem wpX0_noons_h138_fold {o1 : Nat} {Q : Ix → Lx → Prop} {P51 : Int32 → Int32 → Ix → Lx → Prop} {v2 : Int32} {v5 : Int32} {v6 : Int32} {v7 : Int32} {I : Ix} {L : Lx} (h : wpX0_noons_l138 o1 Q P51 (wpX0_noons_h138 o1 Q P51) v2 v5 v6 v7 I L) : wpX0_noons_h138 o1 Q P51 v2 v5 v6 v7 I L := Lfp.fold h
def wpX0_noons_l84 (o1 : Nat) (Q : Ix → Lx → Prop) (P51 : Int32 → Int32 → Ix → Lx → Prop) (P84 : Int32 → Int32 → Int32 → Int32 → Ix → Lx → Prop) (v2 : Int32) (v5 : Int32) (v6 : Int32) (v7 : Int32) (I : Ix) (L : Lx) : Prop := ((I 3 2) ≤ v7 → wpX0_noons_h138 o1 Q P51 v2 v5 v6 0 I L) ∧ (¬ (I 3 2) ≤ v7 → vp_in v7 10 ∧ (¬ (I 16 v7.toNatClampNeg) = v6 → P84 v2 v5 v6 (v7 + 1) I L) ∧ ((I 16 v7.toNatClampNeg) = v6 → vp_in v7 10 ∧ (¬ (I (o1 + 5) v7.toNatClampNeg) = 0 → P84 v2 v5 v6 (v7 + 1) I L) ∧ ((I (o1 + 5) v7.toNatClampNeg) = 0 → wpX0_settle o1 v7 v2 I L (fun I1 L2 => P84 v2 v5 v6 (v7 + 1) I1 L2))))
def wpX0_noons_h84 (o1 : Nat) (Q : Ix → Lx → Prop) (P51 : Int32 → Int32 → Ix → Lx → Prop) (v2 : Int32) (v5 : Int32) (v6 : Int32) (v7 : Int32) (I : Ix) (L : Lx) : Prop := Lfp (X := Int32 × Int32 × Int32 × Int32 × Ix × Lx) (fun P z => wpX0_noons_l84 o1 Q P51 (fun v2 v5 v6 v7 I L => P (v2, v5, v6, v7, I, L)) z.1 z.2.1 z.2.2.1 z.2.2.2.1 z.2.2.2.2.1 z.2.2.2.2.2) (v2, v5, v6, v7, I, L)
theorem wpX0_noons_h84_fold {o1 : Nat} {Q : Ix → Lx → Prop} {P51 : Int32 → Int32 → Ix → Lx → Prop} {v2 : Int32} {v5 : Int32} {v6 : Int32} {v7 : Int32} {I : Ix} {L : Lx} (h : wpX0_noons_l84 o1 Q P51 (wpX0_noons_h84 o1 Q P51) v2 v5 v6 v7 I L) : wpX0_noons_h84 o1 Q P51 v2 v5 v6 v7 I L := Lfp.fold h
def wpX0_noons_l51 (o1 : Nat) (Q : Ix → Lx → Prop) (P51 : Int32 → Int32 → Ix → Lx → Prop) (v2 : Int32) (v5 : Int32) (I : Ix) (L : Lx) : Prop := ((I 4 0) ≤ v5 → Q I L) ∧ (¬ (I 4 0) ≤ v5 → vp_in v5 8 ∧ wpX0_noons_h84 o1 Q P51 v2 v5 (I 7 v5.toNatClampNeg) 0 I L)
def wpX0_noons_h51 (o1 : Nat) (Q : Ix → Lx → Prop) (v2 : Int32) (v5 : Int32) (I : Ix) (L : Lx) : Prop := Lfp (X := Int32 × Int32 × Ix × Lx) (fun P z => wpX0_noons_l51 o1 Q (fun v2 v5 I L => P (v2, v5, I, L)) z.1 z.2.1 z.2.2.1 z.2.2.2) (v2, v5, I, L)
theorem wpX0_noons_h51_fold {o1 : Nat} {Q : Ix → Lx → Prop} {v2 : Int32} {v5 : Int32} {I : Ix} {L : Lx} (h : wpX0_noons_l51 o1 Q (wpX0_noons_h51 o1 Q) v2 v5 I L) : wpX0_noons_h51 o1 Q v2 v5 I L := Lfp.fold h
def wpX0_noons_l21 (o1 : Nat) (Q : Ix → Lx → Prop) (P21 : Int32 → Int32 → Int32 → Ix → Lx → Prop) (v2 : Int32) (v4 : Int32) (v5 : Int32) (I : Ix) (L : Lx) : Prop := ((I 3 3) ≤ v5 → wpX0_noons_h51 o1 Q v2 0 I L) ∧ (¬ (I 3 3) ≤ v5 → wpX0_setOut o1 v5 v4 I L (fun I1 L2 => P21 v2 v4 (v5 + 1) I1 L2))
def wpX0_noons_h21 (o1 : Nat) (Q : Ix → Lx → Prop) (v2 : Int32) (v4 : Int32) (v5 : Int32) (I : Ix) (L : Lx) : Prop := Lfp (X := Int32 × Int32 × Int32 × Ix × Lx) (fun P z => wpX0_noons_l21 o1 Q (fun v2 v4 v5 I L => P (v2, v4, v5, I, L)) z.1 z.2.1 z.2.2.1 z.2.2.2.1 z.2.2.2.2) (v2, v4, v5, I, L)
theorem wpX0_noons_h21_fold {o1 : Nat} {Q : Ix → Lx → Prop} {v2 : Int32} {v4 : Int32} {v5 : Int32} {I : Ix} {L : Lx} (h : wpX0_noons_l21 o1 Q (wpX0_noons_h21 o1 Q) v2 v4 v5 I L) : wpX0_noons_h21 o1 Q v2 v4 v5 I L := Lfp.fold h
def wpX0_noons (o1 : Nat) (a2 : Int32) (a3 : Int32) (I : Ix) (L : Lx) (Q : Ix → Lx → Prop) : Prop := wpX0_remember o1 I L (fun I1 L2 => (a3 = 0 → wpX0_noons_h21 o1 Q a2 (-60) 0 I1 L2) ∧ (¬ a3 = 0 → wpX0_noons_h21 o1 Q a2 (-70) 0 I1 L2))
set_option maxRecDepth 10000 in
theorem okX0_noons_l138 {G : Gx} {o1 : Nat} (ho1 : NowAt o1) {Q : Ix → Lx → Prop} {P51 : Int32 → Int32 → Ix → Lx → Prop} {P138 : Int32 → Int32 → Int32 → Int32 → Ix → Lx → Prop} (hP51 : ∀ (v2 : Int32) (v5 : Int32) (I : Ix) (L : Lx), P51 v2 v5 I L → Ef G MX0_noons (qV Q) 51 [(0, .ref 62), (1, .ref o1), (2, .int v2), (5, .int v5)] [] I L) (hP138 : ∀ (v2 : Int32) (v5 : Int32) (v6 : Int32) (v7 : Int32) (I : Ix) (L : Lx), P138 v2 v5 v6 v7 I L → Ef G MX0_noons (qV Q) 138 [(0, .ref 62), (1, .ref o1), (2, .int v2), (5, .int v5), (6, .int v6), (7, .int v7)] [] I L) {v2 : Int32} {v5 : Int32} {v6 : Int32} {v7 : Int32} {I : Ix} {L : Lx} (h : wpX0_noons_l138 o1 Q P51 P138 v2 v5 v6 v7 I L) : Ef G MX0_noons (qV Q) 138 [(0, .ref 62), (1, .ref o1), (2, .int v2), (5, .int v5), (6, .int v6), (7, .int v7)] [] I L := by
  unfold wpX0_noons_l138 at h
  refine Ev.iload (k := 5) (pc' := 140) dX0_noons_138 rfl rfl ?_
  refine Ev.aload_n (k := 0) (pc' := 141) dX0_noons_140 rfl rfl rfl ?_
  refine Ev.getR (pc' := 144) dX0_noons_141 rfl fa_RX0_30 ob_62 fk_0_0 rf_62_0 ?_
  refine Ev.getI (pc' := 147) dX0_noons_144 rfl fa_RX0_64 ob_3 fk_10_3 ?_
  refine Ev.icmp_ge (pc' := 150) (tgt := 187) dX0_noons_147 rfl rfl (fun hc => ?_) (fun hc => ?_)
  · have h := h.1 hc
    refine Ev.iinc (k := 3) (v := _) (ls' := [(5, .int _), (0, .ref _), (1, .ref _), (2, .int _), (6, .int _), (7, .int _)]) (pc' := 190) dX0_noons_187 rfl rfl (congrArg (_ + ·) ki_1) (Nat.le_of_ble_eq_true rfl) rfl ?_
    refine Ev.goto (tgt := 51) dX0_noons_190 rfl ?_
    exact Ev.sub [1, 2, 3, 0] rfl (hP51 _ _ _ _ h)
  · have h := h.2 hc
    refine Ev.aload_n (k := 0) (pc' := 151) dX0_noons_150 rfl rfl rfl ?_
    refine Ev.iload (k := 5) (pc' := 153) dX0_noons_151 rfl rfl ?_
    refine Ev.iload (k := 4) (pc' := 155) dX0_noons_153 rfl rfl ?_
    refine Ef.callVZ [.int _, .int _] [] (pc' := 158) dX0_noons_155 rfl cv_RX0_135_X0_stoodAt ⟨Nat.le_of_ble_eq_true rfl, Nat.le_of_ble_eq_true rfl⟩ ob_62 rfl rfl rfl (Nat.le_of_ble_eq_true rfl) (okX0_stoodAt h) (fun r3 I1 L2 h => ?_)
    refine Ef.ifz_eq (pc' := 161) (tgt := 181) dX0_noons_158 rfl rfl (fun hc => ?_) (fun hc => ?_)
    · have h := h.1 hc
      refine Ev.iinc (k := 5) (v := _) (ls' := [(7, .int _), (0, .ref _), (1, .ref _), (2, .int _), (5, .int _), (6, .int _)]) (pc' := 184) dX0_noons_181 rfl rfl (congrArg (_ + ·) ki_1) (Nat.le_of_ble_eq_true rfl) rfl ?_
      refine Ev.goto (tgt := 138) dX0_noons_184 rfl ?_
      exact Ev.sub [1, 2, 3, 4, 5, 0] rfl (hP138 _ _ _ _ _ _ h)
    · have h := h.2 hc
      refine Ev.aload_n (k := 0) (pc' := 162) dX0_noons_161 rfl rfl rfl ?_
      refine Ev.aload_n (k := 1) (pc' := 163) dX0_noons_162 rfl rfl rfl ?_
      refine Ev.iload (k := 5) (pc' := 165) dX0_noons_163 rfl rfl ?_
      refine Ev.aload_n (k := 0) (pc' := 166) dX0_noons_165 rfl rfl rfl ?_
      refine Ev.getR (pc' := 169) dX0_noons_166 rfl fa_RX0_30 ob_62 fk_0_0 rf_62_0 ?_
      refine Ev.getR (pc' := 172) dX0_noons_169 rfl fa_RX0_117 ob_3 fk_10_0 rf_3_0 ?_
      refine Ev.getR (pc' := 175) dX0_noons_172 rfl fa_RX0_139 ob_4 fk_1_3 rf_4_3 ?_
      refine Ev.iload (k := 4) (pc' := 177) dX0_noons_175 rfl rfl ?_
      refine Ev.iaload (j := _) (pc' := 178) dX0_noons_177 rfl ar_6 h.1 rfl ?_
      have h := h.2
      refine Ef.callVV [.ref _, .int _, .int _] [] (pc' := 181) dX0_noons_178 rfl cv_RX0_114_X0_setOut ⟨Nat.le_of_ble_eq_true rfl, Nat.le_of_ble_eq_true rfl⟩ ob_62 rfl rfl rfl (Nat.le_of_ble_eq_true rfl) (okX0_setOut ho1 h) (fun I4 L5 h => ?_)
      refine Ev.iinc (k := 5) (v := _) (ls' := [(7, .int _), (0, .ref _), (1, .ref _), (2, .int _), (5, .int _), (6, .int _)]) (pc' := 184) dX0_noons_181 rfl rfl (congrArg (_ + ·) ki_1) (Nat.le_of_ble_eq_true rfl) rfl ?_
      refine Ev.goto (tgt := 138) dX0_noons_184 rfl ?_
      exact Ev.sub [1, 2, 3, 4, 5, 0] rfl (hP138 _ _ _ _ _ _ h)
set_option maxRecDepth 10000 in
theorem okX0_noons_h138 {G : Gx} {o1 : Nat} (ho1 : NowAt o1) {Q : Ix → Lx → Prop} {P51 : Int32 → Int32 → Ix → Lx → Prop} (hP51 : ∀ (v2 : Int32) (v5 : Int32) (I : Ix) (L : Lx), P51 v2 v5 I L → Ef G MX0_noons (qV Q) 51 [(0, .ref 62), (1, .ref o1), (2, .int v2), (5, .int v5)] [] I L) {v2 : Int32} {v5 : Int32} {v6 : Int32} {v7 : Int32} {I : Ix} {L : Lx} (h : wpX0_noons_h138 o1 Q P51 v2 v5 v6 v7 I L) : Ef G MX0_noons (qV Q) 138 [(0, .ref 62), (1, .ref o1), (2, .int v2), (5, .int v5), (6, .int v6), (7, .int v7)] [] I L := by
  unfold wpX0_noons_h138 at h
  refine Lfp.ind (P := fun z => Ef G MX0_noons (qV Q) 138 [(0, .ref 62), (1, .ref o1), (2, .int z.1), (5, .int z.2.1), (6, .int z.2.2.1), (7, .int z.2.2.2.1)] [] z.2.2.2.2.1 z.2.2.2.2.2) ?_ h
  intro z P' hP' h
  obtain ⟨v2, v5, v6, v7, I, L⟩ := z
  exact okX0_noons_l138 ho1 hP51 (fun v2 v5 v6 v7 I L h9 => hP' (v2, v5, v6, v7, I, L) h9) h
set_option maxRecDepth 10000 in
theorem okX0_noons_l84 {G : Gx} {o1 : Nat} (ho1 : NowAt o1) {Q : Ix → Lx → Prop} {P51 : Int32 → Int32 → Ix → Lx → Prop} {P84 : Int32 → Int32 → Int32 → Int32 → Ix → Lx → Prop} (hP51 : ∀ (v2 : Int32) (v5 : Int32) (I : Ix) (L : Lx), P51 v2 v5 I L → Ef G MX0_noons (qV Q) 51 [(0, .ref 62), (1, .ref o1), (2, .int v2), (5, .int v5)] [] I L) (hP84 : ∀ (v2 : Int32) (v5 : Int32) (v6 : Int32) (v7 : Int32) (I : Ix) (L : Lx), P84 v2 v5 v6 v7 I L → Ef G MX0_noons (qV Q) 84 [(0, .ref 62), (1, .ref o1), (2, .int v2), (5, .int v5), (6, .int v6), (7, .int v7)] [] I L) {v2 : Int32} {v5 : Int32} {v6 : Int32} {v7 : Int32} {I : Ix} {L : Lx} (h : wpX0_noons_l84 o1 Q P51 P84 v2 v5 v6 v7 I L) : Ef G MX0_noons (qV Q) 84 [(0, .ref 62), (1, .ref o1), (2, .int v2), (5, .int v5), (6, .int v6), (7, .int v7)] [] I L := by
  unfold wpX0_noons_l84 at h
  refine Ev.iload (k := 5) (pc' := 86) dX0_noons_84 rfl rfl ?_
  refine Ev.aload_n (k := 0) (pc' := 87) dX0_noons_86 rfl rfl rfl ?_
  refine Ev.getR (pc' := 90) dX0_noons_87 rfl fa_RX0_30 ob_62 fk_0_0 rf_62_0 ?_
  refine Ev.getI (pc' := 93) dX0_noons_90 rfl fa_RX0_70 ob_3 fk_10_2 ?_
  refine Ev.icmp_ge (pc' := 96) (tgt := 135) dX0_noons_93 rfl rfl (fun hc => ?_) (fun hc => ?_)
  · have h := h.1 hc
    refine Ev.iconst (pc' := 136) dX0_noons_135 rfl ki_0 ?_
    refine Ev.istore (ls' := [(7, .int _), (0, .ref _), (1, .ref _), (2, .int _), (5, .int _), (6, .int _)]) (pc' := 138) dX0_noons_136 rfl (Nat.le_of_ble_eq_true rfl) rfl ?_
    exact Ev.sub [1, 2, 3, 4, 5, 0] rfl (okX0_noons_h138 ho1 hP51 h)
  · have h := h.2 hc
    refine Ev.aload_n (k := 0) (pc' := 97) dX0_noons_96 rfl rfl rfl ?_
    refine Ev.getR (pc' := 100) dX0_noons_97 rfl fa_RX0_30 ob_62 fk_0_0 rf_62_0 ?_
    refine Ev.getR (pc' := 103) dX0_noons_100 rfl fa_RX0_129 ob_3 fk_10_7 rf_3_7 ?_
    refine Ev.iload (k := 5) (pc' := 105) dX0_noons_103 rfl rfl ?_
    refine Ev.iaload (j := _) (pc' := 106) dX0_noons_105 rfl ar_16 h.1 rfl ?_
    have h := h.2
    refine Ev.iload (k := 4) (pc' := 108) dX0_noons_106 rfl rfl ?_
    refine Ev.icmp_ne (pc' := 111) (tgt := 129) dX0_noons_108 rfl rfl (fun hc => ?_) (fun hc => ?_)
    · have h := h.1 hc
      refine Ev.iinc (k := 5) (v := _) (ls' := [(7, .int _), (0, .ref _), (1, .ref _), (2, .int _), (5, .int _), (6, .int _)]) (pc' := 132) dX0_noons_129 rfl rfl (congrArg (_ + ·) ki_1) (Nat.le_of_ble_eq_true rfl) rfl ?_
      refine Ev.goto (tgt := 84) dX0_noons_132 rfl ?_
      exact Ev.sub [1, 2, 3, 4, 5, 0] rfl (hP84 _ _ _ _ _ _ h)
    · have h := h.2 hc
      refine Ev.aload_n (k := 1) (pc' := 112) dX0_noons_111 rfl rfl rfl ?_
      refine Ev.getR (pc' := 115) dX0_noons_112 rfl fa_RX0_102 (nowOB ho1) fk_2_7 (nowR5 ho1) ?_
      refine Ev.iload (k := 5) (pc' := 117) dX0_noons_115 rfl rfl ?_
      refine Ev.zaload (j := _) (pc' := 118) dX0_noons_117 rfl (nowA5 ho1) h.1 rfl ?_
      have h := h.2
      refine Ev.if_ne (pc' := 121) (tgt := 129) dX0_noons_118 rfl rfl (fun hc => ?_) (fun hc => ?_)
      · have h := h.1 hc
        refine Ev.iinc (k := 5) (v := _) (ls' := [(7, .int _), (0, .ref _), (1, .ref _), (2, .int _), (5, .int _), (6, .int _)]) (pc' := 132) dX0_noons_129 rfl rfl (congrArg (_ + ·) ki_1) (Nat.le_of_ble_eq_true rfl) rfl ?_
        refine Ev.goto (tgt := 84) dX0_noons_132 rfl ?_
        exact Ev.sub [1, 2, 3, 4, 5, 0] rfl (hP84 _ _ _ _ _ _ h)
      · have h := h.2 hc
        refine Ev.aload_n (k := 0) (pc' := 122) dX0_noons_121 rfl rfl rfl ?_
        refine Ev.aload_n (k := 1) (pc' := 123) dX0_noons_122 rfl rfl rfl ?_
        refine Ev.iload (k := 5) (pc' := 125) dX0_noons_123 rfl rfl ?_
        refine Ev.iload_n (k := 2) (pc' := 126) dX0_noons_125 rfl rfl rfl ?_
        refine Ef.callVV [.ref _, .int _, .int _] [] (pc' := 129) dX0_noons_126 rfl cv_RX0_132_X0_settle ⟨Nat.le_of_ble_eq_true rfl, Nat.le_of_ble_eq_true rfl⟩ ob_62 rfl rfl rfl (Nat.le_of_ble_eq_true rfl) (okX0_settle ho1 h) (fun I1 L2 h => ?_)
        refine Ev.iinc (k := 5) (v := _) (ls' := [(7, .int _), (0, .ref _), (1, .ref _), (2, .int _), (5, .int _), (6, .int _)]) (pc' := 132) dX0_noons_129 rfl rfl (congrArg (_ + ·) ki_1) (Nat.le_of_ble_eq_true rfl) rfl ?_
        refine Ev.goto (tgt := 84) dX0_noons_132 rfl ?_
        exact Ev.sub [1, 2, 3, 4, 5, 0] rfl (hP84 _ _ _ _ _ _ h)
set_option maxRecDepth 10000 in
theorem okX0_noons_h84 {G : Gx} {o1 : Nat} (ho1 : NowAt o1) {Q : Ix → Lx → Prop} {P51 : Int32 → Int32 → Ix → Lx → Prop} (hP51 : ∀ (v2 : Int32) (v5 : Int32) (I : Ix) (L : Lx), P51 v2 v5 I L → Ef G MX0_noons (qV Q) 51 [(0, .ref 62), (1, .ref o1), (2, .int v2), (5, .int v5)] [] I L) {v2 : Int32} {v5 : Int32} {v6 : Int32} {v7 : Int32} {I : Ix} {L : Lx} (h : wpX0_noons_h84 o1 Q P51 v2 v5 v6 v7 I L) : Ef G MX0_noons (qV Q) 84 [(0, .ref 62), (1, .ref o1), (2, .int v2), (5, .int v5), (6, .int v6), (7, .int v7)] [] I L := by
  unfold wpX0_noons_h84 at h
  refine Lfp.ind (P := fun z => Ef G MX0_noons (qV Q) 84 [(0, .ref 62), (1, .ref o1), (2, .int z.1), (5, .int z.2.1), (6, .int z.2.2.1), (7, .int z.2.2.2.1)] [] z.2.2.2.2.1 z.2.2.2.2.2) ?_ h
  intro z P' hP' h
  obtain ⟨v2, v5, v6, v7, I, L⟩ := z
  exact okX0_noons_l84 ho1 hP51 (fun v2 v5 v6 v7 I L h9 => hP' (v2, v5, v6, v7, I, L) h9) h
set_option maxRecDepth 10000 in
theorem okX0_noons_l51 {G : Gx} {o1 : Nat} (ho1 : NowAt o1) {Q : Ix → Lx → Prop} {P51 : Int32 → Int32 → Ix → Lx → Prop} (hP51 : ∀ (v2 : Int32) (v5 : Int32) (I : Ix) (L : Lx), P51 v2 v5 I L → Ef G MX0_noons (qV Q) 51 [(0, .ref 62), (1, .ref o1), (2, .int v2), (5, .int v5)] [] I L) {v2 : Int32} {v5 : Int32} {I : Ix} {L : Lx} (h : wpX0_noons_l51 o1 Q P51 v2 v5 I L) : Ef G MX0_noons (qV Q) 51 [(0, .ref 62), (1, .ref o1), (2, .int v2), (5, .int v5)] [] I L := by
  unfold wpX0_noons_l51 at h
  refine Ev.iload (k := 3) (pc' := 53) dX0_noons_51 rfl rfl ?_
  refine Ev.aload_n (k := 0) (pc' := 54) dX0_noons_53 rfl rfl rfl ?_
  refine Ev.getR (pc' := 57) dX0_noons_54 rfl fa_RX0_30 ob_62 fk_0_0 rf_62_0 ?_
  refine Ev.getR (pc' := 60) dX0_noons_57 rfl fa_RX0_117 ob_3 fk_10_0 rf_3_0 ?_
  refine Ev.getI (pc' := 63) dX0_noons_60 rfl fa_RX0_121 ob_4 fk_1_0 ?_
  refine Ev.icmp_ge (pc' := 66) (tgt := 193) dX0_noons_63 rfl rfl (fun hc => ?_) (fun hc => ?_)
  · have h := h.1 hc
    exact Ef.vret dX0_noons_193 rfl h
  · have h := h.2 hc
    refine Ev.aload_n (k := 0) (pc' := 67) dX0_noons_66 rfl rfl rfl ?_
    refine Ev.getR (pc' := 70) dX0_noons_67 rfl fa_RX0_30 ob_62 fk_0_0 rf_62_0 ?_
    refine Ev.getR (pc' := 73) dX0_noons_70 rfl fa_RX0_117 ob_3 fk_10_0 rf_3_0 ?_
    refine Ev.getR (pc' := 76) dX0_noons_73 rfl fa_RX0_126 ob_4 fk_1_4 rf_4_4 ?_
    refine Ev.iload (k := 3) (pc' := 78) dX0_noons_76 rfl rfl ?_
    refine Ev.iaload (j := _) (pc' := 79) dX0_noons_78 rfl ar_7 h.1 rfl ?_
    have h := h.2
    refine Ev.istore (ls' := [(6, .int _), (0, .ref _), (1, .ref _), (2, .int _), (5, .int _)]) (pc' := 81) dX0_noons_79 rfl (Nat.le_of_ble_eq_true rfl) rfl ?_
    refine Ev.iconst (pc' := 82) dX0_noons_81 rfl ki_0 ?_
    refine Ev.istore (ls' := [(7, .int _), (6, .int _), (0, .ref _), (1, .ref _), (2, .int _), (5, .int _)]) (pc' := 84) dX0_noons_82 rfl (Nat.le_of_ble_eq_true rfl) rfl ?_
    exact Ev.sub [2, 3, 4, 5, 1, 0] rfl (okX0_noons_h84 ho1 hP51 h)
set_option maxRecDepth 10000 in
theorem okX0_noons_h51 {G : Gx} {o1 : Nat} (ho1 : NowAt o1) {Q : Ix → Lx → Prop} {v2 : Int32} {v5 : Int32} {I : Ix} {L : Lx} (h : wpX0_noons_h51 o1 Q v2 v5 I L) : Ef G MX0_noons (qV Q) 51 [(0, .ref 62), (1, .ref o1), (2, .int v2), (5, .int v5)] [] I L := by
  unfold wpX0_noons_h51 at h
  refine Lfp.ind (P := fun z => Ef G MX0_noons (qV Q) 51 [(0, .ref 62), (1, .ref o1), (2, .int z.1), (5, .int z.2.1)] [] z.2.2.1 z.2.2.2) ?_ h
  intro z P' hP' h
  obtain ⟨v2, v5, I, L⟩ := z
  exact okX0_noons_l51 ho1 (fun v2 v5 I L h9 => hP' (v2, v5, I, L) h9) h
set_option maxRecDepth 10000 in
theorem okX0_noons_l21 {G : Gx} {o1 : Nat} (ho1 : NowAt o1) {Q : Ix → Lx → Prop} {P21 : Int32 → Int32 → Int32 → Ix → Lx → Prop} (hP21 : ∀ (v2 : Int32) (v4 : Int32) (v5 : Int32) (I : Ix) (L : Lx), P21 v2 v4 v5 I L → Ef G MX0_noons (qV Q) 21 [(0, .ref 62), (1, .ref o1), (2, .int v2), (4, .int v4), (5, .int v5)] [] I L) {v2 : Int32} {v4 : Int32} {v5 : Int32} {I : Ix} {L : Lx} (h : wpX0_noons_l21 o1 Q P21 v2 v4 v5 I L) : Ef G MX0_noons (qV Q) 21 [(0, .ref 62), (1, .ref o1), (2, .int v2), (4, .int v4), (5, .int v5)] [] I L := by
  unfold wpX0_noons_l21 at h
  refine Ev.iload (k := 4) (pc' := 23) dX0_noons_21 rfl rfl ?_
  refine Ev.aload_n (k := 0) (pc' := 24) dX0_noons_23 rfl rfl rfl ?_
  refine Ev.getR (pc' := 27) dX0_noons_24 rfl fa_RX0_30 ob_62 fk_0_0 rf_62_0 ?_
  refine Ev.getI (pc' := 30) dX0_noons_27 rfl fa_RX0_64 ob_3 fk_10_3 ?_
  refine Ev.icmp_ge (pc' := 33) (tgt := 48) dX0_noons_30 rfl rfl (fun hc => ?_) (fun hc => ?_)
  · have h := h.1 hc
    refine Ev.iconst (pc' := 49) dX0_noons_48 rfl ki_0 ?_
    refine Ev.istore (ls' := [(5, .int _), (0, .ref _), (1, .ref _), (2, .int _), (4, .int _)]) (pc' := 51) dX0_noons_49 rfl (Nat.le_of_ble_eq_true rfl) rfl ?_
    exact Ev.sub [1, 2, 3, 0] rfl (okX0_noons_h51 ho1 h)
  · have h := h.2 hc
    refine Ev.aload_n (k := 0) (pc' := 34) dX0_noons_33 rfl rfl rfl ?_
    refine Ev.aload_n (k := 1) (pc' := 35) dX0_noons_34 rfl rfl rfl ?_
    refine Ev.iload (k := 4) (pc' := 37) dX0_noons_35 rfl rfl ?_
    refine Ev.iload (k := 3) (pc' := 39) dX0_noons_37 rfl rfl ?_
    refine Ef.callVV [.ref _, .int _, .int _] [] (pc' := 42) dX0_noons_39 rfl cv_RX0_114_X0_setOut ⟨Nat.le_of_ble_eq_true rfl, Nat.le_of_ble_eq_true rfl⟩ ob_62 rfl rfl rfl (Nat.le_of_ble_eq_true rfl) (okX0_setOut ho1 h) (fun I1 L2 h => ?_)
    refine Ev.iinc (k := 4) (v := _) (ls' := [(5, .int _), (0, .ref _), (1, .ref _), (2, .int _), (4, .int _)]) (pc' := 45) dX0_noons_42 rfl rfl (congrArg (_ + ·) ki_1) (Nat.le_of_ble_eq_true rfl) rfl ?_
    refine Ev.goto (tgt := 21) dX0_noons_45 rfl ?_
    exact Ev.sub [1, 2, 3, 4, 0] rfl (hP21 _ _ _ _ _ h)
set_option maxRecDepth 10000 in
theorem okX0_noons_h21 {G : Gx} {o1 : Nat} (ho1 : NowAt o1) {Q : Ix → Lx → Prop} {v2 : Int32} {v4 : Int32} {v5 : Int32} {I : Ix} {L : Lx} (h : wpX0_noons_h21 o1 Q v2 v4 v5 I L) : Ef G MX0_noons (qV Q) 21 [(0, .ref 62), (1, .ref o1), (2, .int v2), (4, .int v4), (5, .int v5)] [] I L := by
  unfold wpX0_noons_h21 at h
  refine Lfp.ind (P := fun z => Ef G MX0_noons (qV Q) 21 [(0, .ref 62), (1, .ref o1), (2, .int z.1), (4, .int z.2.1), (5, .int z.2.2.1)] [] z.2.2.2.1 z.2.2.2.2) ?_ h
  intro z P' hP' h
  obtain ⟨v2, v4, v5, I, L⟩ := z
  exact okX0_noons_l21 ho1 (fun v2 v4 v5 I L h9 => hP' (v2, v4, v5, I, L) h9) h
set_option maxRecDepth 10000 in
theorem okX0_noons {G : Gx} {o1 : Nat} (ho1 : NowAt o1) {a2 : Int32} {a3 : Int32} {I : Ix} {L : Lx} {Q : Ix → Lx → Prop} (h : wpX0_noons o1 a2 a3 I L Q) : Mf G MX0_noons [.ref 62, .ref o1, .int a2, .int a3] I L (qV Q) := by
  unfold wpX0_noons at h
  refine Mf.of pn_RX0 (Nat.le_of_ble_eq_true rfl) ?_
  refine Ev.aload_n (k := 0) (pc' := 1) dX0_noons_0 rfl rfl rfl ?_
  refine Ev.aload_n (k := 1) (pc' := 2) dX0_noons_1 rfl rfl rfl ?_
  refine Ef.callVV [.ref _] [] (pc' := 5) dX0_noons_2 rfl cv_RX0_111_X0_remember ⟨Nat.le_of_ble_eq_true rfl, Nat.le_of_ble_eq_true rfl⟩ ob_62 rfl rfl rfl (Nat.le_of_ble_eq_true rfl) (okX0_remember ho1 h) (fun I1 L2 h => ?_)
  refine Ev.iload_n (k := 3) (pc' := 6) dX0_noons_5 rfl rfl rfl ?_
  refine Ev.if_eq (pc' := 9) (tgt := 14) dX0_noons_6 rfl rfl (fun hc => ?_) (fun hc => ?_)
  · have h := h.1 hc
    refine Ev.bipush (pc' := 16) dX0_noons_14 rfl kb_m60 ?_
    refine Ev.istore (ls' := [(4, .int _), (0, .ref _), (1, .ref _), (2, .int _), (3, .int _)]) (pc' := 18) dX0_noons_16 rfl (Nat.le_of_ble_eq_true rfl) rfl ?_
    refine Ev.iconst (pc' := 19) dX0_noons_18 rfl ki_0 ?_
    refine Ev.istore (ls' := [(5, .int _), (4, .int _), (0, .ref _), (1, .ref _), (2, .int _), (3, .int _)]) (pc' := 21) dX0_noons_19 rfl (Nat.le_of_ble_eq_true rfl) rfl ?_
    exact Ev.sub [2, 3, 4, 1, 0] rfl (okX0_noons_h21 ho1 h)
  · have h := h.2 hc
    refine Ev.bipush (pc' := 11) dX0_noons_9 rfl kb_m70 ?_
    refine Ev.goto (tgt := 16) dX0_noons_11 rfl ?_
    refine Ev.istore (ls' := [(4, .int _), (0, .ref _), (1, .ref _), (2, .int _), (3, .int _)]) (pc' := 18) dX0_noons_16 rfl (Nat.le_of_ble_eq_true rfl) rfl ?_
    refine Ev.iconst (pc' := 19) dX0_noons_18 rfl ki_0 ?_
    refine Ev.istore (ls' := [(5, .int _), (4, .int _), (0, .ref _), (1, .ref _), (2, .int _), (3, .int _)]) (pc' := 21) dX0_noons_19 rfl (Nat.le_of_ble_eq_true rfl) rfl ?_
    exact Ev.sub [2, 3, 4, 1, 0] rfl (okX0_noons_h21 ho1 h)
def wpX2_endDay (o0 : Nat) (I : Ix) (L : Lx) (Q : Ix → Lx → Prop) : Prop := ∀ I1 : Ix, I1 = pu I o0 0 ((I o0 0) + 1) → (60 < (I1 o0 0) → Q I1 L) ∧ (¬ 60 < (I1 o0 0) → ¬ (((I1 o0 0) - 1) * 10) < 0 ∧ (((I1 o0 0) - 1) * 10).toNatClampNeg + 10 ≤ 600 ∧ ∀ I2 : Ix, I2 = va_up I1 (o0 + 8) (va_cpy (I1 (o0 + 1)) (I1 (o0 + 8)) 0 (((I1 o0 0) - 1) * 10).toNatClampNeg 10) → Q I2 L)
set_option maxRecDepth 10000 in
theorem okX2_endDay {G : Gx} {o0 : Nat} (ho0 : NowAt o0) {I : Ix} {L : Lx} {Q : Ix → Lx → Prop} (h : wpX2_endDay o0 I L Q) : Mf G MX2_endDay [.ref o0] I L (qV Q) := by
  unfold wpX2_endDay at h
  refine Mf.of pn_RX2 (Nat.le_of_ble_eq_true rfl) ?_
  refine Ev.aload_n (k := 0) (pc' := 1) dX2_endDay_0 rfl rfl rfl ?_
  refine Ev.dup (pc' := 2) dX2_endDay_1 rfl rfl ?_
  refine Ev.getI (pc' := 5) dX2_endDay_2 rfl fa_RX2_41 (nowOB ho0) fk_2_0 ?_
  refine Ev.iconst (pc' := 6) dX2_endDay_5 rfl ki_1 ?_
  refine Ev.iadd (pc' := 7) dX2_endDay_6 rfl ?_
  refine Ev.putI (pc' := 10) dX2_endDay_7 rfl fa_RX2_41 (nowOB ho0) fk_2_0 rfl rfl (fun I1 eI1 => ?_)
  have h := h I1 eI1
  refine Ev.aload_n (k := 0) (pc' := 11) dX2_endDay_10 rfl rfl rfl ?_
  refine Ev.getI (pc' := 14) dX2_endDay_11 rfl fa_RX2_41 (nowOB ho0) fk_2_0 ?_
  refine Ev.bipush (pc' := 16) dX2_endDay_14 rfl kb_60 ?_
  refine Ev.icmp_gt (pc' := 19) (tgt := 42) dX2_endDay_16 rfl rfl (fun hc => ?_) (fun hc => ?_)
  · have h := h.1 hc
    exact Ef.vret dX2_endDay_42 rfl h
  · have h := h.2 hc
    refine Ev.aload_n (k := 0) (pc' := 20) dX2_endDay_19 rfl rfl rfl ?_
    refine Ev.getR (pc' := 23) dX2_endDay_20 rfl fa_RX2_15 (nowOB ho0) fk_2_3 (nowR1 ho0) ?_
    refine Ev.iconst (pc' := 24) dX2_endDay_23 rfl ki_0 ?_
    refine Ev.aload_n (k := 0) (pc' := 25) dX2_endDay_24 rfl rfl rfl ?_
    refine Ev.getR (pc' := 28) dX2_endDay_25 rfl fa_RX2_38 (nowOB ho0) fk_2_10 (nowR8 ho0) ?_
    refine Ev.aload_n (k := 0) (pc' := 29) dX2_endDay_28 rfl rfl rfl ?_
    refine Ev.getI (pc' := 32) dX2_endDay_29 rfl fa_RX2_41 (nowOB ho0) fk_2_0 ?_
    refine Ev.iconst (pc' := 33) dX2_endDay_32 rfl ki_1 ?_
    refine Ev.isub (pc' := 34) dX2_endDay_33 rfl ?_
    refine Ev.bipush (pc' := 36) dX2_endDay_34 rfl kb_10 ?_
    refine Ev.imul (pc' := 37) dX2_endDay_36 rfl ?_
    refine Ev.bipush (pc' := 39) dX2_endDay_37 rfl kb_10 ?_
    refine Ev.copyI (pc' := 42) dX2_endDay_39 rfl ac_RX2_53 ac_native ac_static ac_init (nowA1 ho0) (nowA8 ho0) rfl (by decide) h.1 (by decide) (by decide) h.2.1 (Nat.le_of_ble_eq_true rfl) (Nat.le_of_ble_eq_true rfl) (fun I2 eI2 => ?_)
    have h := h.2.2 I2 eI2
    exact Ef.vret dX2_endDay_42 rfl h
