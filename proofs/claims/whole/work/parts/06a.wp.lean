def wpX7_add_l3 (Q : Ix → Lx → Prop) (P3 : Int32 → Int32 → Ix → Lx → Prop) (v1 : Int32) (v2 : Int32) (I : Ix) (L : Lx) : Prop := (v2 < 0 → Q I L) ∧ (¬ v2 < 0 → (1700 ≤ (I 1 1) → Q I L) ∧ (¬ 1700 ≤ (I 1 1) → vp_in (I 1 1) 1700 ∧ ∀ I1 : Ix, I1 = pu I 2 (I 1 1).toNatClampNeg ((((jush v1 v2).toInt8.toInt32)).toInt8.toInt32) → ∀ I2 : Ix, I2 = pu I1 1 1 ((I1 1 1) + 1) → P3 v1 (v2 + (-8)) I2 L))
def wpX7_add_h3 (Q : Ix → Lx → Prop) (v1 : Int32) (v2 : Int32) (I : Ix) (L : Lx) : Prop := Lfp (X := Int32 × Int32 × Ix × Lx) (fun P z => wpX7_add_l3 Q (fun v1 v2 I L => P (v1, v2, I, L)) z.1 z.2.1 z.2.2.1 z.2.2.2) (v1, v2, I, L)
theorem wpX7_add_h3_fold {Q : Ix → Lx → Prop} {v1 : Int32} {v2 : Int32} {I : Ix} {L : Lx} (h : wpX7_add_l3 Q (wpX7_add_h3 Q) v1 v2 I L) : wpX7_add_h3 Q v1 v2 I L := Lfp.fold h
def wpX7_add (a1 : Int32) (I : Ix) (L : Lx) (Q : Ix → Lx → Prop) : Prop := wpX7_add_h3 Q a1 24 I L
set_option maxRecDepth 10000 in
theorem okX7_add_l3 {G : Gx} {Q : Ix → Lx → Prop} {P3 : Int32 → Int32 → Ix → Lx → Prop} (hP3 : ∀ (v1 : Int32) (v2 : Int32) (I : Ix) (L : Lx), P3 v1 v2 I L → Ef G MX7_add (qV Q) 3 [(0, .ref 1), (1, .int v1), (2, .int v2)] [] I L) {v1 : Int32} {v2 : Int32} {I : Ix} {L : Lx} (h : wpX7_add_l3 Q P3 v1 v2 I L) : Ef G MX7_add (qV Q) 3 [(0, .ref 1), (1, .int v1), (2, .int v2)] [] I L := by
  unfold wpX7_add_l3 at h
  refine Ev.iload_n (k := 2) (pc' := 4) dX7_add_3 rfl rfl rfl ?_
  refine Ev.if_lt (pc' := 7) (tgt := 46) dX7_add_4 rfl rfl (fun hc => ?_) (fun hc => ?_)
  · have h := h.1 hc
    exact Ef.vret dX7_add_46 rfl h
  · have h := h.2 hc
    refine Ev.aload_n (k := 0) (pc' := 8) dX7_add_7 rfl rfl rfl ?_
    refine Ev.getI (pc' := 11) dX7_add_8 rfl fa_RX7_15 ob_1 fk_7_1 ?_
    refine Ev.sipush (pc' := 14) dX7_add_11 rfl ks_1700 ?_
    refine Ev.icmp_ge (pc' := 17) (tgt := 46) dX7_add_14 rfl rfl (fun hc => ?_) (fun hc => ?_)
    · have h := h.1 hc
      exact Ef.vret dX7_add_46 rfl h
    · have h := h.2 hc
      refine Ev.aload_n (k := 0) (pc' := 18) dX7_add_17 rfl rfl rfl ?_
      refine Ev.getR (pc' := 21) dX7_add_18 rfl fa_RX7_9 ob_1 fk_7_0 rf_1_0 ?_
      refine Ev.aload_n (k := 0) (pc' := 22) dX7_add_21 rfl rfl rfl ?_
      refine Ev.getI (pc' := 25) dX7_add_22 rfl fa_RX7_15 ob_1 fk_7_1 ?_
      refine Ev.iload_n (k := 1) (pc' := 26) dX7_add_25 rfl rfl rfl ?_
      refine Ev.iload_n (k := 2) (pc' := 27) dX7_add_26 rfl rfl rfl ?_
      refine Ev.iushr (pc' := 28) dX7_add_27 rfl ?_
      refine Ev.i2b (pc' := 29) dX7_add_28 rfl ?_
      refine Ev.bastore (j := _) (pc' := 30) dX7_add_29 rfl ar_2 h.1 rfl (fun I1 eI1 => ?_)
      have h := h.2 I1 eI1
      refine Ev.aload_n (k := 0) (pc' := 31) dX7_add_30 rfl rfl rfl ?_
      refine Ev.dup (pc' := 32) dX7_add_31 rfl rfl ?_
      refine Ev.getI (pc' := 35) dX7_add_32 rfl fa_RX7_15 ob_1 fk_7_1 ?_
      refine Ev.iconst (pc' := 36) dX7_add_35 rfl ki_1 ?_
      refine Ev.iadd (pc' := 37) dX7_add_36 rfl ?_
      refine Ev.putI (pc' := 40) dX7_add_37 rfl fa_RX7_15 ob_1 fk_7_1 rfl rfl (fun I2 eI2 => ?_)
      have h := h I2 eI2
      refine Ev.iinc (k := 2) (v := _) (ls' := [(2, .int _), (0, .ref _), (1, .int _)]) (pc' := 43) dX7_add_40 rfl rfl (congrArg (_ + ·) ki_m8) (Nat.le_of_ble_eq_true rfl) rfl ?_
      refine Ev.goto (tgt := 3) dX7_add_43 rfl ?_
      exact Ev.sub [1, 2, 0] rfl (hP3 _ _ _ _ h)
set_option maxRecDepth 10000 in
theorem okX7_add_h3 {G : Gx} {Q : Ix → Lx → Prop} {v1 : Int32} {v2 : Int32} {I : Ix} {L : Lx} (h : wpX7_add_h3 Q v1 v2 I L) : Ef G MX7_add (qV Q) 3 [(0, .ref 1), (1, .int v1), (2, .int v2)] [] I L := by
  unfold wpX7_add_h3 at h
  refine Lfp.ind (P := fun z => Ef G MX7_add (qV Q) 3 [(0, .ref 1), (1, .int z.1), (2, .int z.2.1)] [] z.2.2.1 z.2.2.2) ?_ h
  intro z P' hP' h
  obtain ⟨v1, v2, I, L⟩ := z
  exact okX7_add_l3 (fun v1 v2 I L h9 => hP' (v1, v2, I, L) h9) h
set_option maxRecDepth 10000 in
theorem okX7_add {G : Gx} {a1 : Int32} {I : Ix} {L : Lx} {Q : Ix → Lx → Prop} (h : wpX7_add a1 I L Q) : Mf G MX7_add [.ref 1, .int a1] I L (qV Q) := by
  unfold wpX7_add at h
  refine Mf.of pn_RX7 (Nat.le_of_ble_eq_true rfl) ?_
  refine Ev.bipush (pc' := 2) dX7_add_0 rfl kb_24 ?_
  refine Ev.istore_n (ls' := [(2, .int _), (0, .ref _), (1, .int _)]) (pc' := 3) dX7_add_2 rfl rfl (Nat.le_of_ble_eq_true rfl) rfl ?_
  exact Ev.sub [1, 2, 0] rfl (okX7_add_h3 h)
def wpX11_feed (a1 : Int32) (a2 : Int32) (a3 : Int32) (a4 : Int32) (a5 : Int32) (I : Ix) (L : Lx) (Q : Int32 → Ix → Lx → Prop) : Prop := (((I 1 1) + 20) ≤ 1700 → wpX7_add a1 I L (fun I1 L2 => wpX7_add a2 I1 L2 (fun I3 L4 => wpX7_add a3 I3 L4 (fun I5 L6 => wpX7_add a4 I5 L6 (fun I7 L8 => wpX7_add a5 I7 L8 (fun I9 L10 => Q (I9 1 1) I9 L10)))))) ∧ (¬ ((I 1 1) + 20) ≤ 1700 → Q (-1) I L)
set_option maxRecDepth 10000 in
theorem okX11_feed {G : Gx} {a1 : Int32} {a2 : Int32} {a3 : Int32} {a4 : Int32} {a5 : Int32} {I : Ix} {L : Lx} {Q : Int32 → Ix → Lx → Prop} (h : wpX11_feed a1 a2 a3 a4 a5 I L Q) : Mf G MX11_feed [.ref 0, .int a1, .int a2, .int a3, .int a4, .int a5] I L (qI Q) := by
  unfold wpX11_feed at h
  refine Mf.of pn_RX11 (Nat.le_of_ble_eq_true rfl) ?_
  refine Ev.aload_n (k := 0) (pc' := 1) dX11_feed_0 rfl rfl rfl ?_
  refine Ev.getR (pc' := 4) dX11_feed_1 rfl fa_RX11_10 ob_0 fk_11_0 rf_0_0 ?_
  refine Ev.getI (pc' := 7) dX11_feed_4 rfl fa_RX11_84 ob_1 fk_7_1 ?_
  refine Ev.bipush (pc' := 9) dX11_feed_7 rfl kb_20 ?_
  refine Ev.iadd (pc' := 10) dX11_feed_9 rfl ?_
  refine Ev.sipush (pc' := 13) dX11_feed_10 rfl ks_1700 ?_
  refine Ev.icmp_le (pc' := 16) (tgt := 18) dX11_feed_13 rfl rfl (fun hc => ?_) (fun hc => ?_)
  · have h := h.1 hc
    refine Ev.aload_n (k := 0) (pc' := 19) dX11_feed_18 rfl rfl rfl ?_
    refine Ev.getR (pc' := 22) dX11_feed_19 rfl fa_RX11_10 ob_0 fk_11_0 rf_0_0 ?_
    refine Ev.iload_n (k := 1) (pc' := 23) dX11_feed_22 rfl rfl rfl ?_
    refine Ef.callVV [.int _] [] (pc' := 26) dX11_feed_23 rfl cv_RX11_88_X7_add ⟨Nat.le_of_ble_eq_true rfl, Nat.le_of_ble_eq_true rfl⟩ ob_1 rfl rfl rfl (Nat.le_of_ble_eq_true rfl) (okX7_add h) (fun I1 L2 h => ?_)
    refine Ev.aload_n (k := 0) (pc' := 27) dX11_feed_26 rfl rfl rfl ?_
    refine Ev.getR (pc' := 30) dX11_feed_27 rfl fa_RX11_10 ob_0 fk_11_0 rf_0_0 ?_
    refine Ev.iload_n (k := 2) (pc' := 31) dX11_feed_30 rfl rfl rfl ?_
    refine Ef.callVV [.int _] [] (pc' := 34) dX11_feed_31 rfl cv_RX11_88_X7_add ⟨Nat.le_of_ble_eq_true rfl, Nat.le_of_ble_eq_true rfl⟩ ob_1 rfl rfl rfl (Nat.le_of_ble_eq_true rfl) (okX7_add h) (fun I3 L4 h => ?_)
    refine Ev.aload_n (k := 0) (pc' := 35) dX11_feed_34 rfl rfl rfl ?_
    refine Ev.getR (pc' := 38) dX11_feed_35 rfl fa_RX11_10 ob_0 fk_11_0 rf_0_0 ?_
    refine Ev.iload_n (k := 3) (pc' := 39) dX11_feed_38 rfl rfl rfl ?_
    refine Ef.callVV [.int _] [] (pc' := 42) dX11_feed_39 rfl cv_RX11_88_X7_add ⟨Nat.le_of_ble_eq_true rfl, Nat.le_of_ble_eq_true rfl⟩ ob_1 rfl rfl rfl (Nat.le_of_ble_eq_true rfl) (okX7_add h) (fun I5 L6 h => ?_)
    refine Ev.aload_n (k := 0) (pc' := 43) dX11_feed_42 rfl rfl rfl ?_
    refine Ev.getR (pc' := 46) dX11_feed_43 rfl fa_RX11_10 ob_0 fk_11_0 rf_0_0 ?_
    refine Ev.iload (k := 4) (pc' := 48) dX11_feed_46 rfl rfl ?_
    refine Ef.callVV [.int _] [] (pc' := 51) dX11_feed_48 rfl cv_RX11_88_X7_add ⟨Nat.le_of_ble_eq_true rfl, Nat.le_of_ble_eq_true rfl⟩ ob_1 rfl rfl rfl (Nat.le_of_ble_eq_true rfl) (okX7_add h) (fun I7 L8 h => ?_)
    refine Ev.aload_n (k := 0) (pc' := 52) dX11_feed_51 rfl rfl rfl ?_
    refine Ev.getR (pc' := 55) dX11_feed_52 rfl fa_RX11_10 ob_0 fk_11_0 rf_0_0 ?_
    refine Ev.iload (k := 5) (pc' := 57) dX11_feed_55 rfl rfl ?_
    refine Ef.callVV [.int _] [] (pc' := 60) dX11_feed_57 rfl cv_RX11_88_X7_add ⟨Nat.le_of_ble_eq_true rfl, Nat.le_of_ble_eq_true rfl⟩ ob_1 rfl rfl rfl (Nat.le_of_ble_eq_true rfl) (okX7_add h) (fun I9 L10 h => ?_)
    refine Ev.aload_n (k := 0) (pc' := 61) dX11_feed_60 rfl rfl rfl ?_
    refine Ev.getR (pc' := 64) dX11_feed_61 rfl fa_RX11_10 ob_0 fk_11_0 rf_0_0 ?_
    refine Ev.getI (pc' := 67) dX11_feed_64 rfl fa_RX11_84 ob_1 fk_7_1 ?_
    exact Ef.iret dX11_feed_67 rfl h
  · have h := h.2 hc
    refine Ev.iconst (pc' := 17) dX11_feed_16 rfl ki_m1 ?_
    exact Ef.iret dX11_feed_17 rfl h
def wpX11_end (a1 : Int32) (I : Ix) (L : Lx) (Q : Int32 → Ix → Lx → Prop) : Prop := (a1 < 0 → Q (-1) I L) ∧ (¬ a1 < 0 → (a1 ≤ (I 1 1) → ∀ I1 : Ix, I1 = pu I 1 1 a1 → Q a1 I1 L) ∧ (¬ a1 ≤ (I 1 1) → Q (-1) I L))
set_option maxRecDepth 10000 in
theorem okX11_end {G : Gx} {a1 : Int32} {I : Ix} {L : Lx} {Q : Int32 → Ix → Lx → Prop} (h : wpX11_end a1 I L Q) : Mf G MX11_end [.ref 0, .int a1] I L (qI Q) := by
  unfold wpX11_end at h
  refine Mf.of pn_RX11 (Nat.le_of_ble_eq_true rfl) ?_
  refine Ev.iload_n (k := 1) (pc' := 1) dX11_end_0 rfl rfl rfl ?_
  refine Ev.if_lt (pc' := 4) (tgt := 15) dX11_end_1 rfl rfl (fun hc => ?_) (fun hc => ?_)
  · have h := h.1 hc
    refine Ev.iconst (pc' := 16) dX11_end_15 rfl ki_m1 ?_
    exact Ef.iret dX11_end_16 rfl h
  · have h := h.2 hc
    refine Ev.iload_n (k := 1) (pc' := 5) dX11_end_4 rfl rfl rfl ?_
    refine Ev.aload_n (k := 0) (pc' := 6) dX11_end_5 rfl rfl rfl ?_
    refine Ev.getR (pc' := 9) dX11_end_6 rfl fa_RX11_10 ob_0 fk_11_0 rf_0_0 ?_
    refine Ev.getI (pc' := 12) dX11_end_9 rfl fa_RX11_84 ob_1 fk_7_1 ?_
    refine Ev.icmp_le (pc' := 15) (tgt := 17) dX11_end_12 rfl rfl (fun hc => ?_) (fun hc => ?_)
    · have h := h.1 hc
      refine Ev.aload_n (k := 0) (pc' := 18) dX11_end_17 rfl rfl rfl ?_
      refine Ev.getR (pc' := 21) dX11_end_18 rfl fa_RX11_10 ob_0 fk_11_0 rf_0_0 ?_
      refine Ev.iload_n (k := 1) (pc' := 22) dX11_end_21 rfl rfl rfl ?_
      refine Ev.putI (pc' := 25) dX11_end_22 rfl fa_RX11_84 ob_1 fk_7_1 rfl rfl (fun I1 eI1 => ?_)
      have h := h I1 eI1
      refine Ev.iload_n (k := 1) (pc' := 26) dX11_end_25 rfl rfl rfl ?_
      exact Ef.iret dX11_end_26 rfl h
    · have h := h.2 hc
      refine Ev.iconst (pc' := 16) dX11_end_15 rfl ki_m1 ?_
      exact Ef.iret dX11_end_16 rfl h
def wpX1_turnOf_27_l4 (Q : Int32 → Ix → Lx → Prop) (P4 : Int32 → Int32 → Int32 → Ix → Lx → Prop) (v1 : Int32) (v2 : Int32) (v3 : Int32) (I : Ix) (L : Lx) : Prop := ((I 27 0) ≤ v3 → Q v2 I L) ∧ (¬ (I 27 0) ≤ v3 → vp_in v3 8 ∧ vp_in v1 8 ∧ ((I 29 v3.toNatClampNeg) < (I 29 v1.toNatClampNeg) → P4 v1 (v2 + 1) (v3 + 1) I L) ∧ (¬ (I 29 v3.toNatClampNeg) < (I 29 v1.toNatClampNeg) → vp_in v3 8 ∧ vp_in v1 8 ∧ (¬ (I 29 v3.toNatClampNeg) = (I 29 v1.toNatClampNeg) → P4 v1 v2 (v3 + 1) I L) ∧ ((I 29 v3.toNatClampNeg) = (I 29 v1.toNatClampNeg) → (v1 ≤ v3 → P4 v1 v2 (v3 + 1) I L) ∧ (¬ v1 ≤ v3 → P4 v1 (v2 + 1) (v3 + 1) I L))))
def wpX1_turnOf_27_h4 (Q : Int32 → Ix → Lx → Prop) (v1 : Int32) (v2 : Int32) (v3 : Int32) (I : Ix) (L : Lx) : Prop := Lfp (X := Int32 × Int32 × Int32 × Ix × Lx) (fun P z => wpX1_turnOf_27_l4 Q (fun v1 v2 v3 I L => P (v1, v2, v3, I, L)) z.1 z.2.1 z.2.2.1 z.2.2.2.1 z.2.2.2.2) (v1, v2, v3, I, L)
theorem wpX1_turnOf_27_h4_fold {Q : Int32 → Ix → Lx → Prop} {v1 : Int32} {v2 : Int32} {v3 : Int32} {I : Ix} {L : Lx} (h : wpX1_turnOf_27_l4 Q (wpX1_turnOf_27_h4 Q) v1 v2 v3 I L) : wpX1_turnOf_27_h4 Q v1 v2 v3 I L := Lfp.fold h
def wpX1_turnOf_27 (a1 : Int32) (I : Ix) (L : Lx) (Q : Int32 → Ix → Lx → Prop) : Prop := wpX1_turnOf_27_h4 Q a1 0 0 I L
set_option maxRecDepth 10000 in
theorem okX1_turnOf_27_l4 {G : Gx} {Q : Int32 → Ix → Lx → Prop} {P4 : Int32 → Int32 → Int32 → Ix → Lx → Prop} (hP4 : ∀ (v1 : Int32) (v2 : Int32) (v3 : Int32) (I : Ix) (L : Lx), P4 v1 v2 v3 I L → Ef G MX1_turnOf_27 (qI Q) 4 [(0, .ref 27), (1, .int v1), (2, .int v2), (3, .int v3)] [] I L) {v1 : Int32} {v2 : Int32} {v3 : Int32} {I : Ix} {L : Lx} (h : wpX1_turnOf_27_l4 Q P4 v1 v2 v3 I L) : Ef G MX1_turnOf_27 (qI Q) 4 [(0, .ref 27), (1, .int v1), (2, .int v2), (3, .int v3)] [] I L := by
  unfold wpX1_turnOf_27_l4 at h
  refine Ev.iload_n (k := 3) (pc' := 5) dX1_turnOf_4 rfl rfl rfl ?_
  refine Ev.aload_n (k := 0) (pc' := 6) dX1_turnOf_5 rfl rfl rfl ?_
  refine Ev.getI (pc' := 9) dX1_turnOf_6 rfl fa_RX1_28 ob_27 fk_1_0 ?_
  refine Ev.icmp_ge (pc' := 12) (tgt := 56) dX1_turnOf_9 rfl rfl (fun hc => ?_) (fun hc => ?_)
  · have h := h.1 hc
    refine Ev.iload_n (k := 2) (pc' := 57) dX1_turnOf_56 rfl rfl rfl ?_
    exact Ef.iret dX1_turnOf_57 rfl h
  · have h := h.2 hc
    refine Ev.aload_n (k := 0) (pc' := 13) dX1_turnOf_12 rfl rfl rfl ?_
    refine Ev.getR (pc' := 16) dX1_turnOf_13 rfl fa_RX1_15 ob_27 fk_1_3 rf_27_3 ?_
    refine Ev.iload_n (k := 3) (pc' := 17) dX1_turnOf_16 rfl rfl rfl ?_
    refine Ev.iaload (j := _) (pc' := 18) dX1_turnOf_17 rfl ar_29 h.1 rfl ?_
    have h := h.2
    refine Ev.aload_n (k := 0) (pc' := 19) dX1_turnOf_18 rfl rfl rfl ?_
    refine Ev.getR (pc' := 22) dX1_turnOf_19 rfl fa_RX1_15 ob_27 fk_1_3 rf_27_3 ?_
    refine Ev.iload_n (k := 1) (pc' := 23) dX1_turnOf_22 rfl rfl rfl ?_
    refine Ev.iaload (j := _) (pc' := 24) dX1_turnOf_23 rfl ar_29 h.1 rfl ?_
    have h := h.2
    refine Ev.icmp_lt (pc' := 27) (tgt := 47) dX1_turnOf_24 rfl rfl (fun hc => ?_) (fun hc => ?_)
    · have h := h.1 hc
      refine Ev.iinc (k := 2) (v := _) (ls' := [(2, .int _), (0, .ref _), (1, .int _), (3, .int _)]) (pc' := 50) dX1_turnOf_47 rfl rfl (congrArg (_ + ·) ki_1) (Nat.le_of_ble_eq_true rfl) rfl ?_
      refine Ev.iinc (k := 3) (v := _) (ls' := [(3, .int _), (2, .int _), (0, .ref _), (1, .int _)]) (pc' := 53) dX1_turnOf_50 rfl rfl (congrArg (_ + ·) ki_1) (Nat.le_of_ble_eq_true rfl) rfl ?_
      refine Ev.goto (tgt := 4) dX1_turnOf_53 rfl ?_
      exact Ev.sub [2, 3, 1, 0] rfl (hP4 _ _ _ _ _ h)
    · have h := h.2 hc
      refine Ev.aload_n (k := 0) (pc' := 28) dX1_turnOf_27 rfl rfl rfl ?_
      refine Ev.getR (pc' := 31) dX1_turnOf_28 rfl fa_RX1_15 ob_27 fk_1_3 rf_27_3 ?_
      refine Ev.iload_n (k := 3) (pc' := 32) dX1_turnOf_31 rfl rfl rfl ?_
      refine Ev.iaload (j := _) (pc' := 33) dX1_turnOf_32 rfl ar_29 h.1 rfl ?_
      have h := h.2
      refine Ev.aload_n (k := 0) (pc' := 34) dX1_turnOf_33 rfl rfl rfl ?_
      refine Ev.getR (pc' := 37) dX1_turnOf_34 rfl fa_RX1_15 ob_27 fk_1_3 rf_27_3 ?_
      refine Ev.iload_n (k := 1) (pc' := 38) dX1_turnOf_37 rfl rfl rfl ?_
      refine Ev.iaload (j := _) (pc' := 39) dX1_turnOf_38 rfl ar_29 h.1 rfl ?_
      have h := h.2
      refine Ev.icmp_ne (pc' := 42) (tgt := 50) dX1_turnOf_39 rfl rfl (fun hc => ?_) (fun hc => ?_)
      · have h := h.1 hc
        refine Ev.iinc (k := 3) (v := _) (ls' := [(3, .int _), (0, .ref _), (1, .int _), (2, .int _)]) (pc' := 53) dX1_turnOf_50 rfl rfl (congrArg (_ + ·) ki_1) (Nat.le_of_ble_eq_true rfl) rfl ?_
        refine Ev.goto (tgt := 4) dX1_turnOf_53 rfl ?_
        exact Ev.sub [1, 2, 3, 0] rfl (hP4 _ _ _ _ _ h)
      · have h := h.2 hc
        refine Ev.iload_n (k := 3) (pc' := 43) dX1_turnOf_42 rfl rfl rfl ?_
        refine Ev.iload_n (k := 1) (pc' := 44) dX1_turnOf_43 rfl rfl rfl ?_
        refine Ev.icmp_ge (pc' := 47) (tgt := 50) dX1_turnOf_44 rfl rfl (fun hc => ?_) (fun hc => ?_)
        · have h := h.1 hc
          refine Ev.iinc (k := 3) (v := _) (ls' := [(3, .int _), (0, .ref _), (1, .int _), (2, .int _)]) (pc' := 53) dX1_turnOf_50 rfl rfl (congrArg (_ + ·) ki_1) (Nat.le_of_ble_eq_true rfl) rfl ?_
          refine Ev.goto (tgt := 4) dX1_turnOf_53 rfl ?_
          exact Ev.sub [1, 2, 3, 0] rfl (hP4 _ _ _ _ _ h)
        · have h := h.2 hc
          refine Ev.iinc (k := 2) (v := _) (ls' := [(2, .int _), (0, .ref _), (1, .int _), (3, .int _)]) (pc' := 50) dX1_turnOf_47 rfl rfl (congrArg (_ + ·) ki_1) (Nat.le_of_ble_eq_true rfl) rfl ?_
          refine Ev.iinc (k := 3) (v := _) (ls' := [(3, .int _), (2, .int _), (0, .ref _), (1, .int _)]) (pc' := 53) dX1_turnOf_50 rfl rfl (congrArg (_ + ·) ki_1) (Nat.le_of_ble_eq_true rfl) rfl ?_
          refine Ev.goto (tgt := 4) dX1_turnOf_53 rfl ?_
          exact Ev.sub [2, 3, 1, 0] rfl (hP4 _ _ _ _ _ h)
set_option maxRecDepth 10000 in
theorem okX1_turnOf_27_h4 {G : Gx} {Q : Int32 → Ix → Lx → Prop} {v1 : Int32} {v2 : Int32} {v3 : Int32} {I : Ix} {L : Lx} (h : wpX1_turnOf_27_h4 Q v1 v2 v3 I L) : Ef G MX1_turnOf_27 (qI Q) 4 [(0, .ref 27), (1, .int v1), (2, .int v2), (3, .int v3)] [] I L := by
  unfold wpX1_turnOf_27_h4 at h
  refine Lfp.ind (P := fun z => Ef G MX1_turnOf_27 (qI Q) 4 [(0, .ref 27), (1, .int z.1), (2, .int z.2.1), (3, .int z.2.2.1)] [] z.2.2.2.1 z.2.2.2.2) ?_ h
  intro z P' hP' h
  obtain ⟨v1, v2, v3, I, L⟩ := z
  exact okX1_turnOf_27_l4 (fun v1 v2 v3 I L h9 => hP' (v1, v2, v3, I, L) h9) h
set_option maxRecDepth 10000 in
theorem okX1_turnOf_27 {G : Gx} {a1 : Int32} {I : Ix} {L : Lx} {Q : Int32 → Ix → Lx → Prop} (h : wpX1_turnOf_27 a1 I L Q) : Mf G MX1_turnOf_27 [.ref 27, .int a1] I L (qI Q) := by
  unfold wpX1_turnOf_27 at h
  refine Mf.of pn_RX1 (Nat.le_of_ble_eq_true rfl) ?_
  refine Ev.iconst (pc' := 1) dX1_turnOf_0 rfl ki_0 ?_
  refine Ev.istore_n (ls' := [(2, .int _), (0, .ref _), (1, .int _)]) (pc' := 2) dX1_turnOf_1 rfl rfl (Nat.le_of_ble_eq_true rfl) rfl ?_
  refine Ev.iconst (pc' := 3) dX1_turnOf_2 rfl ki_0 ?_
  refine Ev.istore_n (ls' := [(3, .int _), (2, .int _), (0, .ref _), (1, .int _)]) (pc' := 4) dX1_turnOf_3 rfl rfl (Nat.le_of_ble_eq_true rfl) rfl ?_
  exact Ev.sub [2, 3, 1, 0] rfl (okX1_turnOf_27_h4 h)
def wpX1_minutes_27 (a1 : Int32) (a2 : Int32) (I : Ix) (L : Lx) (Q : Int32 → Ix → Lx → Prop) : Prop := vp_in ((a1 * 8) + a2) 64 ∧ Q (I 31 ((a1 * 8) + a2).toNatClampNeg) I L
set_option maxRecDepth 10000 in
theorem okX1_minutes_27 {G : Gx} {a1 : Int32} {a2 : Int32} {I : Ix} {L : Lx} {Q : Int32 → Ix → Lx → Prop} (h : wpX1_minutes_27 a1 a2 I L Q) : Mf G MX1_minutes_27 [.ref 27, .int a1, .int a2] I L (qI Q) := by
  unfold wpX1_minutes_27 at h
  refine Mf.of pn_RX1 (Nat.le_of_ble_eq_true rfl) ?_
  refine Ev.aload_n (k := 0) (pc' := 1) dX1_minutes_0 rfl rfl rfl ?_
  refine Ev.getR (pc' := 4) dX1_minutes_1 rfl fa_RX1_22 ob_27 fk_1_5 rf_27_5 ?_
  refine Ev.iload_n (k := 1) (pc' := 5) dX1_minutes_4 rfl rfl rfl ?_
  refine Ev.bipush (pc' := 7) dX1_minutes_5 rfl kb_8 ?_
  refine Ev.imul (pc' := 8) dX1_minutes_7 rfl ?_
  refine Ev.iload_n (k := 2) (pc' := 9) dX1_minutes_8 rfl rfl rfl ?_
  refine Ev.iadd (pc' := 10) dX1_minutes_9 rfl ?_
  refine Ev.iaload (j := _) (pc' := 11) dX1_minutes_10 rfl ar_31 h.1 rfl ?_
  have h := h.2
  exact Ef.iret dX1_minutes_11 rfl h
def wpX1_measure_27_l89 (Q : Ix → Lx → Prop) (P89 : Int32 → Ix → Lx → Prop) (v1 : Int32) (I : Ix) (L : Lx) : Prop := ((I 27 0) ≤ v1 → Q I L) ∧ (¬ (I 27 0) ≤ v1 → wpX1_turnOf_27 v1 I L (fun r3 I1 L2 => vp_in r3 8 ∧ ∀ I4 : Ix, I4 = pu I1 30 r3.toNatClampNeg v1 → P89 (v1 + 1) I4 L2))
def wpX1_measure_27_h89 (Q : Ix → Lx → Prop) (v1 : Int32) (I : Ix) (L : Lx) : Prop := Lfp (X := Int32 × Ix × Lx) (fun P z => wpX1_measure_27_l89 Q (fun v1 I L => P (v1, I, L)) z.1 z.2.1 z.2.2) (v1, I, L)
theorem wpX1_measure_27_h89_fold {Q : Ix → Lx → Prop} {v1 : Int32} {I : Ix} {L : Lx} (h : wpX1_measure_27_l89 Q (wpX1_measure_27_h89 Q) v1 I L) : wpX1_measure_27_h89 Q v1 I L := Lfp.fold h
def wpX1_measure_27_l22 (Q : Ix → Lx → Prop) (P2 : Int32 → Ix → Lx → Prop) (P12 : Int32 → Int32 → Ix → Lx → Prop) (P22 : Int32 → Int32 → Int32 → Ix → Lx → Prop) (v1 : Int32) (v2 : Int32) (v3 : Int32) (I : Ix) (L : Lx) : Prop := ((I 27 0) ≤ v3 → P12 v1 (v2 + 1) I L) ∧ (¬ (I 27 0) ≤ v3 → wpX1_minutes_27 v2 v1 I L (fun r3 I1 L2 => wpX1_minutes_27 v1 v3 I1 L2 (fun r6 I4 L5 => wpX1_minutes_27 v2 v3 I4 L5 (fun r9 I7 L8 => (r9 ≤ (r3 + r6) → P22 v1 v2 (v3 + 1) I7 L8) ∧ (¬ r9 ≤ (r3 + r6) → vp_in ((v2 * 8) + v3) 64 ∧ ∀ I10 : Ix, I10 = pu I7 31 ((v2 * 8) + v3).toNatClampNeg (r3 + r6) → P22 v1 v2 (v3 + 1) I10 L8)))))
def wpX1_measure_27_h22 (Q : Ix → Lx → Prop) (P2 : Int32 → Ix → Lx → Prop) (P12 : Int32 → Int32 → Ix → Lx → Prop) (v1 : Int32) (v2 : Int32) (v3 : Int32) (I : Ix) (L : Lx) : Prop := Lfp (X := Int32 × Int32 × Int32 × Ix × Lx) (fun P z => wpX1_measure_27_l22 Q P2 P12 (fun v1 v2 v3 I L => P (v1, v2, v3, I, L)) z.1 z.2.1 z.2.2.1 z.2.2.2.1 z.2.2.2.2) (v1, v2, v3, I, L)
theorem wpX1_measure_27_h22_fold {Q : Ix → Lx → Prop} {P2 : Int32 → Ix → Lx → Prop} {P12 : Int32 → Int32 → Ix → Lx → Prop} {v1 : Int32} {v2 : Int32} {v3 : Int32} {I : Ix} {L : Lx} (h : wpX1_measure_27_l22 Q P2 P12 (wpX1_measure_27_h22 Q P2 P12) v1 v2 v3 I L) : wpX1_measure_27_h22 Q P2 P12 v1 v2 v3 I L := Lfp.fold h
def wpX1_measure_27_l12 (Q : Ix → Lx → Prop) (P2 : Int32 → Ix → Lx → Prop) (P12 : Int32 → Int32 → Ix → Lx → Prop) (v1 : Int32) (v2 : Int32) (I : Ix) (L : Lx) : Prop := ((I 27 0) ≤ v2 → P2 (v1 + 1) I L) ∧ (¬ (I 27 0) ≤ v2 → wpX1_measure_27_h22 Q P2 P12 v1 v2 0 I L)
def wpX1_measure_27_h12 (Q : Ix → Lx → Prop) (P2 : Int32 → Ix → Lx → Prop) (v1 : Int32) (v2 : Int32) (I : Ix) (L : Lx) : Prop := Lfp (X := Int32 × Int32 × Ix × Lx) (fun P z => wpX1_measure_27_l12 Q P2 (fun v1 v2 I L => P (v1, v2, I, L)) z.1 z.2.1 z.2.2.1 z.2.2.2) (v1, v2, I, L)
theorem wpX1_measure_27_h12_fold {Q : Ix → Lx → Prop} {P2 : Int32 → Ix → Lx → Prop} {v1 : Int32} {v2 : Int32} {I : Ix} {L : Lx} (h : wpX1_measure_27_l12 Q P2 (wpX1_measure_27_h12 Q P2) v1 v2 I L) : wpX1_measure_27_h12 Q P2 v1 v2 I L := Lfp.fold h
def wpX1_measure_27_l2 (Q : Ix → Lx → Prop) (P2 : Int32 → Ix → Lx → Prop) (v1 : Int32) (I : Ix) (L : Lx) : Prop := ((I 27 0) ≤ v1 → wpX1_measure_27_h89 Q 0 I L) ∧ (¬ (I 27 0) ≤ v1 → wpX1_measure_27_h12 Q P2 v1 0 I L)
def wpX1_measure_27_h2 (Q : Ix → Lx → Prop) (v1 : Int32) (I : Ix) (L : Lx) : Prop := Lfp (X := Int32 × Ix × Lx) (fun P z => wpX1_measure_27_l2 Q (fun v1 I L => P (v1, I, L)) z.1 z.2.1 z.2.2) (v1, I, L)
theorem wpX1_measure_27_h2_fold {Q : Ix → Lx → Prop} {v1 : Int32} {I : Ix} {L : Lx} (h : wpX1_measure_27_l2 Q (wpX1_measure_27_h2 Q) v1 I L) : wpX1_measure_27_h2 Q v1 I L := Lfp.fold h
def wpX1_measure_27 (I : Ix) (L : Lx) (Q : Ix → Lx → Prop) : Prop := wpX1_measure_27_h2 Q 0 I L
set_option maxRecDepth 10000 in
theorem okX1_measure_27_l89 {G : Gx} {Q : Ix → Lx → Prop} {P89 : Int32 → Ix → Lx → Prop} (hP89 : ∀ (v1 : Int32) (I : Ix) (L : Lx), P89 v1 I L → Ef G MX1_measure_27 (qV Q) 89 [(0, .ref 27), (1, .int v1)] [] I L) {v1 : Int32} {I : Ix} {L : Lx} (h : wpX1_measure_27_l89 Q P89 v1 I L) : Ef G MX1_measure_27 (qV Q) 89 [(0, .ref 27), (1, .int v1)] [] I L := by
  unfold wpX1_measure_27_l89 at h
  refine Ev.iload_n (k := 1) (pc' := 90) dX1_measure_89 rfl rfl rfl ?_
  refine Ev.aload_n (k := 0) (pc' := 91) dX1_measure_90 rfl rfl rfl ?_
  refine Ev.getI (pc' := 94) dX1_measure_91 rfl fa_RX1_28 ob_27 fk_1_0 ?_
  refine Ev.icmp_ge (pc' := 97) (tgt := 114) dX1_measure_94 rfl rfl (fun hc => ?_) (fun hc => ?_)
  · have h := h.1 hc
    exact Ef.vret dX1_measure_114 rfl h
  · have h := h.2 hc
    refine Ev.aload_n (k := 0) (pc' := 98) dX1_measure_97 rfl rfl rfl ?_
    refine Ev.getR (pc' := 101) dX1_measure_98 rfl fa_RX1_19 ob_27 fk_1_4 rf_27_4 ?_
    refine Ev.aload_n (k := 0) (pc' := 102) dX1_measure_101 rfl rfl rfl ?_
    refine Ev.iload_n (k := 1) (pc' := 103) dX1_measure_102 rfl rfl rfl ?_
    refine Ef.callVI [.int _] [.ref _] (pc' := 106) dX1_measure_103 rfl cv_RX1_45_X1_turnOf_27 ⟨Nat.le_of_ble_eq_true rfl, Nat.le_of_ble_eq_true rfl⟩ ob_27 rfl rfl rfl (Nat.le_of_ble_eq_true rfl) (okX1_turnOf_27 h) (fun r3 I1 L2 h => ?_)
    refine Ev.iload_n (k := 1) (pc' := 107) dX1_measure_106 rfl rfl rfl ?_
    refine Ev.iastore (j := _) (pc' := 108) dX1_measure_107 rfl ar_30 h.1 rfl (fun I4 eI4 => ?_)
    have h := h.2 I4 eI4
    refine Ev.iinc (k := 1) (v := _) (ls' := [(1, .int _), (0, .ref _)]) (pc' := 111) dX1_measure_108 rfl rfl (congrArg (_ + ·) ki_1) (Nat.le_of_ble_eq_true rfl) rfl ?_
    refine Ev.goto (tgt := 89) dX1_measure_111 rfl ?_
    exact Ev.sub [1, 0] rfl (hP89 _ _ _ h)
set_option maxRecDepth 10000 in
theorem okX1_measure_27_h89 {G : Gx} {Q : Ix → Lx → Prop} {v1 : Int32} {I : Ix} {L : Lx} (h : wpX1_measure_27_h89 Q v1 I L) : Ef G MX1_measure_27 (qV Q) 89 [(0, .ref 27), (1, .int v1)] [] I L := by
  unfold wpX1_measure_27_h89 at h
  refine Lfp.ind (P := fun z => Ef G MX1_measure_27 (qV Q) 89 [(0, .ref 27), (1, .int z.1)] [] z.2.1 z.2.2) ?_ h
  intro z P' hP' h
  obtain ⟨v1, I, L⟩ := z
  exact okX1_measure_27_l89 (fun v1 I L h9 => hP' (v1, I, L) h9) h
set_option maxRecDepth 10000 in
theorem okX1_measure_27_l22 {G : Gx} {Q : Ix → Lx → Prop} {P2 : Int32 → Ix → Lx → Prop} {P12 : Int32 → Int32 → Ix → Lx → Prop} {P22 : Int32 → Int32 → Int32 → Ix → Lx → Prop} (hP2 : ∀ (v1 : Int32) (I : Ix) (L : Lx), P2 v1 I L → Ef G MX1_measure_27 (qV Q) 2 [(0, .ref 27), (1, .int v1)] [] I L) (hP12 : ∀ (v1 : Int32) (v2 : Int32) (I : Ix) (L : Lx), P12 v1 v2 I L → Ef G MX1_measure_27 (qV Q) 12 [(0, .ref 27), (1, .int v1), (2, .int v2)] [] I L) (hP22 : ∀ (v1 : Int32) (v2 : Int32) (v3 : Int32) (I : Ix) (L : Lx), P22 v1 v2 v3 I L → Ef G MX1_measure_27 (qV Q) 22 [(0, .ref 27), (1, .int v1), (2, .int v2), (3, .int v3)] [] I L) {v1 : Int32} {v2 : Int32} {v3 : Int32} {I : Ix} {L : Lx} (h : wpX1_measure_27_l22 Q P2 P12 P22 v1 v2 v3 I L) : Ef G MX1_measure_27 (qV Q) 22 [(0, .ref 27), (1, .int v1), (2, .int v2), (3, .int v3)] [] I L := by
  unfold wpX1_measure_27_l22 at h
  refine Ev.iload_n (k := 3) (pc' := 23) dX1_measure_22 rfl rfl rfl ?_
  refine Ev.aload_n (k := 0) (pc' := 24) dX1_measure_23 rfl rfl rfl ?_
  refine Ev.getI (pc' := 27) dX1_measure_24 rfl fa_RX1_28 ob_27 fk_1_0 ?_
  refine Ev.icmp_ge (pc' := 30) (tgt := 75) dX1_measure_27 rfl rfl (fun hc => ?_) (fun hc => ?_)
  · have h := h.1 hc
    refine Ev.iinc (k := 2) (v := _) (ls' := [(2, .int _), (0, .ref _), (1, .int _), (3, .int _)]) (pc' := 78) dX1_measure_75 rfl rfl (congrArg (_ + ·) ki_1) (Nat.le_of_ble_eq_true rfl) rfl ?_
    refine Ev.goto (tgt := 12) dX1_measure_78 rfl ?_
    exact Ev.sub [1, 2, 0] rfl (hP12 _ _ _ _ h)
  · have h := h.2 hc
    refine Ev.aload_n (k := 0) (pc' := 31) dX1_measure_30 rfl rfl rfl ?_
    refine Ev.iload_n (k := 2) (pc' := 32) dX1_measure_31 rfl rfl rfl ?_
    refine Ev.iload_n (k := 1) (pc' := 33) dX1_measure_32 rfl rfl rfl ?_
    refine Ef.callVI [.int _, .int _] [] (pc' := 36) dX1_measure_33 rfl cv_RX1_41_X1_minutes_27 ⟨Nat.le_of_ble_eq_true rfl, Nat.le_of_ble_eq_true rfl⟩ ob_27 rfl rfl rfl (Nat.le_of_ble_eq_true rfl) (okX1_minutes_27 h) (fun r3 I1 L2 h => ?_)
    refine Ev.aload_n (k := 0) (pc' := 37) dX1_measure_36 rfl rfl rfl ?_
    refine Ev.iload_n (k := 1) (pc' := 38) dX1_measure_37 rfl rfl rfl ?_
    refine Ev.iload_n (k := 3) (pc' := 39) dX1_measure_38 rfl rfl rfl ?_
    refine Ef.callVI [.int _, .int _] [.int _] (pc' := 42) dX1_measure_39 rfl cv_RX1_41_X1_minutes_27 ⟨Nat.le_of_ble_eq_true rfl, Nat.le_of_ble_eq_true rfl⟩ ob_27 rfl rfl rfl (Nat.le_of_ble_eq_true rfl) (okX1_minutes_27 h) (fun r6 I4 L5 h => ?_)
    refine Ev.iadd (pc' := 43) dX1_measure_42 rfl ?_
    refine Ev.istore (ls' := [(4, .int _), (0, .ref _), (1, .int _), (2, .int _), (3, .int _)]) (pc' := 45) dX1_measure_43 rfl (Nat.le_of_ble_eq_true rfl) rfl ?_
    refine Ev.iload (k := 0) (pc' := 47) dX1_measure_45 rfl rfl ?_
    refine Ev.aload_n (k := 1) (pc' := 48) dX1_measure_47 rfl rfl rfl ?_
    refine Ev.iload_n (k := 3) (pc' := 49) dX1_measure_48 rfl rfl rfl ?_
    refine Ev.iload_n (k := 4) (pc' := 50) dX1_measure_49 rfl rfl rfl ?_
    refine Ef.callVI [.int _, .int _] [.int _] (pc' := 53) dX1_measure_50 rfl cv_RX1_41_X1_minutes_27 ⟨Nat.le_of_ble_eq_true rfl, Nat.le_of_ble_eq_true rfl⟩ ob_27 rfl rfl rfl (Nat.le_of_ble_eq_true rfl) (okX1_minutes_27 h) (fun r9 I7 L8 h => ?_)
    refine Ev.icmp_ge (pc' := 56) (tgt := 69) dX1_measure_53 rfl rfl (fun hc => ?_) (fun hc => ?_)
    · have h := h.1 hc
      refine Ev.iinc (k := 4) (v := _) (ls' := [(3, .int _), (4, .int _), (0, .ref _), (1, .int _), (2, .int _)]) (pc' := 72) dX1_measure_69 rfl rfl (congrArg (_ + ·) ki_1) (Nat.le_of_ble_eq_true rfl) rfl ?_
      refine Ev.goto (tgt := 22) dX1_measure_72 rfl ?_
      exact Ev.sub [2, 3, 4, 0] rfl (hP22 _ _ _ _ _ h)
    · have h := h.2 hc
      refine Ev.aload_n (k := 1) (pc' := 57) dX1_measure_56 rfl rfl rfl ?_
      refine Ev.getR (pc' := 60) dX1_measure_57 rfl fa_RX1_22 ob_27 fk_1_5 rf_27_5 ?_
      refine Ev.iload_n (k := 3) (pc' := 61) dX1_measure_60 rfl rfl rfl ?_
      refine Ev.bipush (pc' := 63) dX1_measure_61 rfl kb_8 ?_
      refine Ev.imul (pc' := 64) dX1_measure_63 rfl ?_
      refine Ev.iload_n (k := 4) (pc' := 65) dX1_measure_64 rfl rfl rfl ?_
      refine Ev.iadd (pc' := 66) dX1_measure_65 rfl ?_
      refine Ev.iload (k := 0) (pc' := 68) dX1_measure_66 rfl rfl ?_
      refine Ev.iastore (j := _) (pc' := 69) dX1_measure_68 rfl ar_31 h.1 rfl (fun I10 eI10 => ?_)
      have h := h.2 I10 eI10
      refine Ev.iinc (k := 4) (v := _) (ls' := [(3, .int _), (4, .int _), (0, .ref _), (1, .int _), (2, .int _)]) (pc' := 72) dX1_measure_69 rfl rfl (congrArg (_ + ·) ki_1) (Nat.le_of_ble_eq_true rfl) rfl ?_
      refine Ev.goto (tgt := 22) dX1_measure_72 rfl ?_
      exact Ev.sub [2, 3, 4, 0] rfl (hP22 _ _ _ _ _ h)
set_option maxRecDepth 10000 in
theorem okX1_measure_27_h22 {G : Gx} {Q : Ix → Lx → Prop} {P2 : Int32 → Ix → Lx → Prop} {P12 : Int32 → Int32 → Ix → Lx → Prop} (hP2 : ∀ (v1 : Int32) (I : Ix) (L : Lx), P2 v1 I L → Ef G MX1_measure_27 (qV Q) 2 [(0, .ref 27), (1, .int v1)] [] I L) (hP12 : ∀ (v1 : Int32) (v2 : Int32) (I : Ix) (L : Lx), P12 v1 v2 I L → Ef G MX1_measure_27 (qV Q) 12 [(0, .ref 27), (1, .int v1), (2, .int v2)] [] I L) {v1 : Int32} {v2 : Int32} {v3 : Int32} {I : Ix} {L : Lx} (h : wpX1_measure_27_h22 Q P2 P12 v1 v2 v3 I L) : Ef G MX1_measure_27 (qV Q) 22 [(0, .ref 27), (1, .int v1), (2, .int v2), (3, .int v3)] [] I L := by
  unfold wpX1_measure_27_h22 at h
  refine Lfp.ind (P := fun z => Ef G MX1_measure_27 (qV Q) 22 [(0, .ref 27), (1, .int z.1), (2, .int z.2.1), (3, .int z.2.2.1)] [] z.2.2.2.1 z.2.2.2.2) ?_ h
  intro z P' hP' h
  obtain ⟨v1, v2, v3, I, L⟩ := z
  exact okX1_measure_27_l22 hP2 hP12 (fun v1 v2 v3 I L h9 => hP' (v1, v2, v3, I, L) h9) h
set_option maxRecDepth 10000 in
theorem okX1_measure_27_l12 {G : Gx} {Q : Ix → Lx → Prop} {P2 : Int32 → Ix → Lx → Prop} {P12 : Int32 → Int32 → Ix → Lx → Prop} (hP2 : ∀ (v1 : Int32) (I : Ix) (L : Lx), P2 v1 I L → Ef G MX1_measure_27 (qV Q) 2 [(0, .ref 27), (1, .int v1)] [] I L) (hP12 : ∀ (v1 : Int32) (v2 : Int32) (I : Ix) (L : Lx), P12 v1 v2 I L → Ef G MX1_measure_27 (qV Q) 12 [(0, .ref 27), (1, .int v1), (2, .int v2)] [] I L) {v1 : Int32} {v2 : Int32} {I : Ix} {L : Lx} (h : wpX1_measure_27_l12 Q P2 P12 v1 v2 I L) : Ef G MX1_measure_27 (qV Q) 12 [(0, .ref 27), (1, .int v1), (2, .int v2)] [] I L := by
  unfold wpX1_measure_27_l12 at h
  refine Ev.iload_n (k := 2) (pc' := 13) dX1_measure_12 rfl rfl rfl ?_
  refine Ev.aload_n (k := 0) (pc' := 14) dX1_measure_13 rfl rfl rfl ?_
  refine Ev.getI (pc' := 17) dX1_measure_14 rfl fa_RX1_28 ob_27 fk_1_0 ?_
  refine Ev.icmp_ge (pc' := 20) (tgt := 81) dX1_measure_17 rfl rfl (fun hc => ?_) (fun hc => ?_)
  · have h := h.1 hc
    refine Ev.iinc (k := 1) (v := _) (ls' := [(1, .int _), (0, .ref _), (2, .int _)]) (pc' := 84) dX1_measure_81 rfl rfl (congrArg (_ + ·) ki_1) (Nat.le_of_ble_eq_true rfl) rfl ?_
    refine Ev.goto (tgt := 2) dX1_measure_84 rfl ?_
    exact Ev.sub [1, 0] rfl (hP2 _ _ _ h)
  · have h := h.2 hc
    refine Ev.iconst (pc' := 21) dX1_measure_20 rfl ki_0 ?_
    refine Ev.istore_n (ls' := [(3, .int _), (0, .ref _), (1, .int _), (2, .int _)]) (pc' := 22) dX1_measure_21 rfl rfl (Nat.le_of_ble_eq_true rfl) rfl ?_
    exact Ev.sub [1, 2, 3, 0] rfl (okX1_measure_27_h22 hP2 hP12 h)
set_option maxRecDepth 10000 in
theorem okX1_measure_27_h12 {G : Gx} {Q : Ix → Lx → Prop} {P2 : Int32 → Ix → Lx → Prop} (hP2 : ∀ (v1 : Int32) (I : Ix) (L : Lx), P2 v1 I L → Ef G MX1_measure_27 (qV Q) 2 [(0, .ref 27), (1, .int v1)] [] I L) {v1 : Int32} {v2 : Int32} {I : Ix} {L : Lx} (h : wpX1_measure_27_h12 Q P2 v1 v2 I L) : Ef G MX1_measure_27 (qV Q) 12 [(0, .ref 27), (1, .int v1), (2, .int v2)] [] I L := by
  unfold wpX1_measure_27_h12 at h
  refine Lfp.ind (P := fun z => Ef G MX1_measure_27 (qV Q) 12 [(0, .ref 27), (1, .int z.1), (2, .int z.2.1)] [] z.2.2.1 z.2.2.2) ?_ h
  intro z P' hP' h
  obtain ⟨v1, v2, I, L⟩ := z
  exact okX1_measure_27_l12 hP2 (fun v1 v2 I L h9 => hP' (v1, v2, I, L) h9) h
set_option maxRecDepth 10000 in
theorem okX1_measure_27_l2 {G : Gx} {Q : Ix → Lx → Prop} {P2 : Int32 → Ix → Lx → Prop} (hP2 : ∀ (v1 : Int32) (I : Ix) (L : Lx), P2 v1 I L → Ef G MX1_measure_27 (qV Q) 2 [(0, .ref 27), (1, .int v1)] [] I L) {v1 : Int32} {I : Ix} {L : Lx} (h : wpX1_measure_27_l2 Q P2 v1 I L) : Ef G MX1_measure_27 (qV Q) 2 [(0, .ref 27), (1, .int v1)] [] I L := by
  unfold wpX1_measure_27_l2 at h
  refine Ev.iload_n (k := 1) (pc' := 3) dX1_measure_2 rfl rfl rfl ?_
  refine Ev.aload_n (k := 0) (pc' := 4) dX1_measure_3 rfl rfl rfl ?_
  refine Ev.getI (pc' := 7) dX1_measure_4 rfl fa_RX1_28 ob_27 fk_1_0 ?_
  refine Ev.icmp_ge (pc' := 10) (tgt := 87) dX1_measure_7 rfl rfl (fun hc => ?_) (fun hc => ?_)
  · have h := h.1 hc
    refine Ev.iconst (pc' := 88) dX1_measure_87 rfl ki_0 ?_
    refine Ev.istore_n (ls' := [(1, .int _), (0, .ref _)]) (pc' := 89) dX1_measure_88 rfl rfl (Nat.le_of_ble_eq_true rfl) rfl ?_
    exact Ev.sub [1, 0] rfl (okX1_measure_27_h89 h)
  · have h := h.2 hc
    refine Ev.iconst (pc' := 11) dX1_measure_10 rfl ki_0 ?_
    refine Ev.istore_n (ls' := [(2, .int _), (0, .ref _), (1, .int _)]) (pc' := 12) dX1_measure_11 rfl rfl (Nat.le_of_ble_eq_true rfl) rfl ?_
    exact Ev.sub [1, 2, 0] rfl (okX1_measure_27_h12 hP2 h)
set_option maxRecDepth 10000 in
theorem okX1_measure_27_h2 {G : Gx} {Q : Ix → Lx → Prop} {v1 : Int32} {I : Ix} {L : Lx} (h : wpX1_measure_27_h2 Q v1 I L) : Ef G MX1_measure_27 (qV Q) 2 [(0, .ref 27), (1, .int v1)] [] I L := by
  unfold wpX1_measure_27_h2 at h
  refine Lfp.ind (P := fun z => Ef G MX1_measure_27 (qV Q) 2 [(0, .ref 27), (1, .int z.1)] [] z.2.1 z.2.2) ?_ h
  intro z P' hP' h
  obtain ⟨v1, I, L⟩ := z
  exact okX1_measure_27_l2 (fun v1 I L h9 => hP' (v1, I, L) h9) h
set_option maxRecDepth 10000 in
theorem okX1_measure_27 {G : Gx} {I : Ix} {L : Lx} {Q : Ix → Lx → Prop} (h : wpX1_measure_27 I L Q) : Mf G MX1_measure_27 [.ref 27] I L (qV Q) := by
  unfold wpX1_measure_27 at h
  refine Mf.of pn_RX1 (Nat.le_of_ble_eq_true rfl) ?_
  refine Ev.iconst (pc' := 1) dX1_measure_0 rfl ki_0 ?_
  refine Ev.istore_n (ls' := [(1, .int _), (0, .ref _)]) (pc' := 2) dX1_measure_1 rfl rfl (Nat.le_of_ble_eq_true rfl) rfl ?_
  exact Ev.sub [1, 0] rfl (okX1_measure_27_h2 h)
def wpX7_byteAt (a1 : Int32) (I : Ix) (L : Lx) (Q : Int32 → Ix → Lx → Prop) : Prop := (a1 < 0 → Q (-1) I L) ∧ (¬ a1 < 0 → ((I 1 1) ≤ a1 → Q (-1) I L) ∧ (¬ (I 1 1) ≤ a1 → vp_in a1 1700 ∧ Q ((I 2 a1.toNatClampNeg) &&& 255) I L))
set_option maxRecDepth 10000 in
theorem okX7_byteAt {G : Gx} {a1 : Int32} {I : Ix} {L : Lx} {Q : Int32 → Ix → Lx → Prop} (h : wpX7_byteAt a1 I L Q) : Mf G MX7_byteAt [.ref 1, .int a1] I L (qI Q) := by
  unfold wpX7_byteAt at h
  refine Mf.of pn_RX7 (Nat.le_of_ble_eq_true rfl) ?_
  refine Ev.iload_n (k := 1) (pc' := 1) dX7_byteAt_0 rfl rfl rfl ?_
  refine Ev.if_lt (pc' := 4) (tgt := 25) dX7_byteAt_1 rfl rfl (fun hc => ?_) (fun hc => ?_)
  · have h := h.1 hc
    refine Ev.iconst (pc' := 26) dX7_byteAt_25 rfl ki_m1 ?_
    exact Ef.iret dX7_byteAt_26 rfl h
  · have h := h.2 hc
    refine Ev.iload_n (k := 1) (pc' := 5) dX7_byteAt_4 rfl rfl rfl ?_
    refine Ev.aload_n (k := 0) (pc' := 6) dX7_byteAt_5 rfl rfl rfl ?_
    refine Ev.getI (pc' := 9) dX7_byteAt_6 rfl fa_RX7_15 ob_1 fk_7_1 ?_
    refine Ev.icmp_ge (pc' := 12) (tgt := 25) dX7_byteAt_9 rfl rfl (fun hc => ?_) (fun hc => ?_)
    · have h := h.1 hc
      refine Ev.iconst (pc' := 26) dX7_byteAt_25 rfl ki_m1 ?_
      exact Ef.iret dX7_byteAt_26 rfl h
    · have h := h.2 hc
      refine Ev.aload_n (k := 0) (pc' := 13) dX7_byteAt_12 rfl rfl rfl ?_
      refine Ev.getR (pc' := 16) dX7_byteAt_13 rfl fa_RX7_9 ob_1 fk_7_0 rf_1_0 ?_
      refine Ev.iload_n (k := 1) (pc' := 17) dX7_byteAt_16 rfl rfl rfl ?_
      refine Ev.baload (j := _) (pc' := 18) dX7_byteAt_17 rfl ar_2 h.1 rfl ?_
      have h := h.2
      refine Ev.sipush (pc' := 21) dX7_byteAt_18 rfl ks_255 ?_
      refine Ev.iand (pc' := 22) dX7_byteAt_21 rfl ?_
      refine Ev.goto (tgt := 26) dX7_byteAt_22 rfl ?_
      exact Ef.iret dX7_byteAt_26 rfl h
def wpX8_skipBlanks_b46 (Q : Ix → Lx → Prop) (P0 : Ix → Lx → Prop) (I : Ix) (L : Lx) : Prop := ∀ I1 : Ix, I1 = pu I 51 2 ((I 51 2) + 1) → P0 I1 L
def wpX8_skipBlanks_l0 (Q : Ix → Lx → Prop) (P0 : Ix → Lx → Prop) (I : Ix) (L : Lx) : Prop := ((I 1 1) ≤ (I 51 2) → Q I L) ∧ (¬ (I 1 1) ≤ (I 51 2) → wpX7_byteAt (I 51 2) I L (fun r3 I1 L2 => (r3 = 32 → wpX8_skipBlanks_b46 Q P0 I1 L2) ∧ (¬ r3 = 32 → wpX7_byteAt (I1 51 2) I1 L2 (fun r6 I4 L5 => (¬ r6 = 10 → Q I4 L5) ∧ (r6 = 10 → wpX8_skipBlanks_b46 Q P0 I4 L5)))))
def wpX8_skipBlanks_h0 (Q : Ix → Lx → Prop) (I : Ix) (L : Lx) : Prop := Lfp (X := Ix × Lx) (fun P z => wpX8_skipBlanks_l0 Q (fun I L => P (I, L)) z.1 z.2) (I, L)
theorem wpX8_skipBlanks_h0_fold {Q : Ix → Lx → Prop} {I : Ix} {L : Lx} (h : wpX8_skipBlanks_l0 Q (wpX8_skipBlanks_h0 Q) I L) : wpX8_skipBlanks_h0 Q I L := Lfp.fold h
def wpX8_skipBlanks (I : Ix) (L : Lx) (Q : Ix → Lx → Prop) : Prop := wpX8_skipBlanks_h0 Q I L
set_option maxRecDepth 10000 in
theorem okX8_skipBlanks_b46 {G : Gx} {Q : Ix → Lx → Prop} {P0 : Ix → Lx → Prop} (hP0 : ∀ (I : Ix) (L : Lx), P0 I L → Ef G MX8_skipBlanks (qV Q) 0 [(0, .ref 51)] [] I L) {I : Ix} {L : Lx} (h : wpX8_skipBlanks_b46 Q P0 I L) : Ef G MX8_skipBlanks (qV Q) 46 [(0, .ref 51)] [] I L := by
  unfold wpX8_skipBlanks_b46 at h
  refine Ev.aload_n (k := 0) (pc' := 47) dX8_skipBlanks_46 rfl rfl rfl ?_
  refine Ev.dup (pc' := 48) dX8_skipBlanks_47 rfl rfl ?_
  refine Ev.getI (pc' := 51) dX8_skipBlanks_48 rfl fa_RX8_35 ob_51 fk_8_2 ?_
  refine Ev.iconst (pc' := 52) dX8_skipBlanks_51 rfl ki_1 ?_
  refine Ev.iadd (pc' := 53) dX8_skipBlanks_52 rfl ?_
  refine Ev.putI (pc' := 56) dX8_skipBlanks_53 rfl fa_RX8_35 ob_51 fk_8_2 rfl rfl (fun I1 eI1 => ?_)
  have h := h I1 eI1
  refine Ev.goto (tgt := 0) dX8_skipBlanks_56 rfl ?_
  exact hP0 _ _ h
set_option maxRecDepth 10000 in
theorem okX8_skipBlanks_l0 {G : Gx} {Q : Ix → Lx → Prop} {P0 : Ix → Lx → Prop} (hP0 : ∀ (I : Ix) (L : Lx), P0 I L → Ef G MX8_skipBlanks (qV Q) 0 [(0, .ref 51)] [] I L) {I : Ix} {L : Lx} (h : wpX8_skipBlanks_l0 Q P0 I L) : Ef G MX8_skipBlanks (qV Q) 0 [(0, .ref 51)] [] I L := by
  unfold wpX8_skipBlanks_l0 at h
  refine Ev.aload_n (k := 0) (pc' := 1) dX8_skipBlanks_0 rfl rfl rfl ?_
  refine Ev.getI (pc' := 4) dX8_skipBlanks_1 rfl fa_RX8_35 ob_51 fk_8_2 ?_
  refine Ev.aload_n (k := 0) (pc' := 5) dX8_skipBlanks_4 rfl rfl rfl ?_
  refine Ev.getR (pc' := 8) dX8_skipBlanks_5 rfl fa_RX8_15 ob_51 fk_8_0 rf_51_0 ?_
  refine Ev.getI (pc' := 11) dX8_skipBlanks_8 rfl fa_RX8_72 ob_1 fk_7_1 ?_
  refine Ev.icmp_ge (pc' := 14) (tgt := 59) dX8_skipBlanks_11 rfl rfl (fun hc => ?_) (fun hc => ?_)
  · have h := h.1 hc
    exact Ef.vret dX8_skipBlanks_59 rfl h
  · have h := h.2 hc
    refine Ev.aload_n (k := 0) (pc' := 15) dX8_skipBlanks_14 rfl rfl rfl ?_
    refine Ev.getR (pc' := 18) dX8_skipBlanks_15 rfl fa_RX8_15 ob_51 fk_8_0 rf_51_0 ?_
    refine Ev.aload_n (k := 0) (pc' := 19) dX8_skipBlanks_18 rfl rfl rfl ?_
    refine Ev.getI (pc' := 22) dX8_skipBlanks_19 rfl fa_RX8_35 ob_51 fk_8_2 ?_
    refine Ef.callVI [.int _] [] (pc' := 25) dX8_skipBlanks_22 rfl cv_RX8_48_X7_byteAt ⟨Nat.le_of_ble_eq_true rfl, Nat.le_of_ble_eq_true rfl⟩ ob_1 rfl rfl rfl (Nat.le_of_ble_eq_true rfl) (okX7_byteAt h) (fun r3 I1 L2 h => ?_)
    refine Ev.bipush (pc' := 27) dX8_skipBlanks_25 rfl kb_32 ?_
    refine Ev.icmp_eq (pc' := 30) (tgt := 46) dX8_skipBlanks_27 rfl rfl (fun hc => ?_) (fun hc => ?_)
    · have h := h.1 hc
      exact okX8_skipBlanks_b46 hP0 h
    · have h := h.2 hc
      refine Ev.aload_n (k := 0) (pc' := 31) dX8_skipBlanks_30 rfl rfl rfl ?_
      refine Ev.getR (pc' := 34) dX8_skipBlanks_31 rfl fa_RX8_15 ob_51 fk_8_0 rf_51_0 ?_
      refine Ev.aload_n (k := 0) (pc' := 35) dX8_skipBlanks_34 rfl rfl rfl ?_
      refine Ev.getI (pc' := 38) dX8_skipBlanks_35 rfl fa_RX8_35 ob_51 fk_8_2 ?_
      refine Ef.callVI [.int _] [] (pc' := 41) dX8_skipBlanks_38 rfl cv_RX8_48_X7_byteAt ⟨Nat.le_of_ble_eq_true rfl, Nat.le_of_ble_eq_true rfl⟩ ob_1 rfl rfl rfl (Nat.le_of_ble_eq_true rfl) (okX7_byteAt h) (fun r6 I4 L5 h => ?_)
      refine Ev.bipush (pc' := 43) dX8_skipBlanks_41 rfl kb_10 ?_
      refine Ev.icmp_ne (pc' := 46) (tgt := 59) dX8_skipBlanks_43 rfl rfl (fun hc => ?_) (fun hc => ?_)
      · have h := h.1 hc
        exact Ef.vret dX8_skipBlanks_59 rfl h
      · have h := h.2 hc
        exact okX8_skipBlanks_b46 hP0 h
set_option maxRecDepth 10000 in
theorem okX8_skipBlanks_h0 {G : Gx} {Q : Ix → Lx → Prop} {I : Ix} {L : Lx} (h : wpX8_skipBlanks_h0 Q I L) : Ef G MX8_skipBlanks (qV Q) 0 [(0, .ref 51)] [] I L := by
  unfold wpX8_skipBlanks_h0 at h
  refine Lfp.ind (P := fun z => Ef G MX8_skipBlanks (qV Q) 0 [(0, .ref 51)] [] z.1 z.2) ?_ h
  intro z P' hP' h
  obtain ⟨I, L⟩ := z
  exact okX8_skipBlanks_l0 (fun I L h9 => hP' (I, L) h9) h
set_option maxRecDepth 10000 in
theorem okX8_skipBlanks {G : Gx} {I : Ix} {L : Lx} {Q : Ix → Lx → Prop} (h : wpX8_skipBlanks I L Q) : Mf G MX8_skipBlanks [.ref 51] I L (qV Q) := by
  unfold wpX8_skipBlanks at h
  refine Mf.of pn_RX8 (Nat.le_of_ble_eq_true rfl) ?_
  exact okX8_skipBlanks_h0 h
def wpX8_isLetter (a0 : Int32) (I : Ix) (L : Lx) (Q : Bool → Ix → Lx → Prop) : Prop := (a0 < 97 → Q false I L) ∧ (¬ a0 < 97 → (122 < a0 → Q false I L) ∧ (¬ 122 < a0 → Q true I L))
set_option maxRecDepth 10000 in
theorem okX8_isLetter {G : Gx} {a0 : Int32} {I : Ix} {L : Lx} {Q : Bool → Ix → Lx → Prop} (h : wpX8_isLetter a0 I L Q) : Mf G MX8_isLetter [.int a0] I L (qZ Q) := by
  unfold wpX8_isLetter at h
  refine Mf.of pn_RX8 (Nat.le_of_ble_eq_true rfl) ?_
  refine Ev.iload_n (k := 0) (pc' := 1) dX8_isLetter_0 rfl rfl rfl ?_
  refine Ev.bipush (pc' := 3) dX8_isLetter_1 rfl kb_97 ?_
  refine Ev.icmp_lt (pc' := 6) (tgt := 16) dX8_isLetter_3 rfl rfl (fun hc => ?_) (fun hc => ?_)
  · have h := h.1 hc
    refine Ev.iconst (pc' := 17) dX8_isLetter_16 rfl ki_0 ?_
    exact Ef.zret (b := false) dX8_isLetter_17 rfl h
  · have h := h.2 hc
    refine Ev.iload_n (k := 0) (pc' := 7) dX8_isLetter_6 rfl rfl rfl ?_
    refine Ev.bipush (pc' := 9) dX8_isLetter_7 rfl kb_122 ?_
    refine Ev.icmp_gt (pc' := 12) (tgt := 16) dX8_isLetter_9 rfl rfl (fun hc => ?_) (fun hc => ?_)
    · have h := h.1 hc
      refine Ev.iconst (pc' := 17) dX8_isLetter_16 rfl ki_0 ?_
      exact Ef.zret (b := false) dX8_isLetter_17 rfl h
    · have h := h.2 hc
      refine Ev.iconst (pc' := 13) dX8_isLetter_12 rfl ki_1 ?_
      refine Ev.goto (tgt := 17) dX8_isLetter_13 rfl ?_
      exact Ef.zret (b := true) dX8_isLetter_17 rfl h
def wpX8_isDigit (a0 : Int32) (I : Ix) (L : Lx) (Q : Bool → Ix → Lx → Prop) : Prop := (a0 < 48 → Q false I L) ∧ (¬ a0 < 48 → (57 < a0 → Q false I L) ∧ (¬ 57 < a0 → Q true I L))
set_option maxRecDepth 10000 in
theorem okX8_isDigit {G : Gx} {a0 : Int32} {I : Ix} {L : Lx} {Q : Bool → Ix → Lx → Prop} (h : wpX8_isDigit a0 I L Q) : Mf G MX8_isDigit [.int a0] I L (qZ Q) := by
  unfold wpX8_isDigit at h
  refine Mf.of pn_RX8 (Nat.le_of_ble_eq_true rfl) ?_
  refine Ev.iload_n (k := 0) (pc' := 1) dX8_isDigit_0 rfl rfl rfl ?_
  refine Ev.bipush (pc' := 3) dX8_isDigit_1 rfl kb_48 ?_
  refine Ev.icmp_lt (pc' := 6) (tgt := 16) dX8_isDigit_3 rfl rfl (fun hc => ?_) (fun hc => ?_)
  · have h := h.1 hc
    refine Ev.iconst (pc' := 17) dX8_isDigit_16 rfl ki_0 ?_
    exact Ef.zret (b := false) dX8_isDigit_17 rfl h
  · have h := h.2 hc
    refine Ev.iload_n (k := 0) (pc' := 7) dX8_isDigit_6 rfl rfl rfl ?_
    refine Ev.bipush (pc' := 9) dX8_isDigit_7 rfl kb_57 ?_
    refine Ev.icmp_gt (pc' := 12) (tgt := 16) dX8_isDigit_9 rfl rfl (fun hc => ?_) (fun hc => ?_)
    · have h := h.1 hc
      refine Ev.iconst (pc' := 17) dX8_isDigit_16 rfl ki_0 ?_
      exact Ef.zret (b := false) dX8_isDigit_17 rfl h
    · have h := h.2 hc
      refine Ev.iconst (pc' := 13) dX8_isDigit_12 rfl ki_1 ?_
      refine Ev.goto (tgt := 17) dX8_isDigit_13 rfl ?_
      exact Ef.zret (b := true) dX8_isDigit_17 rfl h
def wpX8_isSignByte (a0 : Int32) (I : Ix) (L : Lx) (Q : Bool → Ix → Lx → Prop) : Prop := (a0 = 40 → Q true I L) ∧ (a0 = 41 → Q true I L) ∧ (a0 = 42 → Q true I L) ∧ (a0 = 43 → Q true I L) ∧ (a0 = 45 → Q true I L) ∧ (a0 = 59 → Q true I L) ∧ (a0 = 60 → Q true I L) ∧ (a0 = 61 → Q true I L) ∧ (a0 = 62 → Q true I L) ∧ (¬ a0 = 40 → ¬ a0 = 41 → ¬ a0 = 42 → ¬ a0 = 43 → ¬ a0 = 45 → ¬ a0 = 59 → ¬ a0 = 60 → ¬ a0 = 61 → ¬ a0 = 62 → Q false I L)
set_option maxRecDepth 10000 in
theorem okX8_isSignByte {G : Gx} {a0 : Int32} {I : Ix} {L : Lx} {Q : Bool → Ix → Lx → Prop} (h : wpX8_isSignByte a0 I L Q) : Mf G MX8_isSignByte [.int a0] I L (qZ Q) := by
  unfold wpX8_isSignByte at h
  refine Mf.of pn_RX8 (Nat.le_of_ble_eq_true rfl) ?_
  refine Ev.iload_n (k := 0) (pc' := 1) dX8_isSignByte_0 rfl rfl rfl ?_
  by_cases e0 : a0 = 40
  · refine Ev.tableIn (off := 107) (tgt := 108) dX8_isSignByte_1 (by rw [e0]; decide) (by rw [e0]; decide) (by rw [e0]; decide) rfl ?_
    have h := h.1 e0
    refine Ev.iconst (pc' := 109) dX8_isSignByte_108 rfl ki_1 ?_
    exact Ef.zret (b := true) dX8_isSignByte_109 rfl h
  by_cases e1 : a0 = 41
  · refine Ev.tableIn (off := 107) (tgt := 108) dX8_isSignByte_1 (by rw [e1]; decide) (by rw [e1]; decide) (by rw [e1]; decide) rfl ?_
    have h := h.2.1 e1
    refine Ev.iconst (pc' := 109) dX8_isSignByte_108 rfl ki_1 ?_
    exact Ef.zret (b := true) dX8_isSignByte_109 rfl h
  by_cases e2 : a0 = 42
  · refine Ev.tableIn (off := 107) (tgt := 108) dX8_isSignByte_1 (by rw [e2]; decide) (by rw [e2]; decide) (by rw [e2]; decide) rfl ?_
    have h := h.2.2.1 e2
    refine Ev.iconst (pc' := 109) dX8_isSignByte_108 rfl ki_1 ?_
    exact Ef.zret (b := true) dX8_isSignByte_109 rfl h
  by_cases e3 : a0 = 43
  · refine Ev.tableIn (off := 107) (tgt := 108) dX8_isSignByte_1 (by rw [e3]; decide) (by rw [e3]; decide) (by rw [e3]; decide) rfl ?_
    have h := h.2.2.2.1 e3
    refine Ev.iconst (pc' := 109) dX8_isSignByte_108 rfl ki_1 ?_
    exact Ef.zret (b := true) dX8_isSignByte_109 rfl h
  by_cases e4 : a0 = 45
  · refine Ev.tableIn (off := 107) (tgt := 108) dX8_isSignByte_1 (by rw [e4]; decide) (by rw [e4]; decide) (by rw [e4]; decide) rfl ?_
    have h := h.2.2.2.2.1 e4
    refine Ev.iconst (pc' := 109) dX8_isSignByte_108 rfl ki_1 ?_
    exact Ef.zret (b := true) dX8_isSignByte_109 rfl h
  by_cases e5 : a0 = 59
  · refine Ev.tableIn (off := 107) (tgt := 108) dX8_isSignByte_1 (by rw [e5]; decide) (by rw [e5]; decide) (by rw [e5]; decide) rfl ?_
    have h := h.2.2.2.2.2.1 e5
    refine Ev.iconst (pc' := 109) dX8_isSignByte_108 rfl ki_1 ?_
    exact Ef.zret (b := true) dX8_isSignByte_109 rfl h
  by_cases e6 : a0 = 60
  · refine Ev.tableIn (off := 107) (tgt := 108) dX8_isSignByte_1 (by rw [e6]; decide) (by rw [e6]; decide) (by rw [e6]; decide) rfl ?_
    have h := h.2.2.2.2.2.2.1 e6
    refine Ev.iconst (pc' := 109) dX8_isSignByte_108 rfl ki_1 ?_
    exact Ef.zret (b := true) dX8_isSignByte_109 rfl h
  by_cases e7 : a0 = 61
  · refine Ev.tableIn (off := 107) (tgt := 108) dX8_isSignByte_1 (by rw [e7]; decide) (by rw [e7]; decide) (by rw [e7]; decide) rfl ?_
    have h := h.2.2.2.2.2.2.2.1 e7
    refine Ev.iconst (pc' := 109) dX8_isSignByte_108 rfl ki_1 ?_
    exact Ef.zret (b := true) dX8_isSignByte_109 rfl h
  by_cases e8 : a0 = 62
  · refine Ev.tableIn (off := 107) (tgt := 108) dX8_isSignByte_1 (by rw [e8]; decide) (by rw [e8]; decide) (by rw [e8]; decide) rfl ?_
    have h := h.2.2.2.2.2.2.2.2.1 e8
    refine Ev.iconst (pc' := 109) dX8_isSignByte_108 rfl ki_1 ?_
    exact Ef.zret (b := true) dX8_isSignByte_109 rfl h
  have h := h.2.2.2.2.2.2.2.2.2 e0 e1 e2 e3 e4 e5 e6 e7 e8
  by_cases f0 : a0 = 44
  · refine Ev.tableIn (off := 109) (tgt := 110) dX8_isSignByte_1 (by rw [f0]; decide) (by rw [f0]; decide) (by rw [f0]; decide) rfl ?_
    refine Ev.iconst (pc' := 111) dX8_isSignByte_110 rfl ki_0 ?_
    exact Ef.zret (b := false) dX8_isSignByte_111 rfl h
  by_cases f1 : a0 = 46
  · refine Ev.tableIn (off := 109) (tgt := 110) dX8_isSignByte_1 (by rw [f1]; decide) (by rw [f1]; decide) (by rw [f1]; decide) rfl ?_
    refine Ev.iconst (pc' := 111) dX8_isSignByte_110 rfl ki_0 ?_
    exact Ef.zret (b := false) dX8_isSignByte_111 rfl h
  by_cases f2 : a0 = 47
  · refine Ev.tableIn (off := 109) (tgt := 110) dX8_isSignByte_1 (by rw [f2]; decide) (by rw [f2]; decide) (by rw [f2]; decide) rfl ?_
    refine Ev.iconst (pc' := 111) dX8_isSignByte_110 rfl ki_0 ?_
    exact Ef.zret (b := false) dX8_isSignByte_111 rfl h
  by_cases f3 : a0 = 48
  · refine Ev.tableIn (off := 109) (tgt := 110) dX8_isSignByte_1 (by rw [f3]; decide) (by rw [f3]; decide) (by rw [f3]; decide) rfl ?_
    refine Ev.iconst (pc' := 111) dX8_isSignByte_110 rfl ki_0 ?_
    exact Ef.zret (b := false) dX8_isSignByte_111 rfl h
  by_cases f4 : a0 = 49
  · refine Ev.tableIn (off := 109) (tgt := 110) dX8_isSignByte_1 (by rw [f4]; decide) (by rw [f4]; decide) (by rw [f4]; decide) rfl ?_
    refine Ev.iconst (pc' := 111) dX8_isSignByte_110 rfl ki_0 ?_
    exact Ef.zret (b := false) dX8_isSignByte_111 rfl h
  by_cases f5 : a0 = 50
  · refine Ev.tableIn (off := 109) (tgt := 110) dX8_isSignByte_1 (by rw [f5]; decide) (by rw [f5]; decide) (by rw [f5]; decide) rfl ?_
    refine Ev.iconst (pc' := 111) dX8_isSignByte_110 rfl ki_0 ?_
    exact Ef.zret (b := false) dX8_isSignByte_111 rfl h
  by_cases f6 : a0 = 51
  · refine Ev.tableIn (off := 109) (tgt := 110) dX8_isSignByte_1 (by rw [f6]; decide) (by rw [f6]; decide) (by rw [f6]; decide) rfl ?_
    refine Ev.iconst (pc' := 111) dX8_isSignByte_110 rfl ki_0 ?_
    exact Ef.zret (b := false) dX8_isSignByte_111 rfl h
  by_cases f7 : a0 = 52
  · refine Ev.tableIn (off := 109) (tgt := 110) dX8_isSignByte_1 (by rw [f7]; decide) (by rw [f7]; decide) (by rw [f7]; decide) rfl ?_
    refine Ev.iconst (pc' := 111) dX8_isSignByte_110 rfl ki_0 ?_
    exact Ef.zret (b := false) dX8_isSignByte_111 rfl h
  by_cases f8 : a0 = 53
  · refine Ev.tableIn (off := 109) (tgt := 110) dX8_isSignByte_1 (by rw [f8]; decide) (by rw [f8]; decide) (by rw [f8]; decide) rfl ?_
    refine Ev.iconst (pc' := 111) dX8_isSignByte_110 rfl ki_0 ?_
    exact Ef.zret (b := false) dX8_isSignByte_111 rfl h
  by_cases f9 : a0 = 54
  · refine Ev.tableIn (off := 109) (tgt := 110) dX8_isSignByte_1 (by rw [f9]; decide) (by rw [f9]; decide) (by rw [f9]; decide) rfl ?_
    refine Ev.iconst (pc' := 111) dX8_isSignByte_110 rfl ki_0 ?_
    exact Ef.zret (b := false) dX8_isSignByte_111 rfl h
  by_cases f10 : a0 = 55
  · refine Ev.tableIn (off := 109) (tgt := 110) dX8_isSignByte_1 (by rw [f10]; decide) (by rw [f10]; decide) (by rw [f10]; decide) rfl ?_
    refine Ev.iconst (pc' := 111) dX8_isSignByte_110 rfl ki_0 ?_
    exact Ef.zret (b := false) dX8_isSignByte_111 rfl h
  by_cases f11 : a0 = 56
  · refine Ev.tableIn (off := 109) (tgt := 110) dX8_isSignByte_1 (by rw [f11]; decide) (by rw [f11]; decide) (by rw [f11]; decide) rfl ?_
    refine Ev.iconst (pc' := 111) dX8_isSignByte_110 rfl ki_0 ?_
    exact Ef.zret (b := false) dX8_isSignByte_111 rfl h
  by_cases f12 : a0 = 57
  · refine Ev.tableIn (off := 109) (tgt := 110) dX8_isSignByte_1 (by rw [f12]; decide) (by rw [f12]; decide) (by rw [f12]; decide) rfl ?_
    refine Ev.iconst (pc' := 111) dX8_isSignByte_110 rfl ki_0 ?_
    exact Ef.zret (b := false) dX8_isSignByte_111 rfl h
  by_cases f13 : a0 = 58
  · refine Ev.tableIn (off := 109) (tgt := 110) dX8_isSignByte_1 (by rw [f13]; decide) (by rw [f13]; decide) (by rw [f13]; decide) rfl ?_
    refine Ev.iconst (pc' := 111) dX8_isSignByte_110 rfl ki_0 ?_
    exact Ef.zret (b := false) dX8_isSignByte_111 rfl h
  refine Ev.tableOut (tgt := 110) dX8_isSignByte_1 (sw_out fun v h1 h2 => ?_) rfl ?_
  · have h3 : v = 40 ∨ v = 41 ∨ v = 42 ∨ v = 43 ∨ v = 44 ∨ v = 45 ∨ v = 46 ∨ v = 47 ∨ v = 48 ∨ v = 49 ∨ v = 50 ∨ v = 51 ∨ v = 52 ∨ v = 53 ∨ v = 54 ∨ v = 55 ∨ v = 56 ∨ v = 57 ∨ v = 58 ∨ v = 59 ∨ v = 60 ∨ v = 61 ∨ v = 62 := by omega
    rcases h3 with rfl | rfl | rfl | rfl | rfl | rfl | rfl | rfl | rfl | rfl | rfl | rfl | rfl | rfl | rfl | rfl | rfl | rfl | rfl | rfl | rfl | rfl | rfl
    · exact fun q => e0 (q.trans (by decide))
    · exact fun q => e1 (q.trans (by decide))
    · exact fun q => e2 (q.trans (by decide))
    · exact fun q => e3 (q.trans (by decide))
    · exact fun q => f0 (q.trans (by decide))
    · exact fun q => e4 (q.trans (by decide))
    · exact fun q => f1 (q.trans (by decide))
    · exact fun q => f2 (q.trans (by decide))
    · exact fun q => f3 (q.trans (by decide))
    · exact fun q => f4 (q.trans (by decide))
    · exact fun q => f5 (q.trans (by decide))
    · exact fun q => f6 (q.trans (by decide))
    · exact fun q => f7 (q.trans (by decide))
    · exact fun q => f8 (q.trans (by decide))
    · exact fun q => f9 (q.trans (by decide))
    · exact fun q => f10 (q.trans (by decide))
    · exact fun q => f11 (q.trans (by decide))
    · exact fun q => f12 (q.trans (by decide))
    · exact fun q => f13 (q.trans (by decide))
    · exact fun q => e5 (q.trans (by decide))
    · exact fun q => e6 (q.trans (by decide))
    · exact fun q => e7 (q.trans (by decide))
    · exact fun q => e8 (q.trans (by decide))
  · refine Ev.iconst (pc' := 111) dX8_isSignByte_110 rfl ki_0 ?_
    exact Ef.zret (b := false) dX8_isSignByte_111 rfl h
def wpX8_readNumber_b121 (Q : Ix → Lx → Prop) (t1 : Int32) (I : Ix) (L : Lx) : Prop := ∀ I1 : Ix, I1 = pu I 51 3 t1 → Q I1 L
def wpX8_readNumber_b110 (Q : Ix → Lx → Prop) (t0 : Int32) (I : Ix) (L : Lx) : Prop := (t0 = 0 → wpX8_readNumber_b121 Q 1 I L) ∧ (¬ t0 = 0 → wpX8_readNumber_b121 Q 4 I L)
def wpX8_readNumber_b109 (Q : Ix → Lx → Prop) (I : Ix) (L : Lx) : Prop := wpX8_readNumber_b110 Q 0 I L
def wpX8_readNumber_b75 (Q : Ix → Lx → Prop) (I : Ix) (L : Lx) : Prop := (4 < ((I 51 2) - (I 51 4)) → wpX8_readNumber_b109 Q I L) ∧ (¬ 4 < ((I 51 2) - (I 51 4)) → wpX7_byteAt (I 51 2) I L (fun r3 I1 L2 => wpX8_isLetter r3 I1 L2 (fun r6 I4 L5 => (r6 = true → wpX8_readNumber_b109 Q I4 L5) ∧ (r6 = false → wpX8_readNumber_b110 Q 1 I4 L5))))
def wpX8_readNumber_l5 (Q : Ix → Lx → Prop) (P5 : Ix → Lx → Prop) (I : Ix) (L : Lx) : Prop := ((I 1 1) ≤ (I 51 2) → wpX8_readNumber_b75 Q I L) ∧ (¬ (I 1 1) ≤ (I 51 2) → wpX7_byteAt (I 51 2) I L (fun r3 I1 L2 => wpX8_isDigit r3 I1 L2 (fun r6 I4 L5 => (r6 = false → wpX8_readNumber_b75 Q I4 L5) ∧ (r6 = true → wpX7_byteAt (I4 51 2) I4 L5 (fun r9 I7 L8 => ∀ I10 : Ix, I10 = pu I7 51 5 (((I4 51 5) * 10) + (r9 - 48)) → ∀ I11 : Ix, I11 = pu I10 51 2 ((I10 51 2) + 1) → P5 I11 L8)))))
def wpX8_readNumber_h5 (Q : Ix → Lx → Prop) (I : Ix) (L : Lx) : Prop := Lfp (X := Ix × Lx) (fun P z => wpX8_readNumber_l5 Q (fun I L => P (I, L)) z.1 z.2) (I, L)
theorem wpX8_readNumber_h5_fold {Q : Ix → Lx → Prop} {I : Ix} {L : Lx} (h : wpX8_readNumber_l5 Q (wpX8_readNumber_h5 Q) I L) : wpX8_readNumber_h5 Q I L := Lfp.fold h
def wpX8_readNumber (I : Ix) (L : Lx) (Q : Ix → Lx → Prop) : Prop := ∀ I1 : Ix, I1 = pu I 51 5 0 → wpX8_readNumber_h5 Q I1 L
set_option maxRecDepth 10000 in
theorem okX8_readNumber_b121 {G : Gx} {Q : Ix → Lx → Prop} {t1 : Int32} {I : Ix} {L : Lx} (h : wpX8_readNumber_b121 Q t1 I L) : Ef G MX8_readNumber (qV Q) 121 [] [.int t1, .ref 51] I L := by
  unfold wpX8_readNumber_b121 at h
  refine Ev.putI (pc' := 124) dX8_readNumber_121 rfl fa_RX8_54 ob_51 fk_8_3 rfl rfl (fun I1 eI1 => ?_)
  have h := h I1 eI1
  exact Ef.vret dX8_readNumber_124 rfl h
set_option maxRecDepth 10000 in
theorem okX8_readNumber_b110 {G : Gx} {Q : Ix → Lx → Prop} {t0 : Int32} {I : Ix} {L : Lx} (h : wpX8_readNumber_b110 Q t0 I L) : Ef G MX8_readNumber (qV Q) 110 [(0, .ref 51)] [.int t0] I L := by
  unfold wpX8_readNumber_b110 at h
  refine Ev.istore_n (ls' := [(1, .int _), (0, .ref _)]) (pc' := 111) dX8_readNumber_110 rfl rfl (Nat.le_of_ble_eq_true rfl) rfl ?_
  refine Ev.aload_n (k := 1) (pc' := 112) dX8_readNumber_111 rfl rfl rfl ?_
  refine Ev.iload_n (k := 0) (pc' := 113) dX8_readNumber_112 rfl rfl rfl ?_
  refine Ev.if_eq (pc' := 116) (tgt := 120) dX8_readNumber_113 rfl rfl (fun hc => ?_) (fun hc => ?_)
  · have h := h.1 hc
    refine Ev.iconst (pc' := 121) dX8_readNumber_120 rfl ki_1 ?_
    exact Ev.sub [] rfl (okX8_readNumber_b121 h)
  · have h := h.2 hc
    refine Ev.iconst (pc' := 117) dX8_readNumber_116 rfl ki_4 ?_
    refine Ev.goto (tgt := 121) dX8_readNumber_117 rfl ?_
    exact Ev.sub [] rfl (okX8_readNumber_b121 h)
set_option maxRecDepth 10000 in
theorem okX8_readNumber_b109 {G : Gx} {Q : Ix → Lx → Prop} {I : Ix} {L : Lx} (h : wpX8_readNumber_b109 Q I L) : Ef G MX8_readNumber (qV Q) 109 [(0, .ref 51)] [] I L := by
  unfold wpX8_readNumber_b109 at h
  refine Ev.iconst (pc' := 110) dX8_readNumber_109 rfl ki_0 ?_
  exact okX8_readNumber_b110 h
set_option maxRecDepth 10000 in
theorem okX8_readNumber_b75 {G : Gx} {Q : Ix → Lx → Prop} {I : Ix} {L : Lx} (h : wpX8_readNumber_b75 Q I L) : Ef G MX8_readNumber (qV Q) 75 [(0, .ref 51)] [] I L := by
  unfold wpX8_readNumber_b75 at h
  refine Ev.aload_n (k := 0) (pc' := 76) dX8_readNumber_75 rfl rfl rfl ?_
  refine Ev.getI (pc' := 79) dX8_readNumber_76 rfl fa_RX8_35 ob_51 fk_8_2 ?_
  refine Ev.aload_n (k := 0) (pc' := 80) dX8_readNumber_79 rfl rfl rfl ?_
  refine Ev.getI (pc' := 83) dX8_readNumber_80 rfl fa_RX8_45 ob_51 fk_8_4 ?_
  refine Ev.isub (pc' := 84) dX8_readNumber_83 rfl ?_
  refine Ev.iconst (pc' := 85) dX8_readNumber_84 rfl ki_4 ?_
  refine Ev.icmp_gt (pc' := 88) (tgt := 109) dX8_readNumber_85 rfl rfl (fun hc => ?_) (fun hc => ?_)
  · have h := h.1 hc
    exact okX8_readNumber_b109 h
  · have h := h.2 hc
    refine Ev.aload_n (k := 0) (pc' := 89) dX8_readNumber_88 rfl rfl rfl ?_
    refine Ev.getR (pc' := 92) dX8_readNumber_89 rfl fa_RX8_15 ob_51 fk_8_0 rf_51_0 ?_
    refine Ev.aload_n (k := 0) (pc' := 93) dX8_readNumber_92 rfl rfl rfl ?_
    refine Ev.getI (pc' := 96) dX8_readNumber_93 rfl fa_RX8_35 ob_51 fk_8_2 ?_
    refine Ef.callVI [.int _] [] (pc' := 99) dX8_readNumber_96 rfl cv_RX8_48_X7_byteAt ⟨Nat.le_of_ble_eq_true rfl, Nat.le_of_ble_eq_true rfl⟩ ob_1 rfl rfl rfl (Nat.le_of_ble_eq_true rfl) (okX7_byteAt h) (fun r3 I1 L2 h => ?_)
    refine Ef.callSZ [.int _] [] (pc' := 102) dX8_readNumber_99 rfl cv_RX8_27_X8_isLetter ⟨Nat.le_of_ble_eq_true rfl, Nat.le_of_ble_eq_true rfl⟩ rfl rfl (Nat.le_of_ble_eq_true rfl) (okX8_isLetter h) (fun r6 I4 L5 h => ?_)
    refine Ef.ifz_ne (pc' := 105) (tgt := 109) dX8_readNumber_102 rfl rfl (fun hc => ?_) (fun hc => ?_)
    · have h := h.1 hc
      exact okX8_readNumber_b109 h
    · have h := h.2 hc
      refine Ev.iconst (pc' := 106) dX8_readNumber_105 rfl ki_1 ?_
      refine Ev.goto (tgt := 110) dX8_readNumber_106 rfl ?_
      exact okX8_readNumber_b110 h
set_option maxRecDepth 10000 in
theorem okX8_readNumber_l5 {G : Gx} {Q : Ix → Lx → Prop} {P5 : Ix → Lx → Prop} (hP5 : ∀ (I : Ix) (L : Lx), P5 I L → Ef G MX8_readNumber (qV Q) 5 [(0, .ref 51)] [] I L) {I : Ix} {L : Lx} (h : wpX8_readNumber_l5 Q P5 I L) : Ef G MX8_readNumber (qV Q) 5 [(0, .ref 51)] [] I L := by
  unfold wpX8_readNumber_l5 at h
  refine Ev.aload_n (k := 0) (pc' := 6) dX8_readNumber_5 rfl rfl rfl ?_
  refine Ev.getI (pc' := 9) dX8_readNumber_6 rfl fa_RX8_35 ob_51 fk_8_2 ?_
  refine Ev.aload_n (k := 0) (pc' := 10) dX8_readNumber_9 rfl rfl rfl ?_
  refine Ev.getR (pc' := 13) dX8_readNumber_10 rfl fa_RX8_15 ob_51 fk_8_0 rf_51_0 ?_
  refine Ev.getI (pc' := 16) dX8_readNumber_13 rfl fa_RX8_72 ob_1 fk_7_1 ?_
  refine Ev.icmp_ge (pc' := 19) (tgt := 75) dX8_readNumber_16 rfl rfl (fun hc => ?_) (fun hc => ?_)
  · have h := h.1 hc
    exact okX8_readNumber_b75 h
  · have h := h.2 hc
    refine Ev.aload_n (k := 0) (pc' := 20) dX8_readNumber_19 rfl rfl rfl ?_
    refine Ev.getR (pc' := 23) dX8_readNumber_20 rfl fa_RX8_15 ob_51 fk_8_0 rf_51_0 ?_
    refine Ev.aload_n (k := 0) (pc' := 24) dX8_readNumber_23 rfl rfl rfl ?_
    refine Ev.getI (pc' := 27) dX8_readNumber_24 rfl fa_RX8_35 ob_51 fk_8_2 ?_
    refine Ef.callVI [.int _] [] (pc' := 30) dX8_readNumber_27 rfl cv_RX8_48_X7_byteAt ⟨Nat.le_of_ble_eq_true rfl, Nat.le_of_ble_eq_true rfl⟩ ob_1 rfl rfl rfl (Nat.le_of_ble_eq_true rfl) (okX7_byteAt h) (fun r3 I1 L2 h => ?_)
    refine Ef.callSZ [.int _] [] (pc' := 33) dX8_readNumber_30 rfl cv_RX8_60_X8_isDigit ⟨Nat.le_of_ble_eq_true rfl, Nat.le_of_ble_eq_true rfl⟩ rfl rfl (Nat.le_of_ble_eq_true rfl) (okX8_isDigit h) (fun r6 I4 L5 h => ?_)
    refine Ef.ifz_eq (pc' := 36) (tgt := 75) dX8_readNumber_33 rfl rfl (fun hc => ?_) (fun hc => ?_)
    · have h := h.1 hc
      exact okX8_readNumber_b75 h
    · have h := h.2 hc
      refine Ev.aload_n (k := 0) (pc' := 37) dX8_readNumber_36 rfl rfl rfl ?_
      refine Ev.aload_n (k := 0) (pc' := 38) dX8_readNumber_37 rfl rfl rfl ?_
      refine Ev.getI (pc' := 41) dX8_readNumber_38 rfl fa_RX8_69 ob_51 fk_8_5 ?_
      refine Ev.bipush (pc' := 43) dX8_readNumber_41 rfl kb_10 ?_
      refine Ev.imul (pc' := 44) dX8_readNumber_43 rfl ?_
      refine Ev.aload_n (k := 0) (pc' := 45) dX8_readNumber_44 rfl rfl rfl ?_
      refine Ev.getR (pc' := 48) dX8_readNumber_45 rfl fa_RX8_15 ob_51 fk_8_0 rf_51_0 ?_
      refine Ev.aload_n (k := 0) (pc' := 49) dX8_readNumber_48 rfl rfl rfl ?_
      refine Ev.getI (pc' := 52) dX8_readNumber_49 rfl fa_RX8_35 ob_51 fk_8_2 ?_
      refine Ef.callVI [.int _] [.int _, .ref _] (pc' := 55) dX8_readNumber_52 rfl cv_RX8_48_X7_byteAt ⟨Nat.le_of_ble_eq_true rfl, Nat.le_of_ble_eq_true rfl⟩ ob_1 rfl rfl rfl (Nat.le_of_ble_eq_true rfl) (okX7_byteAt h) (fun r9 I7 L8 h => ?_)
      refine Ev.bipush (pc' := 57) dX8_readNumber_55 rfl kb_48 ?_
      refine Ev.isub (pc' := 58) dX8_readNumber_57 rfl ?_
      refine Ev.iadd (pc' := 59) dX8_readNumber_58 rfl ?_
      refine Ev.putI (pc' := 62) dX8_readNumber_59 rfl fa_RX8_69 ob_51 fk_8_5 rfl rfl (fun I10 eI10 => ?_)
      have h := h I10 eI10
      refine Ev.aload_n (k := 0) (pc' := 63) dX8_readNumber_62 rfl rfl rfl ?_
      refine Ev.dup (pc' := 64) dX8_readNumber_63 rfl rfl ?_
      refine Ev.getI (pc' := 67) dX8_readNumber_64 rfl fa_RX8_35 ob_51 fk_8_2 ?_
      refine Ev.iconst (pc' := 68) dX8_readNumber_67 rfl ki_1 ?_
      refine Ev.iadd (pc' := 69) dX8_readNumber_68 rfl ?_
      refine Ev.putI (pc' := 72) dX8_readNumber_69 rfl fa_RX8_35 ob_51 fk_8_2 rfl rfl (fun I11 eI11 => ?_)
      have h := h I11 eI11
      refine Ev.goto (tgt := 5) dX8_readNumber_72 rfl ?_
      exact hP5 _ _ h
set_option maxRecDepth 10000 in
theorem okX8_readNumber_h5 {G : Gx} {Q : Ix → Lx → Prop} {I : Ix} {L : Lx} (h : wpX8_readNumber_h5 Q I L) : Ef G MX8_readNumber (qV Q) 5 [(0, .ref 51)] [] I L := by
  unfold wpX8_readNumber_h5 at h
  refine Lfp.ind (P := fun z => Ef G MX8_readNumber (qV Q) 5 [(0, .ref 51)] [] z.1 z.2) ?_ h
  intro z P' hP' h
  obtain ⟨I, L⟩ := z
  exact okX8_readNumber_l5 (fun I L h9 => hP' (I, L) h9) h
set_option maxRecDepth 10000 in
theorem okX8_readNumber {G : Gx} {I : Ix} {L : Lx} {Q : Ix → Lx → Prop} (h : wpX8_readNumber I L Q) : Mf G MX8_readNumber [.ref 51] I L (qV Q) := by
  unfold wpX8_readNumber at h
  refine Mf.of pn_RX8 (Nat.le_of_ble_eq_true rfl) ?_
  refine Ev.aload_n (k := 0) (pc' := 1) dX8_readNumber_0 rfl rfl rfl ?_
  refine Ev.iconst (pc' := 2) dX8_readNumber_1 rfl ki_0 ?_
  refine Ev.putI (pc' := 5) dX8_readNumber_2 rfl fa_RX8_69 ob_51 fk_8_5 rfl rfl (fun I1 eI1 => ?_)
  have h := h I1 eI1
  exact okX8_readNumber_h5 h
def wpX8_withLetter (a0 : Int64) (a2 : Int32) (I : Ix) (L : Lx) (Q : Int64 → Ix → Lx → Prop) : Prop := Q ((a0 * 32) + (((a2 - 97) + 1).toInt64)) I L
set_option maxRecDepth 10000 in
theorem okX8_withLetter {G : Gx} {a0 : Int64} {a2 : Int32} {I : Ix} {L : Lx} {Q : Int64 → Ix → Lx → Prop} (h : wpX8_withLetter a0 a2 I L Q) : Mf G MX8_withLetter [.long a0, .int a2] I L (qL Q) := by
  unfold wpX8_withLetter at h
  refine Mf.of pn_RX8 (Nat.le_of_ble_eq_true rfl) ?_
  refine Ev.lload_n (k := 0) (pc' := 1) dX8_withLetter_0 rfl rfl rfl ?_
  refine Ev.ldc2 (pc' := 4) dX8_withLetter_1 rfl ll_RX8_79 ?_
  refine Ev.lmul (pc' := 5) dX8_withLetter_4 rfl ?_
  refine Ev.iload_n (k := 1) (pc' := 6) dX8_withLetter_5 rfl rfl rfl ?_
  refine Ev.bipush (pc' := 8) dX8_withLetter_6 rfl kb_97 ?_
  refine Ev.isub (pc' := 9) dX8_withLetter_8 rfl ?_
  refine Ev.iconst (pc' := 10) dX8_withLetter_9 rfl ki_1 ?_
  refine Ev.iadd (pc' := 11) dX8_withLetter_10 rfl ?_
  refine Ev.i2l (pc' := 12) dX8_withLetter_11 rfl ?_
  refine Ev.ladd (pc' := 13) dX8_withLetter_12 rfl ?_
  exact Ef.lret dX8_withLetter_13 rfl h
def wpX8_readWord_l98 (Q : Ix → Lx → Prop) (P98 : Int32 → Ix → Lx → Prop) (v1 : Int32) (I : Ix) (L : Lx) : Prop := (28 ≤ v1 → Q I L) ∧ (¬ 28 ≤ v1 → vp_in v1 28 ∧ (¬ (L 52 v1.toNatClampNeg) = (L 51 6) → P98 (v1 + 1) I L) ∧ ((L 52 v1.toNatClampNeg) = (L 51 6) → ∀ I1 : Ix, I1 = pu I 51 3 2 → ∀ I2 : Ix, I2 = pu I1 51 5 v1 → P98 (v1 + 1) I2 L))
def wpX8_readWord_h98 (Q : Ix → Lx → Prop) (v1 : Int32) (I : Ix) (L : Lx) : Prop := Lfp (X := Int32 × Ix × Lx) (fun P z => wpX8_readWord_l98 Q (fun v1 I L => P (v1, I, L)) z.1 z.2.1 z.2.2) (v1, I, L)
theorem wpX8_readWord_h98_fold {Q : Ix → Lx → Prop} {v1 : Int32} {I : Ix} {L : Lx} (h : wpX8_readWord_l98 Q (wpX8_readWord_h98 Q) v1 I L) : wpX8_readWord_h98 Q v1 I L := Lfp.fold h
def wpX8_readWord_b71 (Q : Ix → Lx → Prop) (I : Ix) (L : Lx) : Prop := (((I 51 2) - (I 51 4)) ≤ 8 → ∀ I1 : Ix, I1 = pu I 51 3 3 → wpX8_readWord_h98 Q 0 I1 L) ∧ (¬ ((I 51 2) - (I 51 4)) ≤ 8 → ∀ I2 : Ix, I2 = pu I 51 3 1 → Q I2 L)
def wpX8_readWord_l5 (Q : Ix → Lx → Prop) (P5 : Ix → Lx → Prop) (I : Ix) (L : Lx) : Prop := ((I 1 1) ≤ (I 51 2) → wpX8_readWord_b71 Q I L) ∧ (¬ (I 1 1) ≤ (I 51 2) → wpX7_byteAt (I 51 2) I L (fun r3 I1 L2 => wpX8_isLetter r3 I1 L2 (fun r6 I4 L5 => (r6 = false → wpX8_readWord_b71 Q I4 L5) ∧ (r6 = true → wpX7_byteAt (I4 51 2) I4 L5 (fun r9 I7 L8 => wpX8_withLetter (L5 51 6) r9 I7 L8 (fun r12 I10 L11 => ∀ L13 : Lx, L13 = pu L11 51 6 r12 → ∀ I14 : Ix, I14 = pu I10 51 2 ((I10 51 2) + 1) → P5 I14 L13))))))
def wpX8_readWord_h5 (Q : Ix → Lx → Prop) (I : Ix) (L : Lx) : Prop := Lfp (X := Ix × Lx) (fun P z => wpX8_readWord_l5 Q (fun I L => P (I, L)) z.1 z.2) (I, L)
theorem wpX8_readWord_h5_fold {Q : Ix → Lx → Prop} {I : Ix} {L : Lx} (h : wpX8_readWord_l5 Q (wpX8_readWord_h5 Q) I L) : wpX8_readWord_h5 Q I L := Lfp.fold h
def wpX8_readWord (I : Ix) (L : Lx) (Q : Ix → Lx → Prop) : Prop := ∀ L1 : Lx, L1 = pu L 51 6 0 → wpX8_readWord_h5 Q I L1
set_option maxRecDepth 10000 in
theorem okX8_readWord_l98 {G : Gx} {Q : Ix → Lx → Prop} {P98 : Int32 → Ix → Lx → Prop} (hP98 : ∀ (v1 : Int32) (I : Ix) (L : Lx), P98 v1 I L → Ef G MX8_readWord (qV Q) 98 [(0, .ref 51), (1, .int v1)] [] I L) {v1 : Int32} {I : Ix} {L : Lx} (h : wpX8_readWord_l98 Q P98 v1 I L) : Ef G MX8_readWord (qV Q) 98 [(0, .ref 51), (1, .int v1)] [] I L := by
  unfold wpX8_readWord_l98 at h
  refine Ev.iload_n (k := 1) (pc' := 99) dX8_readWord_98 rfl rfl rfl ?_
  refine Ev.bipush (pc' := 101) dX8_readWord_99 rfl kb_28 ?_
  refine Ev.icmp_ge (pc' := 104) (tgt := 134) dX8_readWord_101 rfl rfl (fun hc => ?_) (fun hc => ?_)
  · have h := h.1 hc
    exact Ef.vret dX8_readWord_134 rfl h
  · have h := h.2 hc
    refine Ev.aload_n (k := 0) (pc' := 105) dX8_readWord_104 rfl rfl rfl ?_
    refine Ev.getR (pc' := 108) dX8_readWord_105 rfl fa_RX8_9 ob_51 fk_8_1 rf_51_1 ?_
    refine Ev.iload_n (k := 1) (pc' := 109) dX8_readWord_108 rfl rfl rfl ?_
    refine Ev.laload (j := _) (pc' := 110) dX8_readWord_109 rfl ar_52 h.1 rfl ?_
    have h := h.2
    refine Ev.aload_n (k := 0) (pc' := 111) dX8_readWord_110 rfl rfl rfl ?_
    refine Ev.getL (pc' := 114) dX8_readWord_111 rfl fa_RX8_75 ob_51 fk_8_6 ?_
    refine Ef.lc_ne (pc1 := 115) (pc' := 118) (tgt := 128) dX8_readWord_114 rfl dX8_readWord_115 rfl rfl (fun hc => ?_) (fun hc => ?_)
    · have h := h.1 hc
      refine Ev.iinc (k := 1) (v := _) (ls' := [(1, .int _), (0, .ref _)]) (pc' := 131) dX8_readWord_128 rfl rfl (congrArg (_ + ·) ki_1) (Nat.le_of_ble_eq_true rfl) rfl ?_
      refine Ev.goto (tgt := 98) dX8_readWord_131 rfl ?_
      exact Ev.sub [1, 0] rfl (hP98 _ _ _ h)
    · have h := h.2 hc
      refine Ev.aload_n (k := 0) (pc' := 119) dX8_readWord_118 rfl rfl rfl ?_
      refine Ev.iconst (pc' := 120) dX8_readWord_119 rfl ki_2 ?_
      refine Ev.putI (pc' := 123) dX8_readWord_120 rfl fa_RX8_54 ob_51 fk_8_3 rfl rfl (fun I1 eI1 => ?_)
      have h := h I1 eI1
      refine Ev.aload_n (k := 0) (pc' := 124) dX8_readWord_123 rfl rfl rfl ?_
      refine Ev.iload_n (k := 1) (pc' := 125) dX8_readWord_124 rfl rfl rfl ?_
      refine Ev.putI (pc' := 128) dX8_readWord_125 rfl fa_RX8_69 ob_51 fk_8_5 rfl rfl (fun I2 eI2 => ?_)
      have h := h I2 eI2
      refine Ev.iinc (k := 1) (v := _) (ls' := [(1, .int _), (0, .ref _)]) (pc' := 131) dX8_readWord_128 rfl rfl (congrArg (_ + ·) ki_1) (Nat.le_of_ble_eq_true rfl) rfl ?_
      refine Ev.goto (tgt := 98) dX8_readWord_131 rfl ?_
      exact Ev.sub [1, 0] rfl (hP98 _ _ _ h)
set_option maxRecDepth 10000 in
theorem okX8_readWord_h98 {G : Gx} {Q : Ix → Lx → Prop} {v1 : Int32} {I : Ix} {L : Lx} (h : wpX8_readWord_h98 Q v1 I L) : Ef G MX8_readWord (qV Q) 98 [(0, .ref 51), (1, .int v1)] [] I L := by
  unfold wpX8_readWord_h98 at h
  refine Lfp.ind (P := fun z => Ef G MX8_readWord (qV Q) 98 [(0, .ref 51), (1, .int z.1)] [] z.2.1 z.2.2) ?_ h
  intro z P' hP' h
  obtain ⟨v1, I, L⟩ := z
  exact okX8_readWord_l98 (fun v1 I L h9 => hP' (v1, I, L) h9) h
set_option maxRecDepth 10000 in
theorem okX8_readWord_b71 {G : Gx} {Q : Ix → Lx → Prop} {I : Ix} {L : Lx} (h : wpX8_readWord_b71 Q I L) : Ef G MX8_readWord (qV Q) 71 [(0, .ref 51)] [] I L := by
  unfold wpX8_readWord_b71 at h
  refine Ev.aload_n (k := 0) (pc' := 72) dX8_readWord_71 rfl rfl rfl ?_
  refine Ev.getI (pc' := 75) dX8_readWord_72 rfl fa_RX8_35 ob_51 fk_8_2 ?_
  refine Ev.aload_n (k := 0) (pc' := 76) dX8_readWord_75 rfl rfl rfl ?_
  refine Ev.getI (pc' := 79) dX8_readWord_76 rfl fa_RX8_45 ob_51 fk_8_4 ?_
  refine Ev.isub (pc' := 80) dX8_readWord_79 rfl ?_
  refine Ev.bipush (pc' := 82) dX8_readWord_80 rfl kb_8 ?_
  refine Ev.icmp_le (pc' := 85) (tgt := 91) dX8_readWord_82 rfl rfl (fun hc => ?_) (fun hc => ?_)
  · have h := h.1 hc
    refine Ev.aload_n (k := 0) (pc' := 92) dX8_readWord_91 rfl rfl rfl ?_
    refine Ev.iconst (pc' := 93) dX8_readWord_92 rfl ki_3 ?_
    refine Ev.putI (pc' := 96) dX8_readWord_93 rfl fa_RX8_54 ob_51 fk_8_3 rfl rfl (fun I1 eI1 => ?_)
    have h := h I1 eI1
    refine Ev.iconst (pc' := 97) dX8_readWord_96 rfl ki_0 ?_
    refine Ev.istore_n (ls' := [(1, .int _), (0, .ref _)]) (pc' := 98) dX8_readWord_97 rfl rfl (Nat.le_of_ble_eq_true rfl) rfl ?_
    exact Ev.sub [1, 0] rfl (okX8_readWord_h98 h)
  · have h := h.2 hc
    refine Ev.aload_n (k := 0) (pc' := 86) dX8_readWord_85 rfl rfl rfl ?_
    refine Ev.iconst (pc' := 87) dX8_readWord_86 rfl ki_1 ?_
    refine Ev.putI (pc' := 90) dX8_readWord_87 rfl fa_RX8_54 ob_51 fk_8_3 rfl rfl (fun I2 eI2 => ?_)
    have h := h I2 eI2
    exact Ef.vret dX8_readWord_90 rfl h
set_option maxRecDepth 10000 in
theorem okX8_readWord_l5 {G : Gx} {Q : Ix → Lx → Prop} {P5 : Ix → Lx → Prop} (hP5 : ∀ (I : Ix) (L : Lx), P5 I L → Ef G MX8_readWord (qV Q) 5 [(0, .ref 51)] [] I L) {I : Ix} {L : Lx} (h : wpX8_readWord_l5 Q P5 I L) : Ef G MX8_readWord (qV Q) 5 [(0, .ref 51)] [] I L := by
  unfold wpX8_readWord_l5 at h
  refine Ev.aload_n (k := 0) (pc' := 6) dX8_readWord_5 rfl rfl rfl ?_
  refine Ev.getI (pc' := 9) dX8_readWord_6 rfl fa_RX8_35 ob_51 fk_8_2 ?_
  refine Ev.aload_n (k := 0) (pc' := 10) dX8_readWord_9 rfl rfl rfl ?_
  refine Ev.getR (pc' := 13) dX8_readWord_10 rfl fa_RX8_15 ob_51 fk_8_0 rf_51_0 ?_
  refine Ev.getI (pc' := 16) dX8_readWord_13 rfl fa_RX8_72 ob_1 fk_7_1 ?_
  refine Ev.icmp_ge (pc' := 19) (tgt := 71) dX8_readWord_16 rfl rfl (fun hc => ?_) (fun hc => ?_)
  · have h := h.1 hc
    exact okX8_readWord_b71 h
  · have h := h.2 hc
    refine Ev.aload_n (k := 0) (pc' := 20) dX8_readWord_19 rfl rfl rfl ?_
    refine Ev.getR (pc' := 23) dX8_readWord_20 rfl fa_RX8_15 ob_51 fk_8_0 rf_51_0 ?_
    refine Ev.aload_n (k := 0) (pc' := 24) dX8_readWord_23 rfl rfl rfl ?_
    refine Ev.getI (pc' := 27) dX8_readWord_24 rfl fa_RX8_35 ob_51 fk_8_2 ?_
    refine Ef.callVI [.int _] [] (pc' := 30) dX8_readWord_27 rfl cv_RX8_48_X7_byteAt ⟨Nat.le_of_ble_eq_true rfl, Nat.le_of_ble_eq_true rfl⟩ ob_1 rfl rfl rfl (Nat.le_of_ble_eq_true rfl) (okX7_byteAt h) (fun r3 I1 L2 h => ?_)
    refine Ef.callSZ [.int _] [] (pc' := 33) dX8_readWord_30 rfl cv_RX8_27_X8_isLetter ⟨Nat.le_of_ble_eq_true rfl, Nat.le_of_ble_eq_true rfl⟩ rfl rfl (Nat.le_of_ble_eq_true rfl) (okX8_isLetter h) (fun r6 I4 L5 h => ?_)
    refine Ef.ifz_eq (pc' := 36) (tgt := 71) dX8_readWord_33 rfl rfl (fun hc => ?_) (fun hc => ?_)
    · have h := h.1 hc
      exact okX8_readWord_b71 h
    · have h := h.2 hc
      refine Ev.aload_n (k := 0) (pc' := 37) dX8_readWord_36 rfl rfl rfl ?_
      refine Ev.aload_n (k := 0) (pc' := 38) dX8_readWord_37 rfl rfl rfl ?_
      refine Ev.getL (pc' := 41) dX8_readWord_38 rfl fa_RX8_75 ob_51 fk_8_6 ?_
      refine Ev.aload_n (k := 0) (pc' := 42) dX8_readWord_41 rfl rfl rfl ?_
      refine Ev.getR (pc' := 45) dX8_readWord_42 rfl fa_RX8_15 ob_51 fk_8_0 rf_51_0 ?_
      refine Ev.aload_n (k := 0) (pc' := 46) dX8_readWord_45 rfl rfl rfl ?_
      refine Ev.getI (pc' := 49) dX8_readWord_46 rfl fa_RX8_35 ob_51 fk_8_2 ?_
      refine Ef.callVI [.int _] [.long _, .ref _] (pc' := 52) dX8_readWord_49 rfl cv_RX8_48_X7_byteAt ⟨Nat.le_of_ble_eq_true rfl, Nat.le_of_ble_eq_true rfl⟩ ob_1 rfl rfl rfl (Nat.le_of_ble_eq_true rfl) (okX7_byteAt h) (fun r9 I7 L8 h => ?_)
      refine Ef.callSL [.long _, .int _] [.ref _] (pc' := 55) dX8_readWord_52 rfl cv_RX8_31_X8_withLetter ⟨Nat.le_of_ble_eq_true rfl, Nat.le_of_ble_eq_true rfl⟩ rfl rfl (Nat.le_of_ble_eq_true rfl) (okX8_withLetter h) (fun r12 I10 L11 h => ?_)
      refine Ev.putL (pc' := 58) dX8_readWord_55 rfl fa_RX8_75 ob_51 fk_8_6 (fun L13 eL13 => ?_)
      have h := h L13 eL13
      refine Ev.aload_n (k := 0) (pc' := 59) dX8_readWord_58 rfl rfl rfl ?_
      refine Ev.dup (pc' := 60) dX8_readWord_59 rfl rfl ?_
      refine Ev.getI (pc' := 63) dX8_readWord_60 rfl fa_RX8_35 ob_51 fk_8_2 ?_
      refine Ev.iconst (pc' := 64) dX8_readWord_63 rfl ki_1 ?_
      refine Ev.iadd (pc' := 65) dX8_readWord_64 rfl ?_
      refine Ev.putI (pc' := 68) dX8_readWord_65 rfl fa_RX8_35 ob_51 fk_8_2 rfl rfl (fun I14 eI14 => ?_)
      have h := h I14 eI14
      refine Ev.goto (tgt := 5) dX8_readWord_68 rfl ?_
      exact hP5 _ _ h
set_option maxRecDepth 10000 in
theorem okX8_readWord_h5 {G : Gx} {Q : Ix → Lx → Prop} {I : Ix} {L : Lx} (h : wpX8_readWord_h5 Q I L) : Ef G MX8_readWord (qV Q) 5 [(0, .ref 51)] [] I L := by
  unfold wpX8_readWord_h5 at h
  refine Lfp.ind (P := fun z => Ef G MX8_readWord (qV Q) 5 [(0, .ref 51)] [] z.1 z.2) ?_ h
  intro z P' hP' h
  obtain ⟨I, L⟩ := z
  exact okX8_readWord_l5 (fun I L h9 => hP' (I, L) h9) h
set_option maxRecDepth 10000 in
theorem okX8_readWord {G : Gx} {I : Ix} {L : Lx} {Q : Ix → Lx → Prop} (h : wpX8_readWord I L Q) : Mf G MX8_readWord [.ref 51] I L (qV Q) := by
  unfold wpX8_readWord at h
  refine Mf.of pn_RX8 (Nat.le_of_ble_eq_true rfl) ?_
  refine Ev.aload_n (k := 0) (pc' := 1) dX8_readWord_0 rfl rfl rfl ?_
  refine Ev.lconst (v := 0) (pc' := 2) dX8_readWord_1 rfl rfl ?_
  refine Ev.putL (pc' := 5) dX8_readWord_2 rfl fa_RX8_75 ob_51 fk_8_6 (fun L1 eL1 => ?_)
  have h := h L1 eL1
  exact okX8_readWord_h5 h
def wpX8_step_b78 (Q : Ix → Lx → Prop) (v1 : Int32) (t1 : Int32) (I : Ix) (L : Lx) : Prop := ∀ I1 : Ix, I1 = pu I 51 3 t1 → ∀ I2 : Ix, I2 = pu I1 51 5 v1 → ∀ I3 : Ix, I3 = pu I2 51 2 ((I2 51 2) + 1) → Q I3 L
def wpX8_step (I : Ix) (L : Lx) (Q : Ix → Lx → Prop) : Prop := wpX8_skipBlanks I L (fun I1 L2 => ∀ I3 : Ix, I3 = pu I1 51 4 (I1 51 2) → wpX7_byteAt (I3 51 2) I3 L2 (fun r6 I4 L5 => (¬ r6 = (-1) → wpX8_isLetter r6 I4 L5 (fun r9 I7 L8 => (r9 = false → wpX8_isDigit r6 I7 L8 (fun r12 I10 L11 => (r12 = false → wpX8_isSignByte r6 I10 L11 (fun r15 I13 L14 => (r15 = false → wpX8_step_b78 Q r6 1 I13 L14) ∧ (r15 = true → wpX8_step_b78 Q r6 5 I13 L14))) ∧ (r12 = true → wpX8_readNumber I10 L11 (fun I16 L17 => Q I16 L17)))) ∧ (r9 = true → wpX8_readWord I7 L8 (fun I18 L19 => Q I18 L19)))) ∧ (r6 = (-1) → ∀ I20 : Ix, I20 = pu I4 51 3 0 → Q I20 L5)))
set_option maxRecDepth 10000 in
theorem okX8_step_b78 {G : Gx} {Q : Ix → Lx → Prop} {v1 : Int32} {t1 : Int32} {I : Ix} {L : Lx} (h : wpX8_step_b78 Q v1 t1 I L) : Ef G MX8_step (qV Q) 78 [(0, .ref 51), (1, .int v1)] [.int t1, .ref 51] I L := by
  unfold wpX8_step_b78 at h
  refine Ev.putI (pc' := 81) dX8_step_78 rfl fa_RX8_54 ob_51 fk_8_3 rfl rfl (fun I1 eI1 => ?_)
  have h := h I1 eI1
  refine Ev.aload_n (k := 0) (pc' := 82) dX8_step_81 rfl rfl rfl ?_
  refine Ev.iload_n (k := 1) (pc' := 83) dX8_step_82 rfl rfl rfl ?_
  refine Ev.putI (pc' := 86) dX8_step_83 rfl fa_RX8_69 ob_51 fk_8_5 rfl rfl (fun I2 eI2 => ?_)
  have h := h I2 eI2
  refine Ev.aload_n (k := 0) (pc' := 87) dX8_step_86 rfl rfl rfl ?_
  refine Ev.dup (pc' := 88) dX8_step_87 rfl rfl ?_
  refine Ev.getI (pc' := 91) dX8_step_88 rfl fa_RX8_35 ob_51 fk_8_2 ?_
  refine Ev.iconst (pc' := 92) dX8_step_91 rfl ki_1 ?_
  refine Ev.iadd (pc' := 93) dX8_step_92 rfl ?_
  refine Ev.putI (pc' := 96) dX8_step_93 rfl fa_RX8_35 ob_51 fk_8_2 rfl rfl (fun I3 eI3 => ?_)
  have h := h I3 eI3
  exact Ef.vret dX8_step_96 rfl h
set_option maxRecDepth 10000 in
theorem okX8_step {G : Gx} {I : Ix} {L : Lx} {Q : Ix → Lx → Prop} (h : wpX8_step I L Q) : Mf G MX8_step [.ref 51] I L (qV Q) := by
  unfold wpX8_step at h
  refine Mf.of pn_RX8 (Nat.le_of_ble_eq_true rfl) ?_
  refine Ev.aload_n (k := 0) (pc' := 1) dX8_step_0 rfl rfl rfl ?_
  refine Ef.callVV [] [] (pc' := 4) dX8_step_1 rfl cv_RX8_42_X8_skipBlanks ⟨Nat.le_of_ble_eq_true rfl, Nat.le_of_ble_eq_true rfl⟩ ob_51 rfl rfl rfl (Nat.le_of_ble_eq_true rfl) (okX8_skipBlanks h) (fun I1 L2 h => ?_)
  refine Ev.aload_n (k := 0) (pc' := 5) dX8_step_4 rfl rfl rfl ?_
  refine Ev.aload_n (k := 0) (pc' := 6) dX8_step_5 rfl rfl rfl ?_
  refine Ev.getI (pc' := 9) dX8_step_6 rfl fa_RX8_35 ob_51 fk_8_2 ?_
  refine Ev.putI (pc' := 12) dX8_step_9 rfl fa_RX8_45 ob_51 fk_8_4 rfl rfl (fun I3 eI3 => ?_)
  have h := h I3 eI3
  refine Ev.aload_n (k := 0) (pc' := 13) dX8_step_12 rfl rfl rfl ?_
  refine Ev.getR (pc' := 16) dX8_step_13 rfl fa_RX8_15 ob_51 fk_8_0 rf_51_0 ?_
  refine Ev.aload_n (k := 0) (pc' := 17) dX8_step_16 rfl rfl rfl ?_
  refine Ev.getI (pc' := 20) dX8_step_17 rfl fa_RX8_35 ob_51 fk_8_2 ?_
  refine Ef.callVI [.int _] [] (pc' := 23) dX8_step_20 rfl cv_RX8_48_X7_byteAt ⟨Nat.le_of_ble_eq_true rfl, Nat.le_of_ble_eq_true rfl⟩ ob_1 rfl rfl rfl (Nat.le_of_ble_eq_true rfl) (okX7_byteAt h) (fun r6 I4 L5 h => ?_)
  refine Ev.istore_n (ls' := [(1, .int _), (0, .ref _)]) (pc' := 24) dX8_step_23 rfl rfl (Nat.le_of_ble_eq_true rfl) rfl ?_
  refine Ev.iload_n (k := 0) (pc' := 25) dX8_step_24 rfl rfl rfl ?_
  refine Ev.iconst (pc' := 26) dX8_step_25 rfl ki_m1 ?_
  refine Ev.icmp_ne (pc' := 29) (tgt := 37) dX8_step_26 rfl rfl (fun hc => ?_) (fun hc => ?_)
  · have h := h.1 hc
    refine Ev.iload_n (k := 0) (pc' := 38) dX8_step_37 rfl rfl rfl ?_
    refine Ef.callSZ [.int _] [] (pc' := 41) dX8_step_38 rfl cv_RX8_27_X8_isLetter ⟨Nat.le_of_ble_eq_true rfl, Nat.le_of_ble_eq_true rfl⟩ rfl rfl (Nat.le_of_ble_eq_true rfl) (okX8_isLetter h) (fun r9 I7 L8 h => ?_)
    refine Ef.ifz_eq (pc' := 44) (tgt := 51) dX8_step_41 rfl rfl (fun hc => ?_) (fun hc => ?_)
    · have h := h.1 hc
      refine Ev.iload_n (k := 0) (pc' := 52) dX8_step_51 rfl rfl rfl ?_
      refine Ef.callSZ [.int _] [] (pc' := 55) dX8_step_52 rfl cv_RX8_60_X8_isDigit ⟨Nat.le_of_ble_eq_true rfl, Nat.le_of_ble_eq_true rfl⟩ rfl rfl (Nat.le_of_ble_eq_true rfl) (okX8_isDigit h) (fun r12 I10 L11 h => ?_)
      refine Ef.ifz_eq (pc' := 58) (tgt := 65) dX8_step_55 rfl rfl (fun hc => ?_) (fun hc => ?_)
      · have h := h.1 hc
        refine Ev.aload_n (k := 1) (pc' := 66) dX8_step_65 rfl rfl rfl ?_
        refine Ev.iload_n (k := 0) (pc' := 67) dX8_step_66 rfl rfl rfl ?_
        refine Ef.callSZ [.int _] [.ref _] (pc' := 70) dX8_step_67 rfl cv_RX8_66_X8_isSignByte ⟨Nat.le_of_ble_eq_true rfl, Nat.le_of_ble_eq_true rfl⟩ rfl rfl (Nat.le_of_ble_eq_true rfl) (okX8_isSignByte h) (fun r15 I13 L14 h => ?_)
        refine Ef.ifz_eq (pc' := 73) (tgt := 77) dX8_step_70 rfl rfl (fun hc => ?_) (fun hc => ?_)
        · have h := h.1 hc
          refine Ev.iconst (pc' := 78) dX8_step_77 rfl ki_1 ?_
          exact Ev.sub [1, 0] rfl (okX8_step_b78 h)
        · have h := h.2 hc
          refine Ev.iconst (pc' := 74) dX8_step_73 rfl ki_5 ?_
          refine Ev.goto (tgt := 78) dX8_step_74 rfl ?_
          exact Ev.sub [1, 0] rfl (okX8_step_b78 h)
      · have h := h.2 hc
        refine Ev.aload_n (k := 1) (pc' := 59) dX8_step_58 rfl rfl rfl ?_
        refine Ef.callVV [] [] (pc' := 62) dX8_step_59 rfl cv_RX8_63_X8_readNumber ⟨Nat.le_of_ble_eq_true rfl, Nat.le_of_ble_eq_true rfl⟩ ob_51 rfl rfl rfl (Nat.le_of_ble_eq_true rfl) (okX8_readNumber h) (fun I16 L17 h => ?_)
        refine Ev.goto (tgt := 96) dX8_step_62 rfl ?_
        exact Ef.vret dX8_step_96 rfl h
    · have h := h.2 hc
      refine Ev.aload_n (k := 1) (pc' := 45) dX8_step_44 rfl rfl rfl ?_
      refine Ef.callVV [] [] (pc' := 48) dX8_step_45 rfl cv_RX8_57_X8_readWord ⟨Nat.le_of_ble_eq_true rfl, Nat.le_of_ble_eq_true rfl⟩ ob_51 rfl rfl rfl (Nat.le_of_ble_eq_true rfl) (okX8_readWord h) (fun I18 L19 h => ?_)
      refine Ev.goto (tgt := 96) dX8_step_48 rfl ?_
      exact Ef.vret dX8_step_96 rfl h
  · have h := h.2 hc
    refine Ev.aload_n (k := 1) (pc' := 30) dX8_step_29 rfl rfl rfl ?_
    refine Ev.iconst (pc' := 31) dX8_step_30 rfl ki_0 ?_
    refine Ev.putI (pc' := 34) dX8_step_31 rfl fa_RX8_54 ob_51 fk_8_3 rfl rfl (fun I20 eI20 => ?_)
    have h := h I20 eI20
    refine Ev.goto (tgt := 96) dX8_step_34 rfl ?_
    exact Ef.vret dX8_step_96 rfl h
def wpX3_refuse_b17 (Q : Bool → Ix → Lx → Prop) (t1 : Int32) (I : Ix) (L : Lx) : Prop := ∀ I1 : Ix, I1 = pu I 49 7 t1 → ∀ I2 : Ix, I2 = pu I1 49 8 (I1 51 4) → Q false I2 L
def wpX3_refuse (a1 : Int32) (I : Ix) (L : Lx) (Q : Bool → Ix → Lx → Prop) : Prop := (¬ (I 51 3) = 1 → wpX3_refuse_b17 Q a1 I L) ∧ ((I 51 3) = 1 → wpX3_refuse_b17 Q 1 I L)
set_option maxRecDepth 10000 in
theorem okX3_refuse_b17 {G : Gx} {Q : Bool → Ix → Lx → Prop} {t1 : Int32} {I : Ix} {L : Lx} (h : wpX3_refuse_b17 Q t1 I L) : Ef G MX3_refuse (qZ Q) 17 [(0, .ref 49)] [.int t1, .ref 49] I L := by
  unfold wpX3_refuse_b17 at h
  refine Ev.putI (pc' := 20) dX3_refuse_17 rfl fa_RX3_54 ob_49 fk_3_7 rfl rfl (fun I1 eI1 => ?_)
  have h := h I1 eI1
  refine Ev.aload_n (k := 0) (pc' := 21) dX3_refuse_20 rfl rfl rfl ?_
  refine Ev.aload_n (k := 0) (pc' := 22) dX3_refuse_21 rfl rfl rfl ?_
  refine Ev.getR (pc' := 25) dX3_refuse_22 rfl fa_RX3_24 ob_49 fk_3_0 rf_49_0 ?_
  refine Ev.getI (pc' := 28) dX3_refuse_25 rfl fa_RX3_72 ob_51 fk_8_4 ?_
  refine Ev.putI (pc' := 31) dX3_refuse_28 rfl fa_RX3_15 ob_49 fk_3_8 rfl rfl (fun I2 eI2 => ?_)
  have h := h I2 eI2
  refine Ev.iconst (pc' := 32) dX3_refuse_31 rfl ki_0 ?_
  exact Ef.zret (b := false) dX3_refuse_32 rfl h
set_option maxRecDepth 10000 in
theorem okX3_refuse {G : Gx} {a1 : Int32} {I : Ix} {L : Lx} {Q : Bool → Ix → Lx → Prop} (h : wpX3_refuse a1 I L Q) : Mf G MX3_refuse [.ref 49, .int a1] I L (qZ Q) := by
  unfold wpX3_refuse at h
  refine Mf.of pn_RX3 (Nat.le_of_ble_eq_true rfl) ?_
  refine Ev.aload_n (k := 0) (pc' := 1) dX3_refuse_0 rfl rfl rfl ?_
  refine Ev.aload_n (k := 0) (pc' := 2) dX3_refuse_1 rfl rfl rfl ?_
  refine Ev.getR (pc' := 5) dX3_refuse_2 rfl fa_RX3_24 ob_49 fk_3_0 rf_49_0 ?_
  refine Ev.getI (pc' := 8) dX3_refuse_5 rfl fa_RX3_60 ob_51 fk_8_3 ?_
  refine Ev.iconst (pc' := 9) dX3_refuse_8 rfl ki_1 ?_
  refine Ev.icmp_ne (pc' := 12) (tgt := 16) dX3_refuse_9 rfl rfl (fun hc => ?_) (fun hc => ?_)
  · have h := h.1 hc
    refine Ev.iload_n (k := 1) (pc' := 17) dX3_refuse_16 rfl rfl rfl ?_
    exact Ev.sub [0] rfl (okX3_refuse_b17 h)
  · have h := h.2 hc
    refine Ev.iconst (pc' := 13) dX3_refuse_12 rfl ki_1 ?_
    refine Ev.goto (tgt := 17) dX3_refuse_13 rfl ?_
    exact Ev.sub [0] rfl (okX3_refuse_b17 h)
def wpX3_newName_l19 (r1 : Nat) (N1 : Nat) (Q : Bool → Ix → Lx → Prop) (P19 : Int32 → Int32 → Ix → Lx → Prop) (v2 : Int32) (v3 : Int32) (I : Ix) (L : Lx) : Prop := (v2 ≤ v3 → vp_in v2 N1 ∧ ∀ L1 : Lx, L1 = pu L r1 v2.toNatClampNeg (L 51 6) → wpX8_step I L1 (fun I2 L3 => Q true I2 L3)) ∧ (¬ v2 ≤ v3 → vp_in v3 N1 ∧ (¬ (L r1 v3.toNatClampNeg) = (L 51 6) → P19 v2 (v3 + 1) I L) ∧ ((L r1 v3.toNatClampNeg) = (L 51 6) → wpX3_refuse 3 I L (fun r6 I4 L5 => Q r6 I4 L5)))
def wpX3_newName_h19 (r1 : Nat) (N1 : Nat) (Q : Bool → Ix → Lx → Prop) (v2 : Int32) (v3 : Int32) (I : Ix) (L : Lx) : Prop := Lfp (X := Int32 × Int32 × Ix × Lx) (fun P z => wpX3_newName_l19 r1 N1 Q (fun v2 v3 I L => P (v2, v3, I, L)) z.1 z.2.1 z.2.2.1 z.2.2.2) (v2, v3, I, L)
theorem wpX3_newName_h19_fold {r1 : Nat} {N1 : Nat} {Q : Bool → Ix → Lx → Prop} {v2 : Int32} {v3 : Int32} {I : Ix} {L : Lx} (h : wpX3_newName_l19 r1 N1 Q (wpX3_newName_h19 r1 N1 Q) v2 v3 I L) : wpX3_newName_h19 r1 N1 Q v2 v3 I L := Lfp.fold h
def wpX3_newName (r1 : Nat) (N1 : Nat) (a2 : Int32) (I : Ix) (L : Lx) (Q : Bool → Ix → Lx → Prop) : Prop := ((I 51 3) = 3 → wpX3_newName_h19 r1 N1 Q a2 0 I L) ∧ (¬ (I 51 3) = 3 → wpX3_refuse 2 I L (fun r3 I1 L2 => Q r3 I1 L2))
set_option maxRecDepth 10000 in
theorem okX3_newName_l19 {G : Gx} {r1 : Nat} {N1 : Nat} (hr1 : AR 178 r1 1 N1) {Q : Bool → Ix → Lx → Prop} {P19 : Int32 → Int32 → Ix → Lx → Prop} (hP19 : ∀ (v2 : Int32) (v3 : Int32) (I : Ix) (L : Lx), P19 v2 v3 I L → Ef G MX3_newName (qZ Q) 19 [(0, .ref 49), (1, .ref r1), (2, .int v2), (3, .int v3)] [] I L) {v2 : Int32} {v3 : Int32} {I : Ix} {L : Lx} (h : wpX3_newName_l19 r1 N1 Q P19 v2 v3 I L) : Ef G MX3_newName (qZ Q) 19 [(0, .ref 49), (1, .ref r1), (2, .int v2), (3, .int v3)] [] I L := by
  unfold wpX3_newName_l19 at h
  refine Ev.iload_n (k := 3) (pc' := 20) dX3_newName_19 rfl rfl rfl ?_
  refine Ev.iload_n (k := 2) (pc' := 21) dX3_newName_20 rfl rfl rfl ?_
  refine Ev.icmp_ge (pc' := 24) (tgt := 50) dX3_newName_21 rfl rfl (fun hc => ?_) (fun hc => ?_)
  · have h := h.1 hc
    refine Ev.aload_n (k := 1) (pc' := 51) dX3_newName_50 rfl rfl rfl ?_
    refine Ev.iload_n (k := 2) (pc' := 52) dX3_newName_51 rfl rfl rfl ?_
    refine Ev.aload_n (k := 0) (pc' := 53) dX3_newName_52 rfl rfl rfl ?_
    refine Ev.getR (pc' := 56) dX3_newName_53 rfl fa_RX3_24 ob_49 fk_3_0 rf_49_0 ?_
    refine Ev.getL (pc' := 59) dX3_newName_56 rfl fa_RX3_212 ob_51 fk_8_6 ?_
    refine Ev.lastore (j := _) (pc' := 60) dX3_newName_59 rfl hr1 h.1 rfl (fun L1 eL1 => ?_)
    have h := h.2 L1 eL1
    refine Ev.aload_n (k := 0) (pc' := 61) dX3_newName_60 rfl rfl rfl ?_
    refine Ev.getR (pc' := 64) dX3_newName_61 rfl fa_RX3_24 ob_49 fk_3_0 rf_49_0 ?_
    refine Ef.callVV [] [] (pc' := 67) dX3_newName_64 rfl cv_RX3_103_X8_step ⟨Nat.le_of_ble_eq_true rfl, Nat.le_of_ble_eq_true rfl⟩ ob_51 rfl rfl rfl (Nat.le_of_ble_eq_true rfl) (okX8_step h) (fun I2 L3 h => ?_)
    refine Ev.iconst (pc' := 68) dX3_newName_67 rfl ki_1 ?_
    exact Ef.zret (b := true) dX3_newName_68 rfl h
  · have h := h.2 hc
    refine Ev.aload_n (k := 1) (pc' := 25) dX3_newName_24 rfl rfl rfl ?_
    refine Ev.iload_n (k := 3) (pc' := 26) dX3_newName_25 rfl rfl rfl ?_
    refine Ev.laload (j := _) (pc' := 27) dX3_newName_26 rfl hr1 h.1 rfl ?_
    have h := h.2
    refine Ev.aload_n (k := 0) (pc' := 28) dX3_newName_27 rfl rfl rfl ?_
    refine Ev.getR (pc' := 31) dX3_newName_28 rfl fa_RX3_24 ob_49 fk_3_0 rf_49_0 ?_
    refine Ev.getL (pc' := 34) dX3_newName_31 rfl fa_RX3_212 ob_51 fk_8_6 ?_
    refine Ef.lc_ne (pc1 := 35) (pc' := 38) (tgt := 44) dX3_newName_34 rfl dX3_newName_35 rfl rfl (fun hc => ?_) (fun hc => ?_)
    · have h := h.1 hc
      refine Ev.iinc (k := 3) (v := _) (ls' := [(3, .int _), (0, .ref _), (1, .ref _), (2, .int _)]) (pc' := 47) dX3_newName_44 rfl rfl (congrArg (_ + ·) ki_1) (Nat.le_of_ble_eq_true rfl) rfl ?_
      refine Ev.goto (tgt := 19) dX3_newName_47 rfl ?_
      exact Ev.sub [1, 2, 3, 0] rfl (hP19 _ _ _ _ h)
    · have h := h.2 hc
      refine Ev.aload_n (k := 0) (pc' := 39) dX3_newName_38 rfl rfl rfl ?_
      refine Ev.iconst (pc' := 40) dX3_newName_39 rfl ki_3 ?_
      refine Ef.callVZ [.int _] [] (pc' := 43) dX3_newName_40 rfl cv_RX3_75_X3_refuse ⟨Nat.le_of_ble_eq_true rfl, Nat.le_of_ble_eq_true rfl⟩ ob_49 rfl rfl rfl (Nat.le_of_ble_eq_true rfl) (okX3_refuse h) (fun r6 I4 L5 h => ?_)
      exact Ef.zret dX3_newName_43 rfl h
set_option maxRecDepth 10000 in
theorem okX3_newName_h19 {G : Gx} {r1 : Nat} {N1 : Nat} (hr1 : AR 178 r1 1 N1) {Q : Bool → Ix → Lx → Prop} {v2 : Int32} {v3 : Int32} {I : Ix} {L : Lx} (h : wpX3_newName_h19 r1 N1 Q v2 v3 I L) : Ef G MX3_newName (qZ Q) 19 [(0, .ref 49), (1, .ref r1), (2, .int v2), (3, .int v3)] [] I L := by
  unfold wpX3_newName_h19 at h
  refine Lfp.ind (P := fun z => Ef G MX3_newName (qZ Q) 19 [(0, .ref 49), (1, .ref r1), (2, .int z.1), (3, .int z.2.1)] [] z.2.2.1 z.2.2.2) ?_ h
  intro z P' hP' h
  obtain ⟨v2, v3, I, L⟩ := z
  exact okX3_newName_l19 hr1 (fun v2 v3 I L h9 => hP' (v2, v3, I, L) h9) h
set_option maxRecDepth 10000 in
theorem okX3_newName {G : Gx} {r1 : Nat} {N1 : Nat} (hr1 : AR 178 r1 1 N1) {a2 : Int32} {I : Ix} {L : Lx} {Q : Bool → Ix → Lx → Prop} (h : wpX3_newName r1 N1 a2 I L Q) : Mf G MX3_newName [.ref 49, .ref r1, .int a2] I L (qZ Q) := by
  unfold wpX3_newName at h
  refine Mf.of pn_RX3 (Nat.le_of_ble_eq_true rfl) ?_
  refine Ev.aload_n (k := 0) (pc' := 1) dX3_newName_0 rfl rfl rfl ?_
  refine Ev.getR (pc' := 4) dX3_newName_1 rfl fa_RX3_24 ob_49 fk_3_0 rf_49_0 ?_
  refine Ev.getI (pc' := 7) dX3_newName_4 rfl fa_RX3_60 ob_51 fk_8_3 ?_
  refine Ev.iconst (pc' := 8) dX3_newName_7 rfl ki_3 ?_
  refine Ev.icmp_eq (pc' := 11) (tgt := 17) dX3_newName_8 rfl rfl (fun hc => ?_) (fun hc => ?_)
  · have h := h.1 hc
    refine Ev.iconst (pc' := 18) dX3_newName_17 rfl ki_0 ?_
    refine Ev.istore_n (ls' := [(3, .int _), (0, .ref _), (1, .ref _), (2, .int _)]) (pc' := 19) dX3_newName_18 rfl rfl (Nat.le_of_ble_eq_true rfl) rfl ?_
    exact Ev.sub [1, 2, 3, 0] rfl (okX3_newName_h19 hr1 h)
  · have h := h.2 hc
    refine Ev.aload_n (k := 0) (pc' := 12) dX3_newName_11 rfl rfl rfl ?_
    refine Ev.iconst (pc' := 13) dX3_newName_12 rfl ki_2 ?_
    refine Ef.callVZ [.int _] [] (pc' := 16) dX3_newName_13 rfl cv_RX3_75_X3_refuse ⟨Nat.le_of_ble_eq_true rfl, Nat.le_of_ble_eq_true rfl⟩ ob_49 rfl rfl rfl (Nat.le_of_ble_eq_true rfl) (okX3_refuse h) (fun r3 I1 L2 h => ?_)
    exact Ef.zret dX3_newName_16 rfl h
def wpX8_isWord (a1 : Int32) (I : Ix) (L : Lx) (Q : Bool → Ix → Lx → Prop) : Prop := (¬ (I 51 3) = 2 → Q false I L) ∧ ((I 51 3) = 2 → (¬ (I 51 5) = a1 → Q false I L) ∧ ((I 51 5) = a1 → Q true I L))
set_option maxRecDepth 10000 in
theorem okX8_isWord {G : Gx} {a1 : Int32} {I : Ix} {L : Lx} {Q : Bool → Ix → Lx → Prop} (h : wpX8_isWord a1 I L Q) : Mf G MX8_isWord [.ref 51, .int a1] I L (qZ Q) := by
  unfold wpX8_isWord at h
  refine Mf.of pn_RX8 (Nat.le_of_ble_eq_true rfl) ?_
  refine Ev.aload_n (k := 0) (pc' := 1) dX8_isWord_0 rfl rfl rfl ?_
  refine Ev.getI (pc' := 4) dX8_isWord_1 rfl fa_RX8_54 ob_51 fk_8_3 ?_
  refine Ev.iconst (pc' := 5) dX8_isWord_4 rfl ki_2 ?_
  refine Ev.icmp_ne (pc' := 8) (tgt := 20) dX8_isWord_5 rfl rfl (fun hc => ?_) (fun hc => ?_)
  · have h := h.1 hc
    refine Ev.iconst (pc' := 21) dX8_isWord_20 rfl ki_0 ?_
    exact Ef.zret (b := false) dX8_isWord_21 rfl h
  · have h := h.2 hc
    refine Ev.aload_n (k := 0) (pc' := 9) dX8_isWord_8 rfl rfl rfl ?_
    refine Ev.getI (pc' := 12) dX8_isWord_9 rfl fa_RX8_69 ob_51 fk_8_5 ?_
    refine Ev.iload_n (k := 1) (pc' := 13) dX8_isWord_12 rfl rfl rfl ?_
    refine Ev.icmp_ne (pc' := 16) (tgt := 20) dX8_isWord_13 rfl rfl (fun hc => ?_) (fun hc => ?_)
    · have h := h.1 hc
      refine Ev.iconst (pc' := 21) dX8_isWord_20 rfl ki_0 ?_
      exact Ef.zret (b := false) dX8_isWord_21 rfl h
    · have h := h.2 hc
      refine Ev.iconst (pc' := 17) dX8_isWord_16 rfl ki_1 ?_
      refine Ev.goto (tgt := 21) dX8_isWord_17 rfl ?_
      exact Ef.zret (b := true) dX8_isWord_21 rfl h
def wpX3_number_b65 (r1 : Nat) (N1 : Nat) (Q : Bool → Ix → Lx → Prop) (I : Ix) (L : Lx) : Prop := wpX3_refuse 4 I L (fun r3 I1 L2 => Q r3 I1 L2)
def wpX3_number (r1 : Nat) (N1 : Nat) (a2 : Int32) (a3 : Int32) (a4 : Int32) (a5 : Int32) (I : Ix) (L : Lx) (Q : Bool → Ix → Lx → Prop) : Prop := wpX8_isWord a3 I L (fun r3 I1 L2 => (r3 = true → wpX8_step I1 L2 (fun I4 L5 => ((I4 51 3) = 4 → ((I4 51 5) < a4 → wpX3_number_b65 r1 N1 Q I4 L5) ∧ (¬ (I4 51 5) < a4 → ((I4 51 5) ≤ a5 → vp_in a2 N1 ∧ ∀ I6 : Ix, I6 = pu I4 r1 a2.toNatClampNeg (I4 51 5) → wpX8_step I6 L5 (fun I7 L8 => Q true I7 L8)) ∧ (¬ (I4 51 5) ≤ a5 → wpX3_number_b65 r1 N1 Q I4 L5))) ∧ (¬ (I4 51 3) = 4 → wpX3_refuse 2 I4 L5 (fun r11 I9 L10 => Q r11 I9 L10)))) ∧ (r3 = false → wpX3_refuse 2 I1 L2 (fun r14 I12 L13 => Q r14 I12 L13)))
set_option maxRecDepth 10000 in
theorem okX3_number_b65 {G : Gx} {r1 : Nat} {N1 : Nat} (hr1 : AR 178 r1 0 N1) {Q : Bool → Ix → Lx → Prop} {I : Ix} {L : Lx} (h : wpX3_number_b65 r1 N1 Q I L) : Ef G MX3_number (qZ Q) 65 [(0, .ref 49)] [] I L := by
  unfold wpX3_number_b65 at h
  refine Ev.aload_n (k := 0) (pc' := 66) dX3_number_65 rfl rfl rfl ?_
  refine Ev.iconst (pc' := 67) dX3_number_66 rfl ki_4 ?_
  refine Ef.callVZ [.int _] [] (pc' := 70) dX3_number_67 rfl cv_RX3_75_X3_refuse ⟨Nat.le_of_ble_eq_true rfl, Nat.le_of_ble_eq_true rfl⟩ ob_49 rfl rfl rfl (Nat.le_of_ble_eq_true rfl) (okX3_refuse h) (fun r3 I1 L2 h => ?_)
  exact Ef.zret dX3_number_70 rfl h
set_option maxRecDepth 10000 in
theorem okX3_number {G : Gx} {r1 : Nat} {N1 : Nat} (hr1 : AR 178 r1 0 N1) {a2 : Int32} {a3 : Int32} {a4 : Int32} {a5 : Int32} {I : Ix} {L : Lx} {Q : Bool → Ix → Lx → Prop} (h : wpX3_number r1 N1 a2 a3 a4 a5 I L Q) : Mf G MX3_number [.ref 49, .ref r1, .int a2, .int a3, .int a4, .int a5] I L (qZ Q) := by
  unfold wpX3_number at h
  refine Mf.of pn_RX3 (Nat.le_of_ble_eq_true rfl) ?_
  refine Ev.aload_n (k := 0) (pc' := 1) dX3_number_0 rfl rfl rfl ?_
  refine Ev.getR (pc' := 4) dX3_number_1 rfl fa_RX3_24 ob_49 fk_3_0 rf_49_0 ?_
  refine Ev.iload_n (k := 3) (pc' := 5) dX3_number_4 rfl rfl rfl ?_
  refine Ef.callVZ [.int _] [] (pc' := 8) dX3_number_5 rfl cv_RX3_165_X8_isWord ⟨Nat.le_of_ble_eq_true rfl, Nat.le_of_ble_eq_true rfl⟩ ob_51 rfl rfl rfl (Nat.le_of_ble_eq_true rfl) (okX8_isWord h) (fun r3 I1 L2 h => ?_)
  refine Ef.ifz_ne (pc' := 11) (tgt := 17) dX3_number_8 rfl rfl (fun hc => ?_) (fun hc => ?_)
  · have h := h.1 hc
    refine Ev.aload_n (k := 0) (pc' := 18) dX3_number_17 rfl rfl rfl ?_
    refine Ev.getR (pc' := 21) dX3_number_18 rfl fa_RX3_24 ob_49 fk_3_0 rf_49_0 ?_
    refine Ef.callVV [] [] (pc' := 24) dX3_number_21 rfl cv_RX3_103_X8_step ⟨Nat.le_of_ble_eq_true rfl, Nat.le_of_ble_eq_true rfl⟩ ob_51 rfl rfl rfl (Nat.le_of_ble_eq_true rfl) (okX8_step h) (fun I4 L5 h => ?_)
    refine Ev.aload_n (k := 0) (pc' := 25) dX3_number_24 rfl rfl rfl ?_
    refine Ev.getR (pc' := 28) dX3_number_25 rfl fa_RX3_24 ob_49 fk_3_0 rf_49_0 ?_
    refine Ev.getI (pc' := 31) dX3_number_28 rfl fa_RX3_60 ob_51 fk_8_3 ?_
    refine Ev.iconst (pc' := 32) dX3_number_31 rfl ki_4 ?_
    refine Ev.icmp_eq (pc' := 35) (tgt := 41) dX3_number_32 rfl rfl (fun hc => ?_) (fun hc => ?_)
    · have h := h.1 hc
      refine Ev.aload_n (k := 0) (pc' := 42) dX3_number_41 rfl rfl rfl ?_
      refine Ev.getR (pc' := 45) dX3_number_42 rfl fa_RX3_24 ob_49 fk_3_0 rf_49_0 ?_
      refine Ev.getI (pc' := 48) dX3_number_45 rfl fa_RX3_79 ob_51 fk_8_5 ?_
      refine Ev.iload (k := 4) (pc' := 50) dX3_number_48 rfl rfl ?_
      refine Ev.icmp_lt (pc' := 53) (tgt := 65) dX3_number_50 rfl rfl (fun hc => ?_) (fun hc => ?_)
      · have h := h.1 hc
        exact Ev.sub [0] rfl (okX3_number_b65 hr1 h)
      · have h := h.2 hc
        refine Ev.aload_n (k := 0) (pc' := 54) dX3_number_53 rfl rfl rfl ?_
        refine Ev.getR (pc' := 57) dX3_number_54 rfl fa_RX3_24 ob_49 fk_3_0 rf_49_0 ?_
        refine Ev.getI (pc' := 60) dX3_number_57 rfl fa_RX3_79 ob_51 fk_8_5 ?_
        refine Ev.iload (k := 5) (pc' := 62) dX3_number_60 rfl rfl ?_
        refine Ev.icmp_le (pc' := 65) (tgt := 71) dX3_number_62 rfl rfl (fun hc => ?_) (fun hc => ?_)
        · have h := h.1 hc
          refine Ev.aload_n (k := 1) (pc' := 72) dX3_number_71 rfl rfl rfl ?_
          refine Ev.iload_n (k := 2) (pc' := 73) dX3_number_72 rfl rfl rfl ?_
          refine Ev.aload_n (k := 0) (pc' := 74) dX3_number_73 rfl rfl rfl ?_
          refine Ev.getR (pc' := 77) dX3_number_74 rfl fa_RX3_24 ob_49 fk_3_0 rf_49_0 ?_
          refine Ev.getI (pc' := 80) dX3_number_77 rfl fa_RX3_79 ob_51 fk_8_5 ?_
          refine Ev.iastore (j := _) (pc' := 81) dX3_number_80 rfl hr1 h.1 rfl (fun I6 eI6 => ?_)
          have h := h.2 I6 eI6
          refine Ev.aload_n (k := 0) (pc' := 82) dX3_number_81 rfl rfl rfl ?_
          refine Ev.getR (pc' := 85) dX3_number_82 rfl fa_RX3_24 ob_49 fk_3_0 rf_49_0 ?_
          refine Ef.callVV [] [] (pc' := 88) dX3_number_85 rfl cv_RX3_103_X8_step ⟨Nat.le_of_ble_eq_true rfl, Nat.le_of_ble_eq_true rfl⟩ ob_51 rfl rfl rfl (Nat.le_of_ble_eq_true rfl) (okX8_step h) (fun I7 L8 h => ?_)
          refine Ev.iconst (pc' := 89) dX3_number_88 rfl ki_1 ?_
          exact Ef.zret (b := true) dX3_number_89 rfl h
        · have h := h.2 hc
          exact Ev.sub [0] rfl (okX3_number_b65 hr1 h)
    · have h := h.2 hc
      refine Ev.aload_n (k := 0) (pc' := 36) dX3_number_35 rfl rfl rfl ?_
      refine Ev.iconst (pc' := 37) dX3_number_36 rfl ki_2 ?_
      refine Ef.callVZ [.int _] [] (pc' := 40) dX3_number_37 rfl cv_RX3_75_X3_refuse ⟨Nat.le_of_ble_eq_true rfl, Nat.le_of_ble_eq_true rfl⟩ ob_49 rfl rfl rfl (Nat.le_of_ble_eq_true rfl) (okX3_refuse h) (fun r11 I9 L10 h => ?_)
      exact Ef.zret dX3_number_40 rfl h
  · have h := h.2 hc
    refine Ev.aload_n (k := 0) (pc' := 12) dX3_number_11 rfl rfl rfl ?_
    refine Ev.iconst (pc' := 13) dX3_number_12 rfl ki_2 ?_
    refine Ef.callVZ [.int _] [] (pc' := 16) dX3_number_13 rfl cv_RX3_75_X3_refuse ⟨Nat.le_of_ble_eq_true rfl, Nat.le_of_ble_eq_true rfl⟩ ob_49 rfl rfl rfl (Nat.le_of_ble_eq_true rfl) (okX3_refuse h) (fun r14 I12 L13 h => ?_)
    exact Ef.zret dX3_number_16 rfl h
def wpX8_isSign (a1 : Int32) (I : Ix) (L : Lx) (Q : Bool → Ix → Lx → Prop) : Prop := (¬ (I 51 3) = 5 → Q false I L) ∧ ((I 51 3) = 5 → (¬ (I 51 5) = a1 → Q false I L) ∧ ((I 51 5) = a1 → Q true I L))
set_option maxRecDepth 10000 in
theorem okX8_isSign {G : Gx} {a1 : Int32} {I : Ix} {L : Lx} {Q : Bool → Ix → Lx → Prop} (h : wpX8_isSign a1 I L Q) : Mf G MX8_isSign [.ref 51, .int a1] I L (qZ Q) := by
  unfold wpX8_isSign at h
  refine Mf.of pn_RX8 (Nat.le_of_ble_eq_true rfl) ?_
  refine Ev.aload_n (k := 0) (pc' := 1) dX8_isSign_0 rfl rfl rfl ?_
  refine Ev.getI (pc' := 4) dX8_isSign_1 rfl fa_RX8_54 ob_51 fk_8_3 ?_
  refine Ev.iconst (pc' := 5) dX8_isSign_4 rfl ki_5 ?_
  refine Ev.icmp_ne (pc' := 8) (tgt := 20) dX8_isSign_5 rfl rfl (fun hc => ?_) (fun hc => ?_)
  · have h := h.1 hc
    refine Ev.iconst (pc' := 21) dX8_isSign_20 rfl ki_0 ?_
    exact Ef.zret (b := false) dX8_isSign_21 rfl h
  · have h := h.2 hc
    refine Ev.aload_n (k := 0) (pc' := 9) dX8_isSign_8 rfl rfl rfl ?_
    refine Ev.getI (pc' := 12) dX8_isSign_9 rfl fa_RX8_69 ob_51 fk_8_5 ?_
    refine Ev.iload_n (k := 1) (pc' := 13) dX8_isSign_12 rfl rfl rfl ?_
    refine Ev.icmp_ne (pc' := 16) (tgt := 20) dX8_isSign_13 rfl rfl (fun hc => ?_) (fun hc => ?_)
    · have h := h.1 hc
      refine Ev.iconst (pc' := 21) dX8_isSign_20 rfl ki_0 ?_
      exact Ef.zret (b := false) dX8_isSign_21 rfl h
    · have h := h.2 hc
      refine Ev.iconst (pc' := 17) dX8_isSign_16 rfl ki_1 ?_
      refine Ev.goto (tgt := 21) dX8_isSign_17 rfl ?_
      exact Ef.zret (b := true) dX8_isSign_21 rfl h
def wpX3_sign (a1 : Int32) (I : Ix) (L : Lx) (Q : Bool → Ix → Lx → Prop) : Prop := wpX8_isSign a1 I L (fun r3 I1 L2 => (r3 = true → wpX8_step I1 L2 (fun I4 L5 => Q true I4 L5)) ∧ (r3 = false → wpX3_refuse 2 I1 L2 (fun r8 I6 L7 => Q r8 I6 L7)))
set_option maxRecDepth 10000 in
theorem okX3_sign {G : Gx} {a1 : Int32} {I : Ix} {L : Lx} {Q : Bool → Ix → Lx → Prop} (h : wpX3_sign a1 I L Q) : Mf G MX3_sign [.ref 49, .int a1] I L (qZ Q) := by
  unfold wpX3_sign at h
  refine Mf.of pn_RX3 (Nat.le_of_ble_eq_true rfl) ?_
  refine Ev.aload_n (k := 0) (pc' := 1) dX3_sign_0 rfl rfl rfl ?_
  refine Ev.getR (pc' := 4) dX3_sign_1 rfl fa_RX3_24 ob_49 fk_3_0 rf_49_0 ?_
  refine Ev.iload_n (k := 1) (pc' := 5) dX3_sign_4 rfl rfl rfl ?_
  refine Ef.callVZ [.int _] [] (pc' := 8) dX3_sign_5 rfl cv_RX3_209_X8_isSign ⟨Nat.le_of_ble_eq_true rfl, Nat.le_of_ble_eq_true rfl⟩ ob_51 rfl rfl rfl (Nat.le_of_ble_eq_true rfl) (okX8_isSign h) (fun r3 I1 L2 h => ?_)
  refine Ef.ifz_ne (pc' := 11) (tgt := 17) dX3_sign_8 rfl rfl (fun hc => ?_) (fun hc => ?_)
  · have h := h.1 hc
    refine Ev.aload_n (k := 0) (pc' := 18) dX3_sign_17 rfl rfl rfl ?_
    refine Ev.getR (pc' := 21) dX3_sign_18 rfl fa_RX3_24 ob_49 fk_3_0 rf_49_0 ?_
    refine Ef.callVV [] [] (pc' := 24) dX3_sign_21 rfl cv_RX3_103_X8_step ⟨Nat.le_of_ble_eq_true rfl, Nat.le_of_ble_eq_true rfl⟩ ob_51 rfl rfl rfl (Nat.le_of_ble_eq_true rfl) (okX8_step h) (fun I4 L5 h => ?_)
    refine Ev.iconst (pc' := 25) dX3_sign_24 rfl ki_1 ?_
    exact Ef.zret (b := true) dX3_sign_25 rfl h
  · have h := h.2 hc
    refine Ev.aload_n (k := 0) (pc' := 12) dX3_sign_11 rfl rfl rfl ?_
    refine Ev.iconst (pc' := 13) dX3_sign_12 rfl ki_2 ?_
    refine Ef.callVZ [.int _] [] (pc' := 16) dX3_sign_13 rfl cv_RX3_75_X3_refuse ⟨Nat.le_of_ble_eq_true rfl, Nat.le_of_ble_eq_true rfl⟩ ob_49 rfl rfl rfl (Nat.le_of_ble_eq_true rfl) (okX3_refuse h) (fun r8 I6 L7 h => ?_)
    exact Ef.zret dX3_sign_16 rfl h
def wpX3_placeLine (I : Ix) (L : Lx) (Q : Bool → Ix → Lx → Prop) : Prop := ((I 27 0) < 8 → wpX8_step I L (fun I1 L2 => wpX3_newName 28 8 (I 27 0) I1 L2 (fun r5 I3 L4 => (r5 = false → Q false I3 L4) ∧ (r5 = true → wpX3_number 29 8 (I 27 0) 10 0 59 I3 L4 (fun r8 I6 L7 => (r8 = true → ∀ I9 : Ix, I9 = pu I6 27 0 ((I6 27 0) + 1) → wpX3_sign 59 I9 L7 (fun r12 I10 L11 => Q r12 I10 L11)) ∧ (r8 = false → Q false I6 L7)))))) ∧ (¬ (I 27 0) < 8 → wpX3_refuse 2 I L (fun r15 I13 L14 => Q r15 I13 L14))
set_option maxRecDepth 10000 in
theorem okX3_placeLine {G : Gx} {I : Ix} {L : Lx} {Q : Bool → Ix → Lx → Prop} (h : wpX3_placeLine I L Q) : Mf G MX3_placeLine [.ref 49] I L (qZ Q) := by
  unfold wpX3_placeLine at h
  refine Mf.of pn_RX3 (Nat.le_of_ble_eq_true rfl) ?_
  refine Ev.aload_n (k := 0) (pc' := 1) dX3_placeLine_0 rfl rfl rfl ?_
  refine Ev.getR (pc' := 4) dX3_placeLine_1 rfl fa_RX3_38 ob_49 fk_3_2 rf_49_2 ?_
  refine Ev.getI (pc' := 7) dX3_placeLine_4 rfl fa_RX3_100 ob_27 fk_1_0 ?_
  refine Ev.istore_n (ls' := [(1, .int _), (0, .ref _)]) (pc' := 8) dX3_placeLine_7 rfl rfl (Nat.le_of_ble_eq_true rfl) rfl ?_
  refine Ev.iload_n (k := 0) (pc' := 9) dX3_placeLine_8 rfl rfl rfl ?_
  refine Ev.bipush (pc' := 11) dX3_placeLine_9 rfl kb_8 ?_
  refine Ev.icmp_lt (pc' := 14) (tgt := 20) dX3_placeLine_11 rfl rfl (fun hc => ?_) (fun hc => ?_)
  · have h := h.1 hc
    refine Ev.aload_n (k := 1) (pc' := 21) dX3_placeLine_20 rfl rfl rfl ?_
    refine Ev.getR (pc' := 24) dX3_placeLine_21 rfl fa_RX3_24 ob_49 fk_3_0 rf_49_0 ?_
    refine Ef.callVV [] [] (pc' := 27) dX3_placeLine_24 rfl cv_RX3_103_X8_step ⟨Nat.le_of_ble_eq_true rfl, Nat.le_of_ble_eq_true rfl⟩ ob_51 rfl rfl rfl (Nat.le_of_ble_eq_true rfl) (okX8_step h) (fun I1 L2 h => ?_)
    refine Ev.aload_n (k := 1) (pc' := 28) dX3_placeLine_27 rfl rfl rfl ?_
    refine Ev.aload_n (k := 1) (pc' := 29) dX3_placeLine_28 rfl rfl rfl ?_
    refine Ev.getR (pc' := 32) dX3_placeLine_29 rfl fa_RX3_38 ob_49 fk_3_2 rf_49_2 ?_
    refine Ev.getR (pc' := 35) dX3_placeLine_32 rfl fa_RX3_106 ob_27 fk_1_2 rf_27_2 ?_
    refine Ev.iload_n (k := 0) (pc' := 36) dX3_placeLine_35 rfl rfl rfl ?_
    refine Ef.callVZ [.ref _, .int _] [] (pc' := 39) dX3_placeLine_36 rfl cv_RX3_110_X3_newName ⟨Nat.le_of_ble_eq_true rfl, Nat.le_of_ble_eq_true rfl⟩ ob_49 rfl rfl rfl (Nat.le_of_ble_eq_true rfl) (okX3_newName ar_28 h) (fun r5 I3 L4 h => ?_)
    refine Ef.ifz_eq (pc' := 42) (tgt := 62) dX3_placeLine_39 rfl rfl (fun hc => ?_) (fun hc => ?_)
    · have h := h.1 hc
      refine Ev.iconst (pc' := 63) dX3_placeLine_62 rfl ki_0 ?_
      exact Ef.zret (b := false) dX3_placeLine_63 rfl h
    · have h := h.2 hc
      refine Ev.aload_n (k := 1) (pc' := 43) dX3_placeLine_42 rfl rfl rfl ?_
      refine Ev.aload_n (k := 1) (pc' := 44) dX3_placeLine_43 rfl rfl rfl ?_
      refine Ev.getR (pc' := 47) dX3_placeLine_44 rfl fa_RX3_38 ob_49 fk_3_2 rf_49_2 ?_
      refine Ev.getR (pc' := 50) dX3_placeLine_47 rfl fa_RX3_114 ob_27 fk_1_3 rf_27_3 ?_
      refine Ev.iload_n (k := 0) (pc' := 51) dX3_placeLine_50 rfl rfl rfl ?_
      refine Ev.bipush (pc' := 53) dX3_placeLine_51 rfl kb_10 ?_
      refine Ev.iconst (pc' := 54) dX3_placeLine_53 rfl ki_0 ?_
      refine Ev.bipush (pc' := 56) dX3_placeLine_54 rfl kb_59 ?_
      refine Ef.callVZ [.ref _, .int _, .int _, .int _, .int _] [] (pc' := 59) dX3_placeLine_56 rfl cv_RX3_117_X3_number ⟨Nat.le_of_ble_eq_true rfl, Nat.le_of_ble_eq_true rfl⟩ ob_49 rfl rfl rfl (Nat.le_of_ble_eq_true rfl) (okX3_number ar_29 h) (fun r8 I6 L7 h => ?_)
      refine Ef.ifz_ne (pc' := 62) (tgt := 64) dX3_placeLine_59 rfl rfl (fun hc => ?_) (fun hc => ?_)
      · have h := h.1 hc
        refine Ev.aload_n (k := 1) (pc' := 65) dX3_placeLine_64 rfl rfl rfl ?_
        refine Ev.getR (pc' := 68) dX3_placeLine_65 rfl fa_RX3_38 ob_49 fk_3_2 rf_49_2 ?_
        refine Ev.dup (pc' := 69) dX3_placeLine_68 rfl rfl ?_
        refine Ev.getI (pc' := 72) dX3_placeLine_69 rfl fa_RX3_100 ob_27 fk_1_0 ?_
        refine Ev.iconst (pc' := 73) dX3_placeLine_72 rfl ki_1 ?_
        refine Ev.iadd (pc' := 74) dX3_placeLine_73 rfl ?_
        refine Ev.putI (pc' := 77) dX3_placeLine_74 rfl fa_RX3_100 ob_27 fk_1_0 rfl rfl (fun I9 eI9 => ?_)
        have h := h I9 eI9
        refine Ev.aload_n (k := 1) (pc' := 78) dX3_placeLine_77 rfl rfl rfl ?_
        refine Ev.bipush (pc' := 80) dX3_placeLine_78 rfl kb_59 ?_
        refine Ef.callVZ [.int _] [] (pc' := 83) dX3_placeLine_80 rfl cv_RX3_121_X3_sign ⟨Nat.le_of_ble_eq_true rfl, Nat.le_of_ble_eq_true rfl⟩ ob_49 rfl rfl rfl (Nat.le_of_ble_eq_true rfl) (okX3_sign h) (fun r12 I10 L11 h => ?_)
        exact Ef.zret dX3_placeLine_83 rfl h
      · have h := h.2 hc
        refine Ev.iconst (pc' := 63) dX3_placeLine_62 rfl ki_0 ?_
        exact Ef.zret (b := false) dX3_placeLine_63 rfl h
  · have h := h.2 hc
    refine Ev.aload_n (k := 1) (pc' := 15) dX3_placeLine_14 rfl rfl rfl ?_
    refine Ev.iconst (pc' := 16) dX3_placeLine_15 rfl ki_2 ?_
    refine Ef.callVZ [.int _] [] (pc' := 19) dX3_placeLine_16 rfl cv_RX3_75_X3_refuse ⟨Nat.le_of_ble_eq_true rfl, Nat.le_of_ble_eq_true rfl⟩ ob_49 rfl rfl rfl (Nat.le_of_ble_eq_true rfl) (okX3_refuse h) (fun r15 I13 L14 h => ?_)
    exact Ef.zret dX3_placeLine_19 rfl h
def wpX3_placeHere_l21 (Q : Int32 → Ix → Lx → Prop) (P21 : Int32 → Ix → Lx → Prop) (v1 : Int32) (I : Ix) (L : Lx) : Prop := ((I 27 0) ≤ v1 → wpX3_refuse 5 I L (fun r3 I1 L2 => Q (-1) I1 L2)) ∧ (¬ (I 27 0) ≤ v1 → vp_in v1 8 ∧ (¬ (L 28 v1.toNatClampNeg) = (L 51 6) → P21 (v1 + 1) I L) ∧ ((L 28 v1.toNatClampNeg) = (L 51 6) → Q v1 I L))
def wpX3_placeHere_h21 (Q : Int32 → Ix → Lx → Prop) (v1 : Int32) (I : Ix) (L : Lx) : Prop := Lfp (X := Int32 × Ix × Lx) (fun P z => wpX3_placeHere_l21 Q (fun v1 I L => P (v1, I, L)) z.1 z.2.1 z.2.2) (v1, I, L)
theorem wpX3_placeHere_h21_fold {Q : Int32 → Ix → Lx → Prop} {v1 : Int32} {I : Ix} {L : Lx} (h : wpX3_placeHere_l21 Q (wpX3_placeHere_h21 Q) v1 I L) : wpX3_placeHere_h21 Q v1 I L := Lfp.fold h
def wpX3_placeHere (I : Ix) (L : Lx) (Q : Int32 → Ix → Lx → Prop) : Prop := ((I 51 3) = 3 → wpX3_placeHere_h21 Q 0 I L) ∧ (¬ (I 51 3) = 3 → wpX3_refuse 2 I L (fun r3 I1 L2 => Q (-1) I1 L2))
set_option maxRecDepth 10000 in
theorem okX3_placeHere_l21 {G : Gx} {Q : Int32 → Ix → Lx → Prop} {P21 : Int32 → Ix → Lx → Prop} (hP21 : ∀ (v1 : Int32) (I : Ix) (L : Lx), P21 v1 I L → Ef G MX3_placeHere (qI Q) 21 [(0, .ref 49), (1, .int v1)] [] I L) {v1 : Int32} {I : Ix} {L : Lx} (h : wpX3_placeHere_l21 Q P21 v1 I L) : Ef G MX3_placeHere (qI Q) 21 [(0, .ref 49), (1, .int v1)] [] I L := by
  unfold wpX3_placeHere_l21 at h
  refine Ev.iload_n (k := 1) (pc' := 22) dX3_placeHere_21 rfl rfl rfl ?_
  refine Ev.aload_n (k := 0) (pc' := 23) dX3_placeHere_22 rfl rfl rfl ?_
  refine Ev.getR (pc' := 26) dX3_placeHere_23 rfl fa_RX3_38 ob_49 fk_3_2 rf_49_2 ?_
  refine Ev.getI (pc' := 29) dX3_placeHere_26 rfl fa_RX3_100 ob_27 fk_1_0 ?_
  refine Ev.icmp_ge (pc' := 32) (tgt := 60) dX3_placeHere_29 rfl rfl (fun hc => ?_) (fun hc => ?_)
  · have h := h.1 hc
    refine Ev.aload_n (k := 0) (pc' := 61) dX3_placeHere_60 rfl rfl rfl ?_
    refine Ev.iconst (pc' := 62) dX3_placeHere_61 rfl ki_5 ?_
    refine Ef.callVZ [.int _] [] (pc' := 65) dX3_placeHere_62 rfl cv_RX3_75_X3_refuse ⟨Nat.le_of_ble_eq_true rfl, Nat.le_of_ble_eq_true rfl⟩ ob_49 rfl rfl rfl (Nat.le_of_ble_eq_true rfl) (okX3_refuse h) (fun r3 I1 L2 h => ?_)
    refine Ev.pop (pc' := 66) dX3_placeHere_65 rfl rfl ?_
    refine Ev.iconst (pc' := 67) dX3_placeHere_66 rfl ki_m1 ?_
    exact Ef.iret dX3_placeHere_67 rfl h
  · have h := h.2 hc
    refine Ev.aload_n (k := 0) (pc' := 33) dX3_placeHere_32 rfl rfl rfl ?_
    refine Ev.getR (pc' := 36) dX3_placeHere_33 rfl fa_RX3_38 ob_49 fk_3_2 rf_49_2 ?_
    refine Ev.getR (pc' := 39) dX3_placeHere_36 rfl fa_RX3_106 ob_27 fk_1_2 rf_27_2 ?_
    refine Ev.iload_n (k := 1) (pc' := 40) dX3_placeHere_39 rfl rfl rfl ?_
    refine Ev.laload (j := _) (pc' := 41) dX3_placeHere_40 rfl ar_28 h.1 rfl ?_
    have h := h.2
    refine Ev.aload_n (k := 0) (pc' := 42) dX3_placeHere_41 rfl rfl rfl ?_
    refine Ev.getR (pc' := 45) dX3_placeHere_42 rfl fa_RX3_24 ob_49 fk_3_0 rf_49_0 ?_
    refine Ev.getL (pc' := 48) dX3_placeHere_45 rfl fa_RX3_212 ob_51 fk_8_6 ?_
    refine Ef.lc_ne (pc1 := 49) (pc' := 52) (tgt := 54) dX3_placeHere_48 rfl dX3_placeHere_49 rfl rfl (fun hc => ?_) (fun hc => ?_)
    · have h := h.1 hc
      refine Ev.iinc (k := 1) (v := _) (ls' := [(1, .int _), (0, .ref _)]) (pc' := 57) dX3_placeHere_54 rfl rfl (congrArg (_ + ·) ki_1) (Nat.le_of_ble_eq_true rfl) rfl ?_
      refine Ev.goto (tgt := 21) dX3_placeHere_57 rfl ?_
      exact Ev.sub [1, 0] rfl (hP21 _ _ _ h)
    · have h := h.2 hc
      refine Ev.iload_n (k := 1) (pc' := 53) dX3_placeHere_52 rfl rfl rfl ?_
      exact Ef.iret dX3_placeHere_53 rfl h
set_option maxRecDepth 10000 in
theorem okX3_placeHere_h21 {G : Gx} {Q : Int32 → Ix → Lx → Prop} {v1 : Int32} {I : Ix} {L : Lx} (h : wpX3_placeHere_h21 Q v1 I L) : Ef G MX3_placeHere (qI Q) 21 [(0, .ref 49), (1, .int v1)] [] I L := by
  unfold wpX3_placeHere_h21 at h
  refine Lfp.ind (P := fun z => Ef G MX3_placeHere (qI Q) 21 [(0, .ref 49), (1, .int z.1)] [] z.2.1 z.2.2) ?_ h
  intro z P' hP' h
  obtain ⟨v1, I, L⟩ := z
  exact okX3_placeHere_l21 (fun v1 I L h9 => hP' (v1, I, L) h9) h
set_option maxRecDepth 10000 in
theorem okX3_placeHere {G : Gx} {I : Ix} {L : Lx} {Q : Int32 → Ix → Lx → Prop} (h : wpX3_placeHere I L Q) : Mf G MX3_placeHere [.ref 49] I L (qI Q) := by
  unfold wpX3_placeHere at h
  refine Mf.of pn_RX3 (Nat.le_of_ble_eq_true rfl) ?_
  refine Ev.aload_n (k := 0) (pc' := 1) dX3_placeHere_0 rfl rfl rfl ?_
  refine Ev.getR (pc' := 4) dX3_placeHere_1 rfl fa_RX3_24 ob_49 fk_3_0 rf_49_0 ?_
  refine Ev.getI (pc' := 7) dX3_placeHere_4 rfl fa_RX3_60 ob_51 fk_8_3 ?_
  refine Ev.iconst (pc' := 8) dX3_placeHere_7 rfl ki_3 ?_
  refine Ev.icmp_eq (pc' := 11) (tgt := 19) dX3_placeHere_8 rfl rfl (fun hc => ?_) (fun hc => ?_)
  · have h := h.1 hc
    refine Ev.iconst (pc' := 20) dX3_placeHere_19 rfl ki_0 ?_
    refine Ev.istore_n (ls' := [(1, .int _), (0, .ref _)]) (pc' := 21) dX3_placeHere_20 rfl rfl (Nat.le_of_ble_eq_true rfl) rfl ?_
    exact Ev.sub [1, 0] rfl (okX3_placeHere_h21 h)
  · have h := h.2 hc
    refine Ev.aload_n (k := 0) (pc' := 12) dX3_placeHere_11 rfl rfl rfl ?_
    refine Ev.iconst (pc' := 13) dX3_placeHere_12 rfl ki_2 ?_
    refine Ef.callVZ [.int _] [] (pc' := 16) dX3_placeHere_13 rfl cv_RX3_75_X3_refuse ⟨Nat.le_of_ble_eq_true rfl, Nat.le_of_ble_eq_true rfl⟩ ob_49 rfl rfl rfl (Nat.le_of_ble_eq_true rfl) (okX3_refuse h) (fun r3 I1 L2 h => ?_)
    refine Ev.pop (pc' := 17) dX3_placeHere_16 rfl rfl ?_
    refine Ev.iconst (pc' := 18) dX3_placeHere_17 rfl ki_m1 ?_
    exact Ef.iret dX3_placeHere_18 rfl h
def wpX1_isJoined_27 (a1 : Int32) (a2 : Int32) (I : Ix) (L : Lx) (Q : Bool → Ix → Lx → Prop) : Prop := vp_in ((a1 * 8) + a2) 64 ∧ ((I 31 ((a1 * 8) + a2).toNatClampNeg) = 999 → Q false I L) ∧ (¬ (I 31 ((a1 * 8) + a2).toNatClampNeg) = 999 → Q true I L)
set_option maxRecDepth 10000 in
theorem okX1_isJoined_27 {G : Gx} {a1 : Int32} {a2 : Int32} {I : Ix} {L : Lx} {Q : Bool → Ix → Lx → Prop} (h : wpX1_isJoined_27 a1 a2 I L Q) : Mf G MX1_isJoined_27 [.ref 27, .int a1, .int a2] I L (qZ Q) := by
  unfold wpX1_isJoined_27 at h
  refine Mf.of pn_RX1 (Nat.le_of_ble_eq_true rfl) ?_
  refine Ev.aload_n (k := 0) (pc' := 1) dX1_isJoined_0 rfl rfl rfl ?_
  refine Ev.getR (pc' := 4) dX1_isJoined_1 rfl fa_RX1_22 ob_27 fk_1_5 rf_27_5 ?_
  refine Ev.iload_n (k := 1) (pc' := 5) dX1_isJoined_4 rfl rfl rfl ?_
  refine Ev.bipush (pc' := 7) dX1_isJoined_5 rfl kb_8 ?_
  refine Ev.imul (pc' := 8) dX1_isJoined_7 rfl ?_
  refine Ev.iload_n (k := 2) (pc' := 9) dX1_isJoined_8 rfl rfl rfl ?_
  refine Ev.iadd (pc' := 10) dX1_isJoined_9 rfl ?_
  refine Ev.iaload (j := _) (pc' := 11) dX1_isJoined_10 rfl ar_31 h.1 rfl ?_
  have h := h.2
  refine Ev.sipush (pc' := 14) dX1_isJoined_11 rfl ks_999 ?_
  refine Ev.icmp_eq (pc' := 17) (tgt := 21) dX1_isJoined_14 rfl rfl (fun hc => ?_) (fun hc => ?_)
  · have h := h.1 hc
    refine Ev.iconst (pc' := 22) dX1_isJoined_21 rfl ki_0 ?_
    exact Ef.zret (b := false) dX1_isJoined_22 rfl h
  · have h := h.2 hc
    refine Ev.iconst (pc' := 18) dX1_isJoined_17 rfl ki_1 ?_
    refine Ev.goto (tgt := 22) dX1_isJoined_18 rfl ?_
    exact Ef.zret (b := true) dX1_isJoined_22 rfl h
def wpX1_join_27 (a1 : Int32) (a2 : Int32) (a3 : Int32) (I : Ix) (L : Lx) (Q : Ix → Lx → Prop) : Prop := vp_in ((a1 * 8) + a2) 64 ∧ ∀ I1 : Ix, I1 = pu I 31 ((a1 * 8) + a2).toNatClampNeg a3 → vp_in ((a2 * 8) + a1) 64 ∧ ∀ I2 : Ix, I2 = pu I1 31 ((a2 * 8) + a1).toNatClampNeg a3 → ∀ I3 : Ix, I3 = pu I2 27 1 ((I2 27 1) + 1) → Q I3 L
set_option maxRecDepth 10000 in
theorem okX1_join_27 {G : Gx} {a1 : Int32} {a2 : Int32} {a3 : Int32} {I : Ix} {L : Lx} {Q : Ix → Lx → Prop} (h : wpX1_join_27 a1 a2 a3 I L Q) : Mf G MX1_join_27 [.ref 27, .int a1, .int a2, .int a3] I L (qV Q) := by
  unfold wpX1_join_27 at h
  refine Mf.of pn_RX1 (Nat.le_of_ble_eq_true rfl) ?_
  refine Ev.aload_n (k := 0) (pc' := 1) dX1_join_0 rfl rfl rfl ?_
  refine Ev.getR (pc' := 4) dX1_join_1 rfl fa_RX1_22 ob_27 fk_1_5 rf_27_5 ?_
  refine Ev.iload_n (k := 1) (pc' := 5) dX1_join_4 rfl rfl rfl ?_
  refine Ev.bipush (pc' := 7) dX1_join_5 rfl kb_8 ?_
  refine Ev.imul (pc' := 8) dX1_join_7 rfl ?_
  refine Ev.iload_n (k := 2) (pc' := 9) dX1_join_8 rfl rfl rfl ?_
  refine Ev.iadd (pc' := 10) dX1_join_9 rfl ?_
  refine Ev.iload_n (k := 3) (pc' := 11) dX1_join_10 rfl rfl rfl ?_
  refine Ev.iastore (j := _) (pc' := 12) dX1_join_11 rfl ar_31 h.1 rfl (fun I1 eI1 => ?_)
  have h := h.2 I1 eI1
  refine Ev.aload_n (k := 0) (pc' := 13) dX1_join_12 rfl rfl rfl ?_
  refine Ev.getR (pc' := 16) dX1_join_13 rfl fa_RX1_22 ob_27 fk_1_5 rf_27_5 ?_
  refine Ev.iload_n (k := 2) (pc' := 17) dX1_join_16 rfl rfl rfl ?_
  refine Ev.bipush (pc' := 19) dX1_join_17 rfl kb_8 ?_
  refine Ev.imul (pc' := 20) dX1_join_19 rfl ?_
  refine Ev.iload_n (k := 1) (pc' := 21) dX1_join_20 rfl rfl rfl ?_
  refine Ev.iadd (pc' := 22) dX1_join_21 rfl ?_
  refine Ev.iload_n (k := 3) (pc' := 23) dX1_join_22 rfl rfl rfl ?_
  refine Ev.iastore (j := _) (pc' := 24) dX1_join_23 rfl ar_31 h.1 rfl (fun I2 eI2 => ?_)
  have h := h.2 I2 eI2
  refine Ev.aload_n (k := 0) (pc' := 25) dX1_join_24 rfl rfl rfl ?_
  refine Ev.dup (pc' := 26) dX1_join_25 rfl rfl ?_
  refine Ev.getI (pc' := 29) dX1_join_26 rfl fa_RX1_32 ob_27 fk_1_1 ?_
  refine Ev.iconst (pc' := 30) dX1_join_29 rfl ki_1 ?_
  refine Ev.iadd (pc' := 31) dX1_join_30 rfl ?_
  refine Ev.putI (pc' := 34) dX1_join_31 rfl fa_RX1_32 ob_27 fk_1_1 rfl rfl (fun I3 eI3 => ?_)
  have h := h I3 eI3
  exact Ef.vret dX1_join_34 rfl h
def wpX3_roadLine_b73 (Q : Bool → Ix → Lx → Prop) (I : Ix) (L : Lx) : Prop := wpX3_refuse 3 I L (fun r3 I1 L2 => Q r3 I1 L2)
def wpX3_roadLine (I : Ix) (L : Lx) (Q : Bool → Ix → Lx → Prop) : Prop := ((I 27 1) < 16 → wpX8_step I L (fun I1 L2 => wpX3_placeHere I1 L2 (fun r5 I3 L4 => (¬ r5 = (-1) → wpX8_step I3 L4 (fun I6 L7 => wpX3_placeHere I6 L7 (fun r10 I8 L9 => (¬ r10 = (-1) → (r5 = r10 → wpX3_roadLine_b73 Q I8 L9) ∧ (¬ r5 = r10 → wpX1_isJoined_27 r5 r10 I8 L9 (fun r13 I11 L12 => (r13 = false → wpX8_step I11 L12 (fun I14 L15 => wpX3_number 50 1 0 16 1 99 I14 L15 (fun r18 I16 L17 => (r18 = true → wpX1_join_27 r5 r10 (I16 50 0) I16 L17 (fun I19 L20 => wpX3_sign 59 I19 L20 (fun r23 I21 L22 => Q r23 I21 L22))) ∧ (r18 = false → Q false I16 L17)))) ∧ (r13 = true → wpX3_roadLine_b73 Q I11 L12)))) ∧ (r10 = (-1) → Q false I8 L9)))) ∧ (r5 = (-1) → Q false I3 L4)))) ∧ (¬ (I 27 1) < 16 → wpX3_refuse 2 I L (fun r26 I24 L25 => Q r26 I24 L25))
set_option maxRecDepth 10000 in
theorem okX3_roadLine_b73 {G : Gx} {Q : Bool → Ix → Lx → Prop} {I : Ix} {L : Lx} (h : wpX3_roadLine_b73 Q I L) : Ef G MX3_roadLine (qZ Q) 73 [(0, .ref 49)] [] I L := by
  unfold wpX3_roadLine_b73 at h
  refine Ev.aload_n (k := 0) (pc' := 74) dX3_roadLine_73 rfl rfl rfl ?_
  refine Ev.iconst (pc' := 75) dX3_roadLine_74 rfl ki_3 ?_
  refine Ef.callVZ [.int _] [] (pc' := 78) dX3_roadLine_75 rfl cv_RX3_75_X3_refuse ⟨Nat.le_of_ble_eq_true rfl, Nat.le_of_ble_eq_true rfl⟩ ob_49 rfl rfl rfl (Nat.le_of_ble_eq_true rfl) (okX3_refuse h) (fun r3 I1 L2 h => ?_)
  exact Ef.zret dX3_roadLine_78 rfl h
set_option maxRecDepth 10000 in
theorem okX3_roadLine {G : Gx} {I : Ix} {L : Lx} {Q : Bool → Ix → Lx → Prop} (h : wpX3_roadLine I L Q) : Mf G MX3_roadLine [.ref 49] I L (qZ Q) := by
  unfold wpX3_roadLine at h
  refine Mf.of pn_RX3 (Nat.le_of_ble_eq_true rfl) ?_
  refine Ev.aload_n (k := 0) (pc' := 1) dX3_roadLine_0 rfl rfl rfl ?_
  refine Ev.getR (pc' := 4) dX3_roadLine_1 rfl fa_RX3_38 ob_49 fk_3_2 rf_49_2 ?_
  refine Ev.getI (pc' := 7) dX3_roadLine_4 rfl fa_RX3_124 ob_27 fk_1_1 ?_
  refine Ev.bipush (pc' := 9) dX3_roadLine_7 rfl kb_16 ?_
  refine Ev.icmp_lt (pc' := 12) (tgt := 18) dX3_roadLine_9 rfl rfl (fun hc => ?_) (fun hc => ?_)
  · have h := h.1 hc
    refine Ev.aload_n (k := 0) (pc' := 19) dX3_roadLine_18 rfl rfl rfl ?_
    refine Ev.getR (pc' := 22) dX3_roadLine_19 rfl fa_RX3_24 ob_49 fk_3_0 rf_49_0 ?_
    refine Ef.callVV [] [] (pc' := 25) dX3_roadLine_22 rfl cv_RX3_103_X8_step ⟨Nat.le_of_ble_eq_true rfl, Nat.le_of_ble_eq_true rfl⟩ ob_51 rfl rfl rfl (Nat.le_of_ble_eq_true rfl) (okX8_step h) (fun I1 L2 h => ?_)
    refine Ev.aload_n (k := 0) (pc' := 26) dX3_roadLine_25 rfl rfl rfl ?_
    refine Ef.callVI [] [] (pc' := 29) dX3_roadLine_26 rfl cv_RX3_127_X3_placeHere ⟨Nat.le_of_ble_eq_true rfl, Nat.le_of_ble_eq_true rfl⟩ ob_49 rfl rfl rfl (Nat.le_of_ble_eq_true rfl) (okX3_placeHere h) (fun r5 I3 L4 h => ?_)
    refine Ev.istore_n (ls' := [(1, .int _), (0, .ref _)]) (pc' := 30) dX3_roadLine_29 rfl rfl (Nat.le_of_ble_eq_true rfl) rfl ?_
    refine Ev.iload_n (k := 0) (pc' := 31) dX3_roadLine_30 rfl rfl rfl ?_
    refine Ev.iconst (pc' := 32) dX3_roadLine_31 rfl ki_m1 ?_
    refine Ev.icmp_ne (pc' := 35) (tgt := 37) dX3_roadLine_32 rfl rfl (fun hc => ?_) (fun hc => ?_)
    · have h := h.1 hc
      refine Ev.aload_n (k := 1) (pc' := 38) dX3_roadLine_37 rfl rfl rfl ?_
      refine Ev.getR (pc' := 41) dX3_roadLine_38 rfl fa_RX3_24 ob_49 fk_3_0 rf_49_0 ?_
      refine Ef.callVV [] [] (pc' := 44) dX3_roadLine_41 rfl cv_RX3_103_X8_step ⟨Nat.le_of_ble_eq_true rfl, Nat.le_of_ble_eq_true rfl⟩ ob_51 rfl rfl rfl (Nat.le_of_ble_eq_true rfl) (okX8_step h) (fun I6 L7 h => ?_)
      refine Ev.aload_n (k := 1) (pc' := 45) dX3_roadLine_44 rfl rfl rfl ?_
      refine Ef.callVI [] [] (pc' := 48) dX3_roadLine_45 rfl cv_RX3_127_X3_placeHere ⟨Nat.le_of_ble_eq_true rfl, Nat.le_of_ble_eq_true rfl⟩ ob_49 rfl rfl rfl (Nat.le_of_ble_eq_true rfl) (okX3_placeHere h) (fun r10 I8 L9 h => ?_)
      refine Ev.istore_n (ls' := [(2, .int _), (1, .int _), (0, .ref _)]) (pc' := 49) dX3_roadLine_48 rfl rfl (Nat.le_of_ble_eq_true rfl) rfl ?_
      refine Ev.iload_n (k := 0) (pc' := 50) dX3_roadLine_49 rfl rfl rfl ?_
      refine Ev.iconst (pc' := 51) dX3_roadLine_50 rfl ki_m1 ?_
      refine Ev.icmp_ne (pc' := 54) (tgt := 56) dX3_roadLine_51 rfl rfl (fun hc => ?_) (fun hc => ?_)
      · have h := h.1 hc
        refine Ev.iload_n (k := 1) (pc' := 57) dX3_roadLine_56 rfl rfl rfl ?_
        refine Ev.iload_n (k := 0) (pc' := 58) dX3_roadLine_57 rfl rfl rfl ?_
        refine Ev.icmp_eq (pc' := 61) (tgt := 73) dX3_roadLine_58 rfl rfl (fun hc => ?_) (fun hc => ?_)
        · have h := h.1 hc
          exact Ev.sub [2] rfl (okX3_roadLine_b73 h)
        · have h := h.2 hc
          refine Ev.aload_n (k := 2) (pc' := 62) dX3_roadLine_61 rfl rfl rfl ?_
          refine Ev.getR (pc' := 65) dX3_roadLine_62 rfl fa_RX3_38 ob_49 fk_3_2 rf_49_2 ?_
          refine Ev.iload_n (k := 1) (pc' := 66) dX3_roadLine_65 rfl rfl rfl ?_
          refine Ev.iload_n (k := 0) (pc' := 67) dX3_roadLine_66 rfl rfl rfl ?_
          refine Ef.callVZ [.int _, .int _] [] (pc' := 70) dX3_roadLine_67 rfl cv_RX3_131_X1_isJoined_27 ⟨Nat.le_of_ble_eq_true rfl, Nat.le_of_ble_eq_true rfl⟩ ob_27 rfl rfl rfl (Nat.le_of_ble_eq_true rfl) (okX1_isJoined_27 h) (fun r13 I11 L12 h => ?_)
          refine Ef.ifz_eq (pc' := 73) (tgt := 79) dX3_roadLine_70 rfl rfl (fun hc => ?_) (fun hc => ?_)
          · have h := h.1 hc
            refine Ev.aload_n (k := 2) (pc' := 80) dX3_roadLine_79 rfl rfl rfl ?_
            refine Ev.getR (pc' := 83) dX3_roadLine_80 rfl fa_RX3_24 ob_49 fk_3_0 rf_49_0 ?_
            refine Ef.callVV [] [] (pc' := 86) dX3_roadLine_83 rfl cv_RX3_103_X8_step ⟨Nat.le_of_ble_eq_true rfl, Nat.le_of_ble_eq_true rfl⟩ ob_51 rfl rfl rfl (Nat.le_of_ble_eq_true rfl) (okX8_step h) (fun I14 L15 h => ?_)
            refine Ev.aload_n (k := 2) (pc' := 87) dX3_roadLine_86 rfl rfl rfl ?_
            refine Ev.aload_n (k := 2) (pc' := 88) dX3_roadLine_87 rfl rfl rfl ?_
            refine Ev.getR (pc' := 91) dX3_roadLine_88 rfl fa_RX3_9 ob_49 fk_3_6 rf_49_6 ?_
            refine Ev.iconst (pc' := 92) dX3_roadLine_91 rfl ki_0 ?_
            refine Ev.bipush (pc' := 94) dX3_roadLine_92 rfl kb_16 ?_
            refine Ev.iconst (pc' := 95) dX3_roadLine_94 rfl ki_1 ?_
            refine Ev.bipush (pc' := 97) dX3_roadLine_95 rfl kb_99 ?_
            refine Ef.callVZ [.ref _, .int _, .int _, .int _, .int _] [] (pc' := 100) dX3_roadLine_97 rfl cv_RX3_117_X3_number ⟨Nat.le_of_ble_eq_true rfl, Nat.le_of_ble_eq_true rfl⟩ ob_49 rfl rfl rfl (Nat.le_of_ble_eq_true rfl) (okX3_number ar_50 h) (fun r18 I16 L17 h => ?_)
            refine Ef.ifz_ne (pc' := 103) (tgt := 105) dX3_roadLine_100 rfl rfl (fun hc => ?_) (fun hc => ?_)
            · have h := h.1 hc
              refine Ev.aload_n (k := 2) (pc' := 106) dX3_roadLine_105 rfl rfl rfl ?_
              refine Ev.getR (pc' := 109) dX3_roadLine_106 rfl fa_RX3_38 ob_49 fk_3_2 rf_49_2 ?_
              refine Ev.iload_n (k := 1) (pc' := 110) dX3_roadLine_109 rfl rfl rfl ?_
              refine Ev.iload_n (k := 0) (pc' := 111) dX3_roadLine_110 rfl rfl rfl ?_
              refine Ev.aload_n (k := 2) (pc' := 112) dX3_roadLine_111 rfl rfl rfl ?_
              refine Ev.getR (pc' := 115) dX3_roadLine_112 rfl fa_RX3_9 ob_49 fk_3_6 rf_49_6 ?_
              refine Ev.iconst (pc' := 116) dX3_roadLine_115 rfl ki_0 ?_
              refine Ev.iaload (j := 0) (pc' := 117) dX3_roadLine_116 rfl ar_50 (vpl rfl) rfl ?_
              refine Ef.callVV [.int _, .int _, .int _] [] (pc' := 120) dX3_roadLine_117 rfl cv_RX3_135_X1_join_27 ⟨Nat.le_of_ble_eq_true rfl, Nat.le_of_ble_eq_true rfl⟩ ob_27 rfl rfl rfl (Nat.le_of_ble_eq_true rfl) (okX1_join_27 h) (fun I19 L20 h => ?_)
              refine Ev.aload_n (k := 2) (pc' := 121) dX3_roadLine_120 rfl rfl rfl ?_
              refine Ev.bipush (pc' := 123) dX3_roadLine_121 rfl kb_59 ?_
              refine Ef.callVZ [.int _] [] (pc' := 126) dX3_roadLine_123 rfl cv_RX3_121_X3_sign ⟨Nat.le_of_ble_eq_true rfl, Nat.le_of_ble_eq_true rfl⟩ ob_49 rfl rfl rfl (Nat.le_of_ble_eq_true rfl) (okX3_sign h) (fun r23 I21 L22 h => ?_)
              exact Ef.zret dX3_roadLine_126 rfl h
            · have h := h.2 hc
              refine Ev.iconst (pc' := 104) dX3_roadLine_103 rfl ki_0 ?_
              exact Ef.zret (b := false) dX3_roadLine_104 rfl h
          · have h := h.2 hc
            exact Ev.sub [2] rfl (okX3_roadLine_b73 h)
      · have h := h.2 hc
        refine Ev.iconst (pc' := 55) dX3_roadLine_54 rfl ki_0 ?_
        exact Ef.zret (b := false) dX3_roadLine_55 rfl h
    · have h := h.2 hc
      refine Ev.iconst (pc' := 36) dX3_roadLine_35 rfl ki_0 ?_
      exact Ef.zret (b := false) dX3_roadLine_36 rfl h
  · have h := h.2 hc
    refine Ev.aload_n (k := 0) (pc' := 13) dX3_roadLine_12 rfl rfl rfl ?_
    refine Ev.iconst (pc' := 14) dX3_roadLine_13 rfl ki_2 ?_
    refine Ef.callVZ [.int _] [] (pc' := 17) dX3_roadLine_14 rfl cv_RX3_75_X3_refuse ⟨Nat.le_of_ble_eq_true rfl, Nat.le_of_ble_eq_true rfl⟩ ob_49 rfl rfl rfl (Nat.le_of_ble_eq_true rfl) (okX3_refuse h) (fun r26 I24 L25 h => ?_)
    exact Ef.zret dX3_roadLine_17 rfl h
def wpX3_atPlace (r1 : Nat) (N1 : Nat) (a2 : Int32) (I : Ix) (L : Lx) (Q : Bool → Ix → Lx → Prop) : Prop := wpX8_isWord 18 I L (fun r3 I1 L2 => (r3 = true → wpX8_step I1 L2 (fun I4 L5 => wpX3_placeHere I4 L5 (fun r8 I6 L7 => (¬ r8 = (-1) → vp_in a2 N1 ∧ ∀ I9 : Ix, I9 = pu I6 r1 a2.toNatClampNeg r8 → wpX8_step I9 L7 (fun I10 L11 => Q true I10 L11)) ∧ (r8 = (-1) → Q false I6 L7)))) ∧ (r3 = false → wpX3_refuse 2 I1 L2 (fun r14 I12 L13 => Q r14 I12 L13)))
set_option maxRecDepth 10000 in
theorem okX3_atPlace {G : Gx} {r1 : Nat} {N1 : Nat} (hr1 : AR 178 r1 0 N1) {a2 : Int32} {I : Ix} {L : Lx} {Q : Bool → Ix → Lx → Prop} (h : wpX3_atPlace r1 N1 a2 I L Q) : Mf G MX3_atPlace [.ref 49, .ref r1, .int a2] I L (qZ Q) := by
  unfold wpX3_atPlace at h
  refine Mf.of pn_RX3 (Nat.le_of_ble_eq_true rfl) ?_
  refine Ev.aload_n (k := 0) (pc' := 1) dX3_atPlace_0 rfl rfl rfl ?_
  refine Ev.getR (pc' := 4) dX3_atPlace_1 rfl fa_RX3_24 ob_49 fk_3_0 rf_49_0 ?_
  refine Ev.bipush (pc' := 6) dX3_atPlace_4 rfl kb_18 ?_
  refine Ef.callVZ [.int _] [] (pc' := 9) dX3_atPlace_6 rfl cv_RX3_165_X8_isWord ⟨Nat.le_of_ble_eq_true rfl, Nat.le_of_ble_eq_true rfl⟩ ob_51 rfl rfl rfl (Nat.le_of_ble_eq_true rfl) (okX8_isWord h) (fun r3 I1 L2 h => ?_)
  refine Ef.ifz_ne (pc' := 12) (tgt := 18) dX3_atPlace_9 rfl rfl (fun hc => ?_) (fun hc => ?_)
  · have h := h.1 hc
    refine Ev.aload_n (k := 0) (pc' := 19) dX3_atPlace_18 rfl rfl rfl ?_
    refine Ev.getR (pc' := 22) dX3_atPlace_19 rfl fa_RX3_24 ob_49 fk_3_0 rf_49_0 ?_
    refine Ef.callVV [] [] (pc' := 25) dX3_atPlace_22 rfl cv_RX3_103_X8_step ⟨Nat.le_of_ble_eq_true rfl, Nat.le_of_ble_eq_true rfl⟩ ob_51 rfl rfl rfl (Nat.le_of_ble_eq_true rfl) (okX8_step h) (fun I4 L5 h => ?_)
    refine Ev.aload_n (k := 0) (pc' := 26) dX3_atPlace_25 rfl rfl rfl ?_
    refine Ef.callVI [] [] (pc' := 29) dX3_atPlace_26 rfl cv_RX3_127_X3_placeHere ⟨Nat.le_of_ble_eq_true rfl, Nat.le_of_ble_eq_true rfl⟩ ob_49 rfl rfl rfl (Nat.le_of_ble_eq_true rfl) (okX3_placeHere h) (fun r8 I6 L7 h => ?_)
    refine Ev.istore_n (ls' := [(3, .int _), (0, .ref _), (1, .ref _), (2, .int _)]) (pc' := 30) dX3_atPlace_29 rfl rfl (Nat.le_of_ble_eq_true rfl) rfl ?_
    refine Ev.iload_n (k := 0) (pc' := 31) dX3_atPlace_30 rfl rfl rfl ?_
    refine Ev.iconst (pc' := 32) dX3_atPlace_31 rfl ki_m1 ?_
    refine Ev.icmp_ne (pc' := 35) (tgt := 37) dX3_atPlace_32 rfl rfl (fun hc => ?_) (fun hc => ?_)
    · have h := h.1 hc
      refine Ev.aload_n (k := 2) (pc' := 38) dX3_atPlace_37 rfl rfl rfl ?_
      refine Ev.iload_n (k := 3) (pc' := 39) dX3_atPlace_38 rfl rfl rfl ?_
      refine Ev.iload_n (k := 0) (pc' := 40) dX3_atPlace_39 rfl rfl rfl ?_
      refine Ev.iastore (j := _) (pc' := 41) dX3_atPlace_40 rfl hr1 h.1 rfl (fun I9 eI9 => ?_)
      have h := h.2 I9 eI9
      refine Ev.aload_n (k := 1) (pc' := 42) dX3_atPlace_41 rfl rfl rfl ?_
      refine Ev.getR (pc' := 45) dX3_atPlace_42 rfl fa_RX3_24 ob_49 fk_3_0 rf_49_0 ?_
      refine Ef.callVV [] [] (pc' := 48) dX3_atPlace_45 rfl cv_RX3_103_X8_step ⟨Nat.le_of_ble_eq_true rfl, Nat.le_of_ble_eq_true rfl⟩ ob_51 rfl rfl rfl (Nat.le_of_ble_eq_true rfl) (okX8_step h) (fun I10 L11 h => ?_)
      refine Ev.iconst (pc' := 49) dX3_atPlace_48 rfl ki_1 ?_
      exact Ef.zret (b := true) dX3_atPlace_49 rfl h
    · have h := h.2 hc
      refine Ev.iconst (pc' := 36) dX3_atPlace_35 rfl ki_0 ?_
      exact Ef.zret (b := false) dX3_atPlace_36 rfl h
  · have h := h.2 hc
    refine Ev.aload_n (k := 0) (pc' := 13) dX3_atPlace_12 rfl rfl rfl ?_
    refine Ev.iconst (pc' := 14) dX3_atPlace_13 rfl ki_2 ?_
    refine Ef.callVZ [.int _] [] (pc' := 17) dX3_atPlace_14 rfl cv_RX3_75_X3_refuse ⟨Nat.le_of_ble_eq_true rfl, Nat.le_of_ble_eq_true rfl⟩ ob_49 rfl rfl rfl (Nat.le_of_ble_eq_true rfl) (okX3_refuse h) (fun r14 I12 L13 h => ?_)
    exact Ef.zret dX3_atPlace_17 rfl h
def wpX3_thingLine_b164 (Q : Bool → Ix → Lx → Prop) (I : Ix) (L : Lx) : Prop := ∀ I1 : Ix, I1 = pu I 26 2 ((I 26 2) + 1) → wpX3_sign 59 I1 L (fun r4 I2 L3 => Q r4 I2 L3)
def wpX3_thingLine_b120 (Q : Bool → Ix → Lx → Prop) (v1 : Int32) (t0 : Int32) (I : Ix) (L : Lx) : Prop := (¬ t0 = 0 → wpX8_isWord 20 I L (fun r3 I1 L2 => vp_in v1 10 ∧ ∀ I4 : Ix, I4 = pu I1 43 v1.toNatClampNeg (b2i r3) → vp_in v1 10 ∧ ((I4 43 v1.toNatClampNeg) = 0 → wpX3_thingLine_b164 Q I4 L2) ∧ (¬ (I4 43 v1.toNatClampNeg) = 0 → wpX8_step I4 L2 (fun I5 L6 => wpX3_thingLine_b164 Q I5 L6)))) ∧ (t0 = 0 → Q false I L)
def wpX3_thingLine_b119 (Q : Bool → Ix → Lx → Prop) (v1 : Int32) (I : Ix) (L : Lx) : Prop := wpX3_thingLine_b120 Q v1 0 I L
def wpX3_thingLine (I : Ix) (L : Lx) (Q : Bool → Ix → Lx → Prop) : Prop := ((I 26 2) < 10 → wpX8_step I L (fun I1 L2 => wpX3_newName 38 10 (I 26 2) I1 L2 (fun r5 I3 L4 => (r5 = false → wpX3_thingLine_b119 Q (I 26 2) I3 L4) ∧ (r5 = true → wpX3_atPlace 39 10 (I 26 2) I3 L4 (fun r8 I6 L7 => (r8 = false → wpX3_thingLine_b119 Q (I 26 2) I6 L7) ∧ (r8 = true → wpX3_number 40 10 (I 26 2) 0 0 99 I6 L7 (fun r11 I9 L10 => (r11 = false → wpX3_thingLine_b119 Q (I 26 2) I9 L10) ∧ (r11 = true → wpX3_number 41 10 (I 26 2) 19 0 20 I9 L10 (fun r14 I12 L13 => (r14 = false → wpX3_thingLine_b119 Q (I 26 2) I12 L13) ∧ (r14 = true → wpX3_number 42 10 (I 26 2) 2 0 99 I12 L13 (fun r17 I15 L16 => (r17 = false → wpX3_thingLine_b119 Q (I 26 2) I15 L16) ∧ (r17 = true → wpX3_thingLine_b120 Q (I 26 2) 1 I15 L16)))))))))))) ∧ (¬ (I 26 2) < 10 → wpX3_refuse 2 I L (fun r20 I18 L19 => Q r20 I18 L19))
set_option maxRecDepth 10000 in
theorem okX3_thingLine_b164 {G : Gx} {Q : Bool → Ix → Lx → Prop} {I : Ix} {L : Lx} (h : wpX3_thingLine_b164 Q I L) : Ef G MX3_thingLine (qZ Q) 164 [(0, .ref 49)] [] I L := by
  unfold wpX3_thingLine_b164 at h
  refine Ev.aload_n (k := 0) (pc' := 165) dX3_thingLine_164 rfl rfl rfl ?_
  refine Ev.getR (pc' := 168) dX3_thingLine_165 rfl fa_RX3_28 ob_49 fk_3_1 rf_49_1 ?_
  refine Ev.dup (pc' := 169) dX3_thingLine_168 rfl rfl ?_
  refine Ev.getI (pc' := 172) dX3_thingLine_169 rfl fa_RX3_139 ob_26 fk_10_2 ?_
  refine Ev.iconst (pc' := 173) dX3_thingLine_172 rfl ki_1 ?_
  refine Ev.iadd (pc' := 174) dX3_thingLine_173 rfl ?_
  refine Ev.putI (pc' := 177) dX3_thingLine_174 rfl fa_RX3_139 ob_26 fk_10_2 rfl rfl (fun I1 eI1 => ?_)
  have h := h I1 eI1
  refine Ev.aload_n (k := 0) (pc' := 178) dX3_thingLine_177 rfl rfl rfl ?_
  refine Ev.bipush (pc' := 180) dX3_thingLine_178 rfl kb_59 ?_
  refine Ef.callVZ [.int _] [] (pc' := 183) dX3_thingLine_180 rfl cv_RX3_121_X3_sign ⟨Nat.le_of_ble_eq_true rfl, Nat.le_of_ble_eq_true rfl⟩ ob_49 rfl rfl rfl (Nat.le_of_ble_eq_true rfl) (okX3_sign h) (fun r4 I2 L3 h => ?_)
  exact Ef.zret dX3_thingLine_183 rfl h
set_option maxRecDepth 10000 in
theorem okX3_thingLine_b120 {G : Gx} {Q : Bool → Ix → Lx → Prop} {v1 : Int32} {t0 : Int32} {I : Ix} {L : Lx} (h : wpX3_thingLine_b120 Q v1 t0 I L) : Ef G MX3_thingLine (qZ Q) 120 [(0, .ref 49), (1, .int v1)] [.int t0] I L := by
  unfold wpX3_thingLine_b120 at h
  refine Ev.istore_n (ls' := [(2, .int _), (0, .ref _), (1, .int _)]) (pc' := 121) dX3_thingLine_120 rfl rfl (Nat.le_of_ble_eq_true rfl) rfl ?_
  refine Ev.iload_n (k := 0) (pc' := 122) dX3_thingLine_121 rfl rfl rfl ?_
  refine Ev.if_ne (pc' := 125) (tgt := 127) dX3_thingLine_122 rfl rfl (fun hc => ?_) (fun hc => ?_)
  · have h := h.1 hc
    refine Ev.aload_n (k := 1) (pc' := 128) dX3_thingLine_127 rfl rfl rfl ?_
    refine Ev.getR (pc' := 131) dX3_thingLine_128 rfl fa_RX3_28 ob_49 fk_3_1 rf_49_1 ?_
    refine Ev.getR (pc' := 134) dX3_thingLine_131 rfl fa_RX3_161 ob_26 fk_10_11 rf_26_11 ?_
    refine Ev.iload_n (k := 2) (pc' := 135) dX3_thingLine_134 rfl rfl rfl ?_
    refine Ev.aload_n (k := 1) (pc' := 136) dX3_thingLine_135 rfl rfl rfl ?_
    refine Ev.getR (pc' := 139) dX3_thingLine_136 rfl fa_RX3_24 ob_49 fk_3_0 rf_49_0 ?_
    refine Ev.bipush (pc' := 141) dX3_thingLine_139 rfl kb_20 ?_
    refine Ef.callVZ [.int _] [.int _, .ref _] (pc' := 144) dX3_thingLine_141 rfl cv_RX3_165_X8_isWord ⟨Nat.le_of_ble_eq_true rfl, Nat.le_of_ble_eq_true rfl⟩ ob_51 rfl rfl rfl (Nat.le_of_ble_eq_true rfl) (okX8_isWord h) (fun r3 I1 L2 h => ?_)
    refine Ev.zastore (j := _) (pc' := 145) dX3_thingLine_144 rfl ar_43 h.1 rfl (b2i_a _) (fun I4 eI4 => ?_)
    have h := h.2 I4 eI4
    refine Ev.aload_n (k := 1) (pc' := 146) dX3_thingLine_145 rfl rfl rfl ?_
    refine Ev.getR (pc' := 149) dX3_thingLine_146 rfl fa_RX3_28 ob_49 fk_3_1 rf_49_1 ?_
    refine Ev.getR (pc' := 152) dX3_thingLine_149 rfl fa_RX3_161 ob_26 fk_10_11 rf_26_11 ?_
    refine Ev.iload_n (k := 2) (pc' := 153) dX3_thingLine_152 rfl rfl rfl ?_
    refine Ev.zaload (j := _) (pc' := 154) dX3_thingLine_153 rfl ar_43 h.1 rfl ?_
    have h := h.2
    refine Ev.if_eq (pc' := 157) (tgt := 164) dX3_thingLine_154 rfl rfl (fun hc => ?_) (fun hc => ?_)
    · have h := h.1 hc
      exact Ev.sub [1] rfl (okX3_thingLine_b164 h)
    · have h := h.2 hc
      refine Ev.aload_n (k := 1) (pc' := 158) dX3_thingLine_157 rfl rfl rfl ?_
      refine Ev.getR (pc' := 161) dX3_thingLine_158 rfl fa_RX3_24 ob_49 fk_3_0 rf_49_0 ?_
      refine Ef.callVV [] [] (pc' := 164) dX3_thingLine_161 rfl cv_RX3_103_X8_step ⟨Nat.le_of_ble_eq_true rfl, Nat.le_of_ble_eq_true rfl⟩ ob_51 rfl rfl rfl (Nat.le_of_ble_eq_true rfl) (okX8_step h) (fun I5 L6 h => ?_)
      exact Ev.sub [1] rfl (okX3_thingLine_b164 h)
  · have h := h.2 hc
    refine Ev.iconst (pc' := 126) dX3_thingLine_125 rfl ki_0 ?_
    exact Ef.zret (b := false) dX3_thingLine_126 rfl h
set_option maxRecDepth 10000 in
theorem okX3_thingLine_b119 {G : Gx} {Q : Bool → Ix → Lx → Prop} {v1 : Int32} {I : Ix} {L : Lx} (h : wpX3_thingLine_b119 Q v1 I L) : Ef G MX3_thingLine (qZ Q) 119 [(0, .ref 49), (1, .int v1)] [] I L := by
  unfold wpX3_thingLine_b119 at h
  refine Ev.iconst (pc' := 120) dX3_thingLine_119 rfl ki_0 ?_
  exact okX3_thingLine_b120 h
set_option maxRecDepth 10000 in
theorem okX3_thingLine {G : Gx} {I : Ix} {L : Lx} {Q : Bool → Ix → Lx → Prop} (h : wpX3_thingLine I L Q) : Mf G MX3_thingLine [.ref 49] I L (qZ Q) := by
  unfold wpX3_thingLine at h
  refine Mf.of pn_RX3 (Nat.le_of_ble_eq_true rfl) ?_
  refine Ev.aload_n (k := 0) (pc' := 1) dX3_thingLine_0 rfl rfl rfl ?_
  refine Ev.getR (pc' := 4) dX3_thingLine_1 rfl fa_RX3_28 ob_49 fk_3_1 rf_49_1 ?_
  refine Ev.getI (pc' := 7) dX3_thingLine_4 rfl fa_RX3_139 ob_26 fk_10_2 ?_
  refine Ev.istore_n (ls' := [(1, .int _), (0, .ref _)]) (pc' := 8) dX3_thingLine_7 rfl rfl (Nat.le_of_ble_eq_true rfl) rfl ?_
  refine Ev.iload_n (k := 0) (pc' := 9) dX3_thingLine_8 rfl rfl rfl ?_
  refine Ev.bipush (pc' := 11) dX3_thingLine_9 rfl kb_10 ?_
  refine Ev.icmp_lt (pc' := 14) (tgt := 20) dX3_thingLine_11 rfl rfl (fun hc => ?_) (fun hc => ?_)
  · have h := h.1 hc
    refine Ev.aload_n (k := 1) (pc' := 21) dX3_thingLine_20 rfl rfl rfl ?_
    refine Ev.getR (pc' := 24) dX3_thingLine_21 rfl fa_RX3_24 ob_49 fk_3_0 rf_49_0 ?_
    refine Ef.callVV [] [] (pc' := 27) dX3_thingLine_24 rfl cv_RX3_103_X8_step ⟨Nat.le_of_ble_eq_true rfl, Nat.le_of_ble_eq_true rfl⟩ ob_51 rfl rfl rfl (Nat.le_of_ble_eq_true rfl) (okX8_step h) (fun I1 L2 h => ?_)
    refine Ev.aload_n (k := 1) (pc' := 28) dX3_thingLine_27 rfl rfl rfl ?_
    refine Ev.aload_n (k := 1) (pc' := 29) dX3_thingLine_28 rfl rfl rfl ?_
    refine Ev.getR (pc' := 32) dX3_thingLine_29 rfl fa_RX3_28 ob_49 fk_3_1 rf_49_1 ?_
    refine Ev.getR (pc' := 35) dX3_thingLine_32 rfl fa_RX3_142 ob_26 fk_10_6 rf_26_6 ?_
    refine Ev.iload_n (k := 0) (pc' := 36) dX3_thingLine_35 rfl rfl rfl ?_
    refine Ef.callVZ [.ref _, .int _] [] (pc' := 39) dX3_thingLine_36 rfl cv_RX3_110_X3_newName ⟨Nat.le_of_ble_eq_true rfl, Nat.le_of_ble_eq_true rfl⟩ ob_49 rfl rfl rfl (Nat.le_of_ble_eq_true rfl) (okX3_newName ar_38 h) (fun r5 I3 L4 h => ?_)
    refine Ef.ifz_eq (pc' := 42) (tgt := 119) dX3_thingLine_39 rfl rfl (fun hc => ?_) (fun hc => ?_)
    · have h := h.1 hc
      exact Ev.sub [1, 0] rfl (okX3_thingLine_b119 h)
    · have h := h.2 hc
      refine Ev.aload_n (k := 1) (pc' := 43) dX3_thingLine_42 rfl rfl rfl ?_
      refine Ev.aload_n (k := 1) (pc' := 44) dX3_thingLine_43 rfl rfl rfl ?_
      refine Ev.getR (pc' := 47) dX3_thingLine_44 rfl fa_RX3_28 ob_49 fk_3_1 rf_49_1 ?_
      refine Ev.getR (pc' := 50) dX3_thingLine_47 rfl fa_RX3_145 ob_26 fk_10_7 rf_26_7 ?_
      refine Ev.iload_n (k := 0) (pc' := 51) dX3_thingLine_50 rfl rfl rfl ?_
      refine Ef.callVZ [.ref _, .int _] [] (pc' := 54) dX3_thingLine_51 rfl cv_RX3_148_X3_atPlace ⟨Nat.le_of_ble_eq_true rfl, Nat.le_of_ble_eq_true rfl⟩ ob_49 rfl rfl rfl (Nat.le_of_ble_eq_true rfl) (okX3_atPlace ar_39 h) (fun r8 I6 L7 h => ?_)
      refine Ef.ifz_eq (pc' := 57) (tgt := 119) dX3_thingLine_54 rfl rfl (fun hc => ?_) (fun hc => ?_)
      · have h := h.1 hc
        exact Ev.sub [1, 0] rfl (okX3_thingLine_b119 h)
      · have h := h.2 hc
        refine Ev.aload_n (k := 1) (pc' := 58) dX3_thingLine_57 rfl rfl rfl ?_
        refine Ev.aload_n (k := 1) (pc' := 59) dX3_thingLine_58 rfl rfl rfl ?_
        refine Ev.getR (pc' := 62) dX3_thingLine_59 rfl fa_RX3_28 ob_49 fk_3_1 rf_49_1 ?_
        refine Ev.getR (pc' := 65) dX3_thingLine_62 rfl fa_RX3_152 ob_26 fk_10_8 rf_26_8 ?_
        refine Ev.iload_n (k := 0) (pc' := 66) dX3_thingLine_65 rfl rfl rfl ?_
        refine Ev.iconst (pc' := 67) dX3_thingLine_66 rfl ki_0 ?_
        refine Ev.iconst (pc' := 68) dX3_thingLine_67 rfl ki_0 ?_
        refine Ev.bipush (pc' := 70) dX3_thingLine_68 rfl kb_99 ?_
        refine Ef.callVZ [.ref _, .int _, .int _, .int _, .int _] [] (pc' := 73) dX3_thingLine_70 rfl cv_RX3_117_X3_number ⟨Nat.le_of_ble_eq_true rfl, Nat.le_of_ble_eq_true rfl⟩ ob_49 rfl rfl rfl (Nat.le_of_ble_eq_true rfl) (okX3_number ar_40 h) (fun r11 I9 L10 h => ?_)
        refine Ef.ifz_eq (pc' := 76) (tgt := 119) dX3_thingLine_73 rfl rfl (fun hc => ?_) (fun hc => ?_)
        · have h := h.1 hc
          exact Ev.sub [1, 0] rfl (okX3_thingLine_b119 h)
        · have h := h.2 hc
          refine Ev.aload_n (k := 1) (pc' := 77) dX3_thingLine_76 rfl rfl rfl ?_
          refine Ev.aload_n (k := 1) (pc' := 78) dX3_thingLine_77 rfl rfl rfl ?_
          refine Ev.getR (pc' := 81) dX3_thingLine_78 rfl fa_RX3_28 ob_49 fk_3_1 rf_49_1 ?_
          refine Ev.getR (pc' := 84) dX3_thingLine_81 rfl fa_RX3_155 ob_26 fk_10_9 rf_26_9 ?_
          refine Ev.iload_n (k := 0) (pc' := 85) dX3_thingLine_84 rfl rfl rfl ?_
          refine Ev.bipush (pc' := 87) dX3_thingLine_85 rfl kb_19 ?_
          refine Ev.iconst (pc' := 88) dX3_thingLine_87 rfl ki_0 ?_
          refine Ev.bipush (pc' := 90) dX3_thingLine_88 rfl kb_20 ?_
          refine Ef.callVZ [.ref _, .int _, .int _, .int _, .int _] [] (pc' := 93) dX3_thingLine_90 rfl cv_RX3_117_X3_number ⟨Nat.le_of_ble_eq_true rfl, Nat.le_of_ble_eq_true rfl⟩ ob_49 rfl rfl rfl (Nat.le_of_ble_eq_true rfl) (okX3_number ar_41 h) (fun r14 I12 L13 h => ?_)
          refine Ef.ifz_eq (pc' := 96) (tgt := 119) dX3_thingLine_93 rfl rfl (fun hc => ?_) (fun hc => ?_)
          · have h := h.1 hc
            exact Ev.sub [1, 0] rfl (okX3_thingLine_b119 h)
          · have h := h.2 hc
            refine Ev.aload_n (k := 1) (pc' := 97) dX3_thingLine_96 rfl rfl rfl ?_
            refine Ev.aload_n (k := 1) (pc' := 98) dX3_thingLine_97 rfl rfl rfl ?_
            refine Ev.getR (pc' := 101) dX3_thingLine_98 rfl fa_RX3_28 ob_49 fk_3_1 rf_49_1 ?_
            refine Ev.getR (pc' := 104) dX3_thingLine_101 rfl fa_RX3_158 ob_26 fk_10_10 rf_26_10 ?_
            refine Ev.iload_n (k := 0) (pc' := 105) dX3_thingLine_104 rfl rfl rfl ?_
            refine Ev.iconst (pc' := 106) dX3_thingLine_105 rfl ki_2 ?_
            refine Ev.iconst (pc' := 107) dX3_thingLine_106 rfl ki_0 ?_
            refine Ev.bipush (pc' := 109) dX3_thingLine_107 rfl kb_99 ?_
            refine Ef.callVZ [.ref _, .int _, .int _, .int _, .int _] [] (pc' := 112) dX3_thingLine_109 rfl cv_RX3_117_X3_number ⟨Nat.le_of_ble_eq_true rfl, Nat.le_of_ble_eq_true rfl⟩ ob_49 rfl rfl rfl (Nat.le_of_ble_eq_true rfl) (okX3_number ar_42 h) (fun r17 I15 L16 h => ?_)
            refine Ef.ifz_eq (pc' := 115) (tgt := 119) dX3_thingLine_112 rfl rfl (fun hc => ?_) (fun hc => ?_)
            · have h := h.1 hc
              exact Ev.sub [1, 0] rfl (okX3_thingLine_b119 h)
            · have h := h.2 hc
              refine Ev.iconst (pc' := 116) dX3_thingLine_115 rfl ki_1 ?_
              refine Ev.goto (tgt := 120) dX3_thingLine_116 rfl ?_
              exact Ev.sub [1, 0] rfl (okX3_thingLine_b120 h)
  · have h := h.2 hc
    refine Ev.aload_n (k := 1) (pc' := 15) dX3_thingLine_14 rfl rfl rfl ?_
    refine Ev.iconst (pc' := 16) dX3_thingLine_15 rfl ki_2 ?_
    refine Ef.callVZ [.int _] [] (pc' := 19) dX3_thingLine_16 rfl cv_RX3_75_X3_refuse ⟨Nat.le_of_ble_eq_true rfl, Nat.le_of_ble_eq_true rfl⟩ ob_49 rfl rfl rfl (Nat.le_of_ble_eq_true rfl) (okX3_refuse h) (fun r20 I18 L19 h => ?_)
    exact Ef.zret dX3_thingLine_19 rfl h
def wpX3_enclosed (E O : Int32 → Ix → Lx → (Bool → Ix → Lx → Prop) → Prop) (a1 : Int32) (I : Ix) (L : Lx) (Q : Bool → Ix → Lx → Prop) : Prop := E a1 I L (fun r3 I1 L2 => (r3 = true → wpX8_isSign 41 I1 L2 (fun r6 I4 L5 => (r6 = true → wpX8_step I4 L5 (fun I7 L8 => Q true I7 L8)) ∧ (r6 = false → wpX3_refuse 2 I4 L5 (fun r11 I9 L10 => Q r11 I9 L10)))) ∧ (r3 = false → Q false I1 L2))
set_option maxRecDepth 10000 in
theorem okX3_enclosed {G : Gx} {E O : Int32 → Ix → Lx → (Bool → Ix → Lx → Prop) → Prop} {d : Nat} (hE : ∀ w I L Q, E w I L Q → Mf G (MX3_either d) [.ref 49, .int w] I L (qZ Q)) (hO : ∀ w I L Q, O w I L Q → Mf G (MX3_one d) [.ref 49, .int w] I L (qZ Q)) {a1 : Int32} {I : Ix} {L : Lx} {Q : Bool → Ix → Lx → Prop} (h : wpX3_enclosed E O a1 I L Q) : Mf G (MX3_enclosed (d + 1)) [.ref 49, .int a1] I L (qZ Q) := by
  unfold wpX3_enclosed at h
  refine Mf.of pn_RX3 (Nat.le_of_ble_eq_true rfl) ?_
  refine Ev.aload_n (k := 0) (pc' := 1) dX3_enclosed_0 rfl rfl rfl ?_
  refine Ev.iload_n (k := 1) (pc' := 2) dX3_enclosed_1 rfl rfl rfl ?_
  refine Ef.callVZ [.int _] [] (pc' := 5) dX3_enclosed_2 rfl cv_RX3_197_X3_either ⟨by show _ + 1 ≤ _; simp only [mD, MX3_enclosed, MX3_either]; omega, Nat.le_of_ble_eq_true rfl⟩ ob_49 rfl rfl rfl (Nat.le_of_ble_eq_true rfl) (hE _ _ _ _ h) (fun r3 I1 L2 h => ?_)
  refine Ef.ifz_ne (pc' := 8) (tgt := 10) dX3_enclosed_5 rfl rfl (fun hc => ?_) (fun hc => ?_)
  · have h := h.1 hc
    refine Ev.aload_n (k := 0) (pc' := 11) dX3_enclosed_10 rfl rfl rfl ?_
    refine Ev.getR (pc' := 14) dX3_enclosed_11 rfl fa_RX3_24 ob_49 fk_3_0 rf_49_0 ?_
    refine Ev.bipush (pc' := 16) dX3_enclosed_14 rfl kb_41 ?_
    refine Ef.callVZ [.int _] [] (pc' := 19) dX3_enclosed_16 rfl cv_RX3_209_X8_isSign ⟨by show _ + 1 ≤ _; simp only [mD, MX3_enclosed, MX8_isSign]; omega, Nat.le_of_ble_eq_true rfl⟩ ob_51 rfl rfl rfl (Nat.le_of_ble_eq_true rfl) (okX8_isSign h) (fun r6 I4 L5 h => ?_)
    refine Ef.ifz_ne (pc' := 22) (tgt := 28) dX3_enclosed_19 rfl rfl (fun hc => ?_) (fun hc => ?_)
    · have h := h.1 hc
      refine Ev.aload_n (k := 0) (pc' := 29) dX3_enclosed_28 rfl rfl rfl ?_
      refine Ev.getR (pc' := 32) dX3_enclosed_29 rfl fa_RX3_24 ob_49 fk_3_0 rf_49_0 ?_
      refine Ef.callVV [] [] (pc' := 35) dX3_enclosed_32 rfl cv_RX3_103_X8_step ⟨by show _ + 1 ≤ _; simp only [mD, MX3_enclosed, MX8_step]; omega, Nat.le_of_ble_eq_true rfl⟩ ob_51 rfl rfl rfl (Nat.le_of_ble_eq_true rfl) (okX8_step h) (fun I7 L8 h => ?_)
      refine Ev.iconst (pc' := 36) dX3_enclosed_35 rfl ki_1 ?_
      exact Ef.zret (b := true) dX3_enclosed_36 rfl h
    · have h := h.2 hc
      refine Ev.aload_n (k := 0) (pc' := 23) dX3_enclosed_22 rfl rfl rfl ?_
      refine Ev.iconst (pc' := 24) dX3_enclosed_23 rfl ki_2 ?_
      refine Ef.callVZ [.int _] [] (pc' := 27) dX3_enclosed_24 rfl cv_RX3_75_X3_refuse ⟨by show _ + 1 ≤ _; simp only [mD, MX3_enclosed, MX3_refuse]; omega, Nat.le_of_ble_eq_true rfl⟩ ob_49 rfl rfl rfl (Nat.le_of_ble_eq_true rfl) (okX3_refuse h) (fun r11 I9 L10 h => ?_)
      exact Ef.zret dX3_enclosed_27 rfl h
  · have h := h.2 hc
    refine Ev.iconst (pc' := 9) dX3_enclosed_8 rfl ki_0 ?_
    exact Ef.zret (b := false) dX3_enclosed_9 rfl h
def wpX4_add_33 (a1 : Int32) (I : Ix) (L : Lx) (Q : Ix → Lx → Prop) : Prop := (720 ≤ (I 33 1) → Q I L) ∧ (¬ 720 ≤ (I 33 1) → vp_in (I 33 1) 720 ∧ ∀ I1 : Ix, I1 = pu I 36 (I 33 1).toNatClampNeg a1 → ∀ I2 : Ix, I2 = pu I1 33 1 ((I1 33 1) + 1) → Q I2 L)
set_option maxRecDepth 10000 in
theorem okX4_add_33 {G : Gx} {a1 : Int32} {I : Ix} {L : Lx} {Q : Ix → Lx → Prop} (h : wpX4_add_33 a1 I L Q) : Mf G MX4_add_33 [.ref 33, .int a1] I L (qV Q) := by
  unfold wpX4_add_33 at h
  refine Mf.of pn_RX4 (Nat.le_of_ble_eq_true rfl) ?_
  refine Ev.aload_n (k := 0) (pc' := 1) dX4_add_0 rfl rfl rfl ?_
  refine Ev.getI (pc' := 4) dX4_add_1 rfl fa_RX4_28 ob_33 fk_4_1 ?_
  refine Ev.sipush (pc' := 7) dX4_add_4 rfl ks_720 ?_
  refine Ev.icmp_ge (pc' := 10) (tgt := 30) dX4_add_7 rfl rfl (fun hc => ?_) (fun hc => ?_)
  · have h := h.1 hc
    exact Ef.vret dX4_add_30 rfl h
  · have h := h.2 hc
    refine Ev.aload_n (k := 0) (pc' := 11) dX4_add_10 rfl rfl rfl ?_
    refine Ev.getR (pc' := 14) dX4_add_11 rfl fa_RX4_18 ob_33 fk_4_4 rf_33_4 ?_
    refine Ev.aload_n (k := 0) (pc' := 15) dX4_add_14 rfl rfl rfl ?_
    refine Ev.getI (pc' := 18) dX4_add_15 rfl fa_RX4_28 ob_33 fk_4_1 ?_
    refine Ev.iload_n (k := 1) (pc' := 19) dX4_add_18 rfl rfl rfl ?_
    refine Ev.iastore (j := _) (pc' := 20) dX4_add_19 rfl ar_36 h.1 rfl (fun I1 eI1 => ?_)
    have h := h.2 I1 eI1
    refine Ev.aload_n (k := 0) (pc' := 21) dX4_add_20 rfl rfl rfl ?_
    refine Ev.dup (pc' := 22) dX4_add_21 rfl rfl ?_
    refine Ev.getI (pc' := 25) dX4_add_22 rfl fa_RX4_28 ob_33 fk_4_1 ?_
    refine Ev.iconst (pc' := 26) dX4_add_25 rfl ki_1 ?_
    refine Ev.iadd (pc' := 27) dX4_add_26 rfl ?_
    refine Ev.putI (pc' := 30) dX4_add_27 rfl fa_RX4_28 ob_33 fk_4_1 rfl rfl (fun I2 eI2 => ?_)
    have h := h I2 eI2
    exact Ef.vret dX4_add_30 rfl h
def wpX3_unit_b174 (E O : Int32 → Ix → Lx → (Bool → Ix → Lx → Prop) → Prop) (Q : Bool → Ix → Lx → Prop) (I : Ix) (L : Lx) : Prop := Q true I L
def wpX3_unit_b152 (E O : Int32 → Ix → Lx → (Bool → Ix → Lx → Prop) → Prop) (Q : Bool → Ix → Lx → Prop) (v1 : Int32) (v4 : Int32) (I : Ix) (L : Lx) : Prop := wpX8_step I L (fun I1 L2 => (v4 = 0 → wpX3_unit_b174 E O Q I1 L2) ∧ (¬ v4 = 0 → wpX3_enclosed E O (v1 + 1) I1 L2 (fun r5 I3 L4 => (r5 = false → Q false I3 L4) ∧ (r5 = true → wpX3_unit_b174 E O Q I3 L4))))
def wpX3_unit_b149 (E O : Int32 → Ix → Lx → (Bool → Ix → Lx → Prop) → Prop) (Q : Bool → Ix → Lx → Prop) (v1 : Int32) (v4 : Int32) (t1 : Int32) (I : Ix) (L : Lx) : Prop := wpX4_add_33 t1 I L (fun I1 L2 => wpX3_unit_b152 E O Q v1 v4 I1 L2)
def wpX3_unit_b102 (E O : Int32 → Ix → Lx → (Bool → Ix → Lx → Prop) → Prop) (Q : Bool → Ix → Lx → Prop) (v1 : Int32) (v2 : Int32) (v4 : Int32) (I : Ix) (L : Lx) : Prop := ∀ I1 : Ix, I1 = pu I 33 0 ((I 33 0) + 1) → (¬ v4 = 0 → wpX3_unit_b152 E O Q v1 v4 I1 L) ∧ (v4 = 0 → (v2 = 0 → wpX3_unit_b149 E O Q v1 v4 (10000 + (I1 51 5)) I1 L) ∧ (¬ v2 = 0 → wpX3_unit_b149 E O Q v1 v4 (I1 51 5) I1 L))
def wpX3_unit_b96 (E O : Int32 → Ix → Lx → (Bool → Ix → Lx → Prop) → Prop) (Q : Bool → Ix → Lx → Prop) (I : Ix) (L : Lx) : Prop := wpX3_refuse 2 I L (fun r3 I1 L2 => Q r3 I1 L2)
def wpX3_unit_b69 (E O : Int32 → Ix → Lx → (Bool → Ix → Lx → Prop) → Prop) (Q : Bool → Ix → Lx → Prop) (v1 : Int32) (v2 : Int32) (v3 : Int32) (t0 : Int32) (I : Ix) (L : Lx) : Prop := (80 ≤ (I 33 0) → wpX3_unit_b96 E O Q I L) ∧ (¬ 80 ≤ (I 33 0) → (¬ v2 = 0 → wpX3_unit_b102 E O Q v1 v2 t0 I L) ∧ (v2 = 0 → (¬ v3 = 0 → wpX3_unit_b102 E O Q v1 v2 t0 I L) ∧ (v3 = 0 → (¬ t0 = 0 → wpX3_unit_b102 E O Q v1 v2 t0 I L) ∧ (t0 = 0 → wpX3_unit_b96 E O Q I L))))
def wpX3_unit_b68 (E O : Int32 → Ix → Lx → (Bool → Ix → Lx → Prop) → Prop) (Q : Bool → Ix → Lx → Prop) (v1 : Int32) (v2 : Int32) (v3 : Int32) (I : Ix) (L : Lx) : Prop := wpX3_unit_b69 E O Q v1 v2 v3 0 I L
def wpX3_unit_b45 (E O : Int32 → Ix → Lx → (Bool → Ix → Lx → Prop) → Prop) (Q : Bool → Ix → Lx → Prop) (v1 : Int32) (v2 : Int32) (t0 : Int32) (I : Ix) (L : Lx) : Prop := wpX8_isSign 40 I L (fun r3 I1 L2 => (r3 = false → wpX3_unit_b68 E O Q v1 v2 t0 I1 L2) ∧ (r3 = true → (6 < v1 → wpX3_unit_b68 E O Q v1 v2 t0 I1 L2) ∧ (¬ 6 < v1 → wpX3_unit_b69 E O Q v1 v2 t0 1 I1 L2)))
def wpX3_unit_b44 (E O : Int32 → Ix → Lx → (Bool → Ix → Lx → Prop) → Prop) (Q : Bool → Ix → Lx → Prop) (v1 : Int32) (v2 : Int32) (I : Ix) (L : Lx) : Prop := wpX3_unit_b45 E O Q v1 v2 0 I L
def wpX3_unit_b16 (E O : Int32 → Ix → Lx → (Bool → Ix → Lx → Prop) → Prop) (Q : Bool → Ix → Lx → Prop) (v1 : Int32) (t0 : Int32) (I : Ix) (L : Lx) : Prop := (¬ (I 51 3) = 2 → wpX3_unit_b44 E O Q v1 t0 I L) ∧ ((I 51 3) = 2 → (11 ≤ (I 51 5) → wpX3_unit_b44 E O Q v1 t0 I L) ∧ (¬ 11 ≤ (I 51 5) → wpX3_unit_b45 E O Q v1 t0 1 I L))
def wpX3_unit (E O : Int32 → Ix → Lx → (Bool → Ix → Lx → Prop) → Prop) (a1 : Int32) (I : Ix) (L : Lx) (Q : Bool → Ix → Lx → Prop) : Prop := (¬ (I 51 3) = 4 → wpX3_unit_b16 E O Q a1 0 I L) ∧ ((I 51 3) = 4 → wpX3_unit_b16 E O Q a1 1 I L)
set_option maxRecDepth 10000 in
theorem okX3_unit_b174 {G : Gx} {E O : Int32 → Ix → Lx → (Bool → Ix → Lx → Prop) → Prop} {d : Nat} (hE : ∀ w I L Q, E w I L Q → Mf G (MX3_either d) [.ref 49, .int w] I L (qZ Q)) (hO : ∀ w I L Q, O w I L Q → Mf G (MX3_one d) [.ref 49, .int w] I L (qZ Q)) {Q : Bool → Ix → Lx → Prop} {I : Ix} {L : Lx} (h : wpX3_unit_b174 E O Q I L) : Ef G (MX3_unit (d + 1)) (qZ Q) 174 [] [] I L := by
  unfold wpX3_unit_b174 at h
  refine Ev.iconst (pc' := 175) dX3_unit_174 rfl ki_1 ?_
  refine Ev.goto (tgt := 179) dX3_unit_175 rfl ?_
  exact Ef.zret (b := true) dX3_unit_179 rfl h
set_option maxRecDepth 10000 in
theorem okX3_unit_b152 {G : Gx} {E O : Int32 → Ix → Lx → (Bool → Ix → Lx → Prop) → Prop} {d : Nat} (hE : ∀ w I L Q, E w I L Q → Mf G (MX3_either d) [.ref 49, .int w] I L (qZ Q)) (hO : ∀ w I L Q, O w I L Q → Mf G (MX3_one d) [.ref 49, .int w] I L (qZ Q)) {Q : Bool → Ix → Lx → Prop} {v1 : Int32} {v4 : Int32} {I : Ix} {L : Lx} (h : wpX3_unit_b152 E O Q v1 v4 I L) : Ef G (MX3_unit (d + 1)) (qZ Q) 152 [(0, .ref 49), (1, .int v1), (4, .int v4)] [] I L := by
  unfold wpX3_unit_b152 at h
  refine Ev.aload_n (k := 0) (pc' := 153) dX3_unit_152 rfl rfl rfl ?_
  refine Ev.getR (pc' := 156) dX3_unit_153 rfl fa_RX3_24 ob_49 fk_3_0 rf_49_0 ?_
  refine Ef.callVV [] [] (pc' := 159) dX3_unit_156 rfl cv_RX3_103_X8_step ⟨by show _ + 1 ≤ _; simp only [mD, MX3_unit, MX8_step]; omega, Nat.le_of_ble_eq_true rfl⟩ ob_51 rfl rfl rfl (Nat.le_of_ble_eq_true rfl) (okX8_step h) (fun I1 L2 h => ?_)
  refine Ev.iload (k := 2) (pc' := 161) dX3_unit_159 rfl rfl ?_
  refine Ev.if_eq (pc' := 164) (tgt := 174) dX3_unit_161 rfl rfl (fun hc => ?_) (fun hc => ?_)
  · have h := h.1 hc
    exact Ev.sub [] rfl (okX3_unit_b174 hE hO h)
  · have h := h.2 hc
    refine Ev.aload_n (k := 0) (pc' := 165) dX3_unit_164 rfl rfl rfl ?_
    refine Ev.iload_n (k := 1) (pc' := 166) dX3_unit_165 rfl rfl rfl ?_
    refine Ev.iconst (pc' := 167) dX3_unit_166 rfl ki_1 ?_
    refine Ev.iadd (pc' := 168) dX3_unit_167 rfl ?_
    refine Ef.callVZ [.int _] [] (pc' := 171) dX3_unit_168 rfl cv_RX3_241_X3_enclosed ⟨by show _ + 1 ≤ _; simp only [mD, MX3_unit, MX3_enclosed]; omega, Nat.le_of_ble_eq_true rfl⟩ ob_49 rfl rfl rfl (Nat.le_of_ble_eq_true rfl) (okX3_enclosed hE hO h) (fun r5 I3 L4 h => ?_)
    refine Ef.ifz_eq (pc' := 174) (tgt := 178) dX3_unit_171 rfl rfl (fun hc => ?_) (fun hc => ?_)
    · have h := h.1 hc
      refine Ev.iconst (pc' := 179) dX3_unit_178 rfl ki_0 ?_
      exact Ef.zret (b := false) dX3_unit_179 rfl h
    · have h := h.2 hc
      exact Ev.sub [] rfl (okX3_unit_b174 hE hO h)
set_option maxRecDepth 10000 in
theorem okX3_unit_b149 {G : Gx} {E O : Int32 → Ix → Lx → (Bool → Ix → Lx → Prop) → Prop} {d : Nat} (hE : ∀ w I L Q, E w I L Q → Mf G (MX3_either d) [.ref 49, .int w] I L (qZ Q)) (hO : ∀ w I L Q, O w I L Q → Mf G (MX3_one d) [.ref 49, .int w] I L (qZ Q)) {Q : Bool → Ix → Lx → Prop} {v1 : Int32} {v4 : Int32} {t1 : Int32} {I : Ix} {L : Lx} (h : wpX3_unit_b149 E O Q v1 v4 t1 I L) : Ef G (MX3_unit (d + 1)) (qZ Q) 149 [(0, .ref 49), (1, .int v1), (4, .int v4)] [.int t1, .ref 33] I L := by
  unfold wpX3_unit_b149 at h
  refine Ef.callVV [.int _] [] (pc' := 152) dX3_unit_149 rfl cv_RX3_219_X4_add_33 ⟨by show _ + 1 ≤ _; simp only [mD, MX3_unit, MX4_add_33]; omega, Nat.le_of_ble_eq_true rfl⟩ ob_33 rfl rfl rfl (Nat.le_of_ble_eq_true rfl) (okX4_add_33 h) (fun I1 L2 h => ?_)
  exact okX3_unit_b152 hE hO h
set_option maxRecDepth 10000 in
theorem okX3_unit_b102 {G : Gx} {E O : Int32 → Ix → Lx → (Bool → Ix → Lx → Prop) → Prop} {d : Nat} (hE : ∀ w I L Q, E w I L Q → Mf G (MX3_either d) [.ref 49, .int w] I L (qZ Q)) (hO : ∀ w I L Q, O w I L Q → Mf G (MX3_one d) [.ref 49, .int w] I L (qZ Q)) {Q : Bool → Ix → Lx → Prop} {v1 : Int32} {v2 : Int32} {v4 : Int32} {I : Ix} {L : Lx} (h : wpX3_unit_b102 E O Q v1 v2 v4 I L) : Ef G (MX3_unit (d + 1)) (qZ Q) 102 [(0, .ref 49), (1, .int v1), (2, .int v2), (4, .int v4)] [] I L := by
  unfold wpX3_unit_b102 at h
  refine Ev.aload_n (k := 0) (pc' := 103) dX3_unit_102 rfl rfl rfl ?_
  refine Ev.getR (pc' := 106) dX3_unit_103 rfl fa_RX3_43 ob_49 fk_3_3 rf_49_3 ?_
  refine Ev.dup (pc' := 107) dX3_unit_106 rfl rfl ?_
  refine Ev.getI (pc' := 110) dX3_unit_107 rfl fa_RX3_238 ob_33 fk_4_0 ?_
  refine Ev.iconst (pc' := 111) dX3_unit_110 rfl ki_1 ?_
  refine Ev.iadd (pc' := 112) dX3_unit_111 rfl ?_
  refine Ev.putI (pc' := 115) dX3_unit_112 rfl fa_RX3_238 ob_33 fk_4_0 rfl rfl (fun I1 eI1 => ?_)
  have h := h I1 eI1
  refine Ev.iload (k := 3) (pc' := 117) dX3_unit_115 rfl rfl ?_
  refine Ev.if_ne (pc' := 120) (tgt := 152) dX3_unit_117 rfl rfl (fun hc => ?_) (fun hc => ?_)
  · have h := h.1 hc
    exact Ev.sub [0, 1, 3] rfl (okX3_unit_b152 hE hO h)
  · have h := h.2 hc
    refine Ev.aload_n (k := 0) (pc' := 121) dX3_unit_120 rfl rfl rfl ?_
    refine Ev.getR (pc' := 124) dX3_unit_121 rfl fa_RX3_43 ob_49 fk_3_3 rf_49_3 ?_
    refine Ev.iload_n (k := 2) (pc' := 125) dX3_unit_124 rfl rfl rfl ?_
    refine Ev.if_eq (pc' := 128) (tgt := 138) dX3_unit_125 rfl rfl (fun hc => ?_) (fun hc => ?_)
    · have h := h.1 hc
      refine Ev.sipush (pc' := 141) dX3_unit_138 rfl ks_10000 ?_
      refine Ev.aload_n (k := 0) (pc' := 142) dX3_unit_141 rfl rfl rfl ?_
      refine Ev.getR (pc' := 145) dX3_unit_142 rfl fa_RX3_24 ob_49 fk_3_0 rf_49_0 ?_
      refine Ev.getI (pc' := 148) dX3_unit_145 rfl fa_RX3_79 ob_51 fk_8_5 ?_
      refine Ev.iadd (pc' := 149) dX3_unit_148 rfl ?_
      exact Ev.sub [0, 1, 3] rfl (okX3_unit_b149 hE hO h)
    · have h := h.2 hc
      refine Ev.aload_n (k := 0) (pc' := 129) dX3_unit_128 rfl rfl rfl ?_
      refine Ev.getR (pc' := 132) dX3_unit_129 rfl fa_RX3_24 ob_49 fk_3_0 rf_49_0 ?_
      refine Ev.getI (pc' := 135) dX3_unit_132 rfl fa_RX3_79 ob_51 fk_8_5 ?_
      refine Ev.goto (tgt := 149) dX3_unit_135 rfl ?_
      exact Ev.sub [0, 1, 3] rfl (okX3_unit_b149 hE hO h)
set_option maxRecDepth 10000 in
theorem okX3_unit_b96 {G : Gx} {E O : Int32 → Ix → Lx → (Bool → Ix → Lx → Prop) → Prop} {d : Nat} (hE : ∀ w I L Q, E w I L Q → Mf G (MX3_either d) [.ref 49, .int w] I L (qZ Q)) (hO : ∀ w I L Q, O w I L Q → Mf G (MX3_one d) [.ref 49, .int w] I L (qZ Q)) {Q : Bool → Ix → Lx → Prop} {I : Ix} {L : Lx} (h : wpX3_unit_b96 E O Q I L) : Ef G (MX3_unit (d + 1)) (qZ Q) 96 [(0, .ref 49)] [] I L := by
  unfold wpX3_unit_b96 at h
  refine Ev.aload_n (k := 0) (pc' := 97) dX3_unit_96 rfl rfl rfl ?_
  refine Ev.iconst (pc' := 98) dX3_unit_97 rfl ki_2 ?_
  refine Ef.callVZ [.int _] [] (pc' := 101) dX3_unit_98 rfl cv_RX3_75_X3_refuse ⟨by show _ + 1 ≤ _; simp only [mD, MX3_unit, MX3_refuse]; omega, Nat.le_of_ble_eq_true rfl⟩ ob_49 rfl rfl rfl (Nat.le_of_ble_eq_true rfl) (okX3_refuse h) (fun r3 I1 L2 h => ?_)
  exact Ef.zret dX3_unit_101 rfl h
set_option maxRecDepth 10000 in
theorem okX3_unit_b69 {G : Gx} {E O : Int32 → Ix → Lx → (Bool → Ix → Lx → Prop) → Prop} {d : Nat} (hE : ∀ w I L Q, E w I L Q → Mf G (MX3_either d) [.ref 49, .int w] I L (qZ Q)) (hO : ∀ w I L Q, O w I L Q → Mf G (MX3_one d) [.ref 49, .int w] I L (qZ Q)) {Q : Bool → Ix → Lx → Prop} {v1 : Int32} {v2 : Int32} {v3 : Int32} {t0 : Int32} {I : Ix} {L : Lx} (h : wpX3_unit_b69 E O Q v1 v2 v3 t0 I L) : Ef G (MX3_unit (d + 1)) (qZ Q) 69 [(0, .ref 49), (1, .int v1), (2, .int v2), (3, .int v3)] [.int t0] I L := by
  unfold wpX3_unit_b69 at h
  refine Ev.istore (ls' := [(4, .int _), (0, .ref _), (1, .int _), (2, .int _), (3, .int _)]) (pc' := 71) dX3_unit_69 rfl (Nat.le_of_ble_eq_true rfl) rfl ?_
  refine Ev.aload_n (k := 1) (pc' := 72) dX3_unit_71 rfl rfl rfl ?_
  refine Ev.getR (pc' := 75) dX3_unit_72 rfl fa_RX3_43 ob_49 fk_3_3 rf_49_3 ?_
  refine Ev.getI (pc' := 78) dX3_unit_75 rfl fa_RX3_238 ob_33 fk_4_0 ?_
  refine Ev.bipush (pc' := 80) dX3_unit_78 rfl kb_80 ?_
  refine Ev.icmp_ge (pc' := 83) (tgt := 96) dX3_unit_80 rfl rfl (fun hc => ?_) (fun hc => ?_)
  · have h := h.1 hc
    exact Ev.sub [1] rfl (okX3_unit_b96 hE hO h)
  · have h := h.2 hc
    refine Ev.iload_n (k := 3) (pc' := 84) dX3_unit_83 rfl rfl rfl ?_
    refine Ev.if_ne (pc' := 87) (tgt := 102) dX3_unit_84 rfl rfl (fun hc => ?_) (fun hc => ?_)
    · have h := h.1 hc
      exact Ev.sub [1, 2, 3, 0] rfl (okX3_unit_b102 hE hO h)
    · have h := h.2 hc
      refine Ev.iload_n (k := 4) (pc' := 88) dX3_unit_87 rfl rfl rfl ?_
      refine Ev.if_ne (pc' := 91) (tgt := 102) dX3_unit_88 rfl rfl (fun hc => ?_) (fun hc => ?_)
      · have h := h.1 hc
        exact Ev.sub [1, 2, 3, 0] rfl (okX3_unit_b102 hE hO h)
      · have h := h.2 hc
        refine Ev.iload (k := 0) (pc' := 93) dX3_unit_91 rfl rfl ?_
        refine Ev.if_ne (pc' := 96) (tgt := 102) dX3_unit_93 rfl rfl (fun hc => ?_) (fun hc => ?_)
        · have h := h.1 hc
          exact Ev.sub [1, 2, 3, 0] rfl (okX3_unit_b102 hE hO h)
        · have h := h.2 hc
          exact Ev.sub [1] rfl (okX3_unit_b96 hE hO h)
set_option maxRecDepth 10000 in
theorem okX3_unit_b68 {G : Gx} {E O : Int32 → Ix → Lx → (Bool → Ix → Lx → Prop) → Prop} {d : Nat} (hE : ∀ w I L Q, E w I L Q → Mf G (MX3_either d) [.ref 49, .int w] I L (qZ Q)) (hO : ∀ w I L Q, O w I L Q → Mf G (MX3_one d) [.ref 49, .int w] I L (qZ Q)) {Q : Bool → Ix → Lx → Prop} {v1 : Int32} {v2 : Int32} {v3 : Int32} {I : Ix} {L : Lx} (h : wpX3_unit_b68 E O Q v1 v2 v3 I L) : Ef G (MX3_unit (d + 1)) (qZ Q) 68 [(0, .ref 49), (1, .int v1), (2, .int v2), (3, .int v3)] [] I L := by
  unfold wpX3_unit_b68 at h
  refine Ev.iconst (pc' := 69) dX3_unit_68 rfl ki_0 ?_
  exact okX3_unit_b69 hE hO h
set_option maxRecDepth 10000 in
theorem okX3_unit_b45 {G : Gx} {E O : Int32 → Ix → Lx → (Bool → Ix → Lx → Prop) → Prop} {d : Nat} (hE : ∀ w I L Q, E w I L Q → Mf G (MX3_either d) [.ref 49, .int w] I L (qZ Q)) (hO : ∀ w I L Q, O w I L Q → Mf G (MX3_one d) [.ref 49, .int w] I L (qZ Q)) {Q : Bool → Ix → Lx → Prop} {v1 : Int32} {v2 : Int32} {t0 : Int32} {I : Ix} {L : Lx} (h : wpX3_unit_b45 E O Q v1 v2 t0 I L) : Ef G (MX3_unit (d + 1)) (qZ Q) 45 [(0, .ref 49), (1, .int v1), (2, .int v2)] [.int t0] I L := by
  unfold wpX3_unit_b45 at h
  refine Ev.istore_n (ls' := [(3, .int _), (0, .ref _), (1, .int _), (2, .int _)]) (pc' := 46) dX3_unit_45 rfl rfl (Nat.le_of_ble_eq_true rfl) rfl ?_
  refine Ev.aload_n (k := 1) (pc' := 47) dX3_unit_46 rfl rfl rfl ?_
  refine Ev.getR (pc' := 50) dX3_unit_47 rfl fa_RX3_24 ob_49 fk_3_0 rf_49_0 ?_
  refine Ev.bipush (pc' := 52) dX3_unit_50 rfl kb_40 ?_
  refine Ef.callVZ [.int _] [] (pc' := 55) dX3_unit_52 rfl cv_RX3_209_X8_isSign ⟨by show _ + 1 ≤ _; simp only [mD, MX3_unit, MX8_isSign]; omega, Nat.le_of_ble_eq_true rfl⟩ ob_51 rfl rfl rfl (Nat.le_of_ble_eq_true rfl) (okX8_isSign h) (fun r3 I1 L2 h => ?_)
  refine Ef.ifz_eq (pc' := 58) (tgt := 68) dX3_unit_55 rfl rfl (fun hc => ?_) (fun hc => ?_)
  · have h := h.1 hc
    exact Ev.sub [1, 2, 3, 0] rfl (okX3_unit_b68 hE hO h)
  · have h := h.2 hc
    refine Ev.iload_n (k := 2) (pc' := 59) dX3_unit_58 rfl rfl rfl ?_
    refine Ev.bipush (pc' := 61) dX3_unit_59 rfl kb_6 ?_
    refine Ev.icmp_gt (pc' := 64) (tgt := 68) dX3_unit_61 rfl rfl (fun hc => ?_) (fun hc => ?_)
    · have h := h.1 hc
      exact Ev.sub [1, 2, 3, 0] rfl (okX3_unit_b68 hE hO h)
    · have h := h.2 hc
      refine Ev.iconst (pc' := 65) dX3_unit_64 rfl ki_1 ?_
      refine Ev.goto (tgt := 69) dX3_unit_65 rfl ?_
      exact Ev.sub [1, 2, 3, 0] rfl (okX3_unit_b69 hE hO h)
set_option maxRecDepth 10000 in
theorem okX3_unit_b44 {G : Gx} {E O : Int32 → Ix → Lx → (Bool → Ix → Lx → Prop) → Prop} {d : Nat} (hE : ∀ w I L Q, E w I L Q → Mf G (MX3_either d) [.ref 49, .int w] I L (qZ Q)) (hO : ∀ w I L Q, O w I L Q → Mf G (MX3_one d) [.ref 49, .int w] I L (qZ Q)) {Q : Bool → Ix → Lx → Prop} {v1 : Int32} {v2 : Int32} {I : Ix} {L : Lx} (h : wpX3_unit_b44 E O Q v1 v2 I L) : Ef G (MX3_unit (d + 1)) (qZ Q) 44 [(0, .ref 49), (1, .int v1), (2, .int v2)] [] I L := by
  unfold wpX3_unit_b44 at h
  refine Ev.iconst (pc' := 45) dX3_unit_44 rfl ki_0 ?_
  exact okX3_unit_b45 hE hO h
set_option maxRecDepth 10000 in
theorem okX3_unit_b16 {G : Gx} {E O : Int32 → Ix → Lx → (Bool → Ix → Lx → Prop) → Prop} {d : Nat} (hE : ∀ w I L Q, E w I L Q → Mf G (MX3_either d) [.ref 49, .int w] I L (qZ Q)) (hO : ∀ w I L Q, O w I L Q → Mf G (MX3_one d) [.ref 49, .int w] I L (qZ Q)) {Q : Bool → Ix → Lx → Prop} {v1 : Int32} {t0 : Int32} {I : Ix} {L : Lx} (h : wpX3_unit_b16 E O Q v1 t0 I L) : Ef G (MX3_unit (d + 1)) (qZ Q) 16 [(0, .ref 49), (1, .int v1)] [.int t0] I L := by
  unfold wpX3_unit_b16 at h
  refine Ev.istore_n (ls' := [(2, .int _), (0, .ref _), (1, .int _)]) (pc' := 17) dX3_unit_16 rfl rfl (Nat.le_of_ble_eq_true rfl) rfl ?_
  refine Ev.aload_n (k := 1) (pc' := 18) dX3_unit_17 rfl rfl rfl ?_
  refine Ev.getR (pc' := 21) dX3_unit_18 rfl fa_RX3_24 ob_49 fk_3_0 rf_49_0 ?_
  refine Ev.getI (pc' := 24) dX3_unit_21 rfl fa_RX3_60 ob_51 fk_8_3 ?_
  refine Ev.iconst (pc' := 25) dX3_unit_24 rfl ki_2 ?_
  refine Ev.icmp_ne (pc' := 28) (tgt := 44) dX3_unit_25 rfl rfl (fun hc => ?_) (fun hc => ?_)
  · have h := h.1 hc
    exact Ev.sub [1, 2, 0] rfl (okX3_unit_b44 hE hO h)
  · have h := h.2 hc
    refine Ev.aload_n (k := 1) (pc' := 29) dX3_unit_28 rfl rfl rfl ?_
    refine Ev.getR (pc' := 32) dX3_unit_29 rfl fa_RX3_24 ob_49 fk_3_0 rf_49_0 ?_
    refine Ev.getI (pc' := 35) dX3_unit_32 rfl fa_RX3_79 ob_51 fk_8_5 ?_
    refine Ev.bipush (pc' := 37) dX3_unit_35 rfl kb_11 ?_
    refine Ev.icmp_ge (pc' := 40) (tgt := 44) dX3_unit_37 rfl rfl (fun hc => ?_) (fun hc => ?_)
    · have h := h.1 hc
      exact Ev.sub [1, 2, 0] rfl (okX3_unit_b44 hE hO h)
    · have h := h.2 hc
      refine Ev.iconst (pc' := 41) dX3_unit_40 rfl ki_1 ?_
      refine Ev.goto (tgt := 45) dX3_unit_41 rfl ?_
      exact Ev.sub [1, 2, 0] rfl (okX3_unit_b45 hE hO h)
set_option maxRecDepth 10000 in
theorem okX3_unit {G : Gx} {E O : Int32 → Ix → Lx → (Bool → Ix → Lx → Prop) → Prop} {d : Nat} (hE : ∀ w I L Q, E w I L Q → Mf G (MX3_either d) [.ref 49, .int w] I L (qZ Q)) (hO : ∀ w I L Q, O w I L Q → Mf G (MX3_one d) [.ref 49, .int w] I L (qZ Q)) {a1 : Int32} {I : Ix} {L : Lx} {Q : Bool → Ix → Lx → Prop} (h : wpX3_unit E O a1 I L Q) : Mf G (MX3_unit (d + 1)) [.ref 49, .int a1] I L (qZ Q) := by
  unfold wpX3_unit at h
  refine Mf.of pn_RX3 (Nat.le_of_ble_eq_true rfl) ?_
  refine Ev.aload_n (k := 0) (pc' := 1) dX3_unit_0 rfl rfl rfl ?_
  refine Ev.getR (pc' := 4) dX3_unit_1 rfl fa_RX3_24 ob_49 fk_3_0 rf_49_0 ?_
  refine Ev.getI (pc' := 7) dX3_unit_4 rfl fa_RX3_60 ob_51 fk_8_3 ?_
  refine Ev.iconst (pc' := 8) dX3_unit_7 rfl ki_4 ?_
  refine Ev.icmp_ne (pc' := 11) (tgt := 15) dX3_unit_8 rfl rfl (fun hc => ?_) (fun hc => ?_)
  · have h := h.1 hc
    refine Ev.iconst (pc' := 16) dX3_unit_15 rfl ki_0 ?_
    exact okX3_unit_b16 hE hO h
  · have h := h.2 hc
    refine Ev.iconst (pc' := 12) dX3_unit_11 rfl ki_1 ?_
    refine Ev.goto (tgt := 16) dX3_unit_12 rfl ?_
    exact okX3_unit_b16 hE hO h
def wpX3_term_l12 (E O : Int32 → Ix → Lx → (Bool → Ix → Lx → Prop) → Prop) (Q : Bool → Ix → Lx → Prop) (P12 : Int32 → Int32 → Ix → Lx → Prop) (v1 : Int32) (v2 : Int32) (I : Ix) (L : Lx) : Prop := (1700 ≤ v2 → Q true I L) ∧ (¬ 1700 ≤ v2 → wpX8_isSign 42 I L (fun r3 I1 L2 => (r3 = false → Q true I1 L2) ∧ (r3 = true → wpX8_step I1 L2 (fun I4 L5 => wpX3_unit E O v1 I4 L5 (fun r8 I6 L7 => (r8 = true → wpX4_add_33 20042 I6 L7 (fun I9 L10 => P12 v1 (v2 + 1) I9 L10)) ∧ (r8 = false → Q false I6 L7))))))
def wpX3_term_h12 (E O : Int32 → Ix → Lx → (Bool → Ix → Lx → Prop) → Prop) (Q : Bool → Ix → Lx → Prop) (v1 : Int32) (v2 : Int32) (I : Ix) (L : Lx) : Prop := Lfp (X := Int32 × Int32 × Ix × Lx) (fun P z => wpX3_term_l12 E O Q (fun v1 v2 I L => P (v1, v2, I, L)) z.1 z.2.1 z.2.2.1 z.2.2.2) (v1, v2, I, L)
theorem wpX3_term_h12_fold {E O : Int32 → Ix → Lx → (Bool → Ix → Lx → Prop) → Prop} {Q : Bool → Ix → Lx → Prop} {v1 : Int32} {v2 : Int32} {I : Ix} {L : Lx} (h : wpX3_term_l12 E O Q (wpX3_term_h12 E O Q) v1 v2 I L) : wpX3_term_h12 E O Q v1 v2 I L := Lfp.fold h
def wpX3_term (E O : Int32 → Ix → Lx → (Bool → Ix → Lx → Prop) → Prop) (a1 : Int32) (I : Ix) (L : Lx) (Q : Bool → Ix → Lx → Prop) : Prop := wpX3_unit E O a1 I L (fun r3 I1 L2 => (r3 = true → wpX3_term_h12 E O Q a1 0 I1 L2) ∧ (r3 = false → Q false I1 L2))
set_option maxRecDepth 10000 in
theorem okX3_term_l12 {G : Gx} {E O : Int32 → Ix → Lx → (Bool → Ix → Lx → Prop) → Prop} {d : Nat} (hE : ∀ w I L Q, E w I L Q → Mf G (MX3_either d) [.ref 49, .int w] I L (qZ Q)) (hO : ∀ w I L Q, O w I L Q → Mf G (MX3_one d) [.ref 49, .int w] I L (qZ Q)) {Q : Bool → Ix → Lx → Prop} {P12 : Int32 → Int32 → Ix → Lx → Prop} (hP12 : ∀ (v1 : Int32) (v2 : Int32) (I : Ix) (L : Lx), P12 v1 v2 I L → Ef G (MX3_term (d + 1)) (qZ Q) 12 [(0, .ref 49), (1, .int v1), (2, .int v2)] [] I L) {v1 : Int32} {v2 : Int32} {I : Ix} {L : Lx} (h : wpX3_term_l12 E O Q P12 v1 v2 I L) : Ef G (MX3_term (d + 1)) (qZ Q) 12 [(0, .ref 49), (1, .int v1), (2, .int v2)] [] I L := by
  unfold wpX3_term_l12 at h
  refine Ev.iload_n (k := 2) (pc' := 13) dX3_term_12 rfl rfl rfl ?_
  refine Ev.sipush (pc' := 16) dX3_term_13 rfl ks_1700 ?_
  refine Ev.icmp_ge (pc' := 19) (tgt := 64) dX3_term_16 rfl rfl (fun hc => ?_) (fun hc => ?_)
  · have h := h.1 hc
    refine Ev.iconst (pc' := 65) dX3_term_64 rfl ki_1 ?_
    exact Ef.zret (b := true) dX3_term_65 rfl h
  · have h := h.2 hc
    refine Ev.aload_n (k := 0) (pc' := 20) dX3_term_19 rfl rfl rfl ?_
    refine Ev.getR (pc' := 23) dX3_term_20 rfl fa_RX3_24 ob_49 fk_3_0 rf_49_0 ?_
    refine Ev.bipush (pc' := 25) dX3_term_23 rfl kb_42 ?_
    refine Ef.callVZ [.int _] [] (pc' := 28) dX3_term_25 rfl cv_RX3_209_X8_isSign ⟨by show _ + 1 ≤ _; simp only [mD, MX3_term, MX8_isSign]; omega, Nat.le_of_ble_eq_true rfl⟩ ob_51 rfl rfl rfl (Nat.le_of_ble_eq_true rfl) (okX8_isSign h) (fun r3 I1 L2 h => ?_)
    refine Ef.ifz_eq (pc' := 31) (tgt := 64) dX3_term_28 rfl rfl (fun hc => ?_) (fun hc => ?_)
    · have h := h.1 hc
      refine Ev.iconst (pc' := 65) dX3_term_64 rfl ki_1 ?_
      exact Ef.zret (b := true) dX3_term_65 rfl h
    · have h := h.2 hc
      refine Ev.aload_n (k := 0) (pc' := 32) dX3_term_31 rfl rfl rfl ?_
      refine Ev.getR (pc' := 35) dX3_term_32 rfl fa_RX3_24 ob_49 fk_3_0 rf_49_0 ?_
      refine Ef.callVV [] [] (pc' := 38) dX3_term_35 rfl cv_RX3_103_X8_step ⟨by show _ + 1 ≤ _; simp only [mD, MX3_term, MX8_step]; omega, Nat.le_of_ble_eq_true rfl⟩ ob_51 rfl rfl rfl (Nat.le_of_ble_eq_true rfl) (okX8_step h) (fun I4 L5 h => ?_)
      refine Ev.aload_n (k := 0) (pc' := 39) dX3_term_38 rfl rfl rfl ?_
      refine Ev.iload_n (k := 1) (pc' := 40) dX3_term_39 rfl rfl rfl ?_
      refine Ef.callVZ [.int _] [] (pc' := 43) dX3_term_40 rfl cv_RX3_235_X3_unit ⟨by show _ + 1 ≤ _; simp only [mD, MX3_term, MX3_unit]; omega, Nat.le_of_ble_eq_true rfl⟩ ob_49 rfl rfl rfl (Nat.le_of_ble_eq_true rfl) (okX3_unit hE hO h) (fun r8 I6 L7 h => ?_)
      refine Ef.ifz_ne (pc' := 46) (tgt := 48) dX3_term_43 rfl rfl (fun hc => ?_) (fun hc => ?_)
      · have h := h.1 hc
        refine Ev.aload_n (k := 0) (pc' := 49) dX3_term_48 rfl rfl rfl ?_
        refine Ev.getR (pc' := 52) dX3_term_49 rfl fa_RX3_43 ob_49 fk_3_3 rf_49_3 ?_
        refine Ev.sipush (pc' := 55) dX3_term_52 rfl ks_20042 ?_
        refine Ef.callVV [.int _] [] (pc' := 58) dX3_term_55 rfl cv_RX3_219_X4_add_33 ⟨by show _ + 1 ≤ _; simp only [mD, MX3_term, MX4_add_33]; omega, Nat.le_of_ble_eq_true rfl⟩ ob_33 rfl rfl rfl (Nat.le_of_ble_eq_true rfl) (okX4_add_33 h) (fun I9 L10 h => ?_)
        refine Ev.iinc (k := 2) (v := _) (ls' := [(2, .int _), (0, .ref _), (1, .int _)]) (pc' := 61) dX3_term_58 rfl rfl (congrArg (_ + ·) ki_1) (Nat.le_of_ble_eq_true rfl) rfl ?_
        refine Ev.goto (tgt := 12) dX3_term_61 rfl ?_
        exact Ev.sub [1, 2, 0] rfl (hP12 _ _ _ _ h)
      · have h := h.2 hc
        refine Ev.iconst (pc' := 47) dX3_term_46 rfl ki_0 ?_
        exact Ef.zret (b := false) dX3_term_47 rfl h
set_option maxRecDepth 10000 in
theorem okX3_term_h12 {G : Gx} {E O : Int32 → Ix → Lx → (Bool → Ix → Lx → Prop) → Prop} {d : Nat} (hE : ∀ w I L Q, E w I L Q → Mf G (MX3_either d) [.ref 49, .int w] I L (qZ Q)) (hO : ∀ w I L Q, O w I L Q → Mf G (MX3_one d) [.ref 49, .int w] I L (qZ Q)) {Q : Bool → Ix → Lx → Prop} {v1 : Int32} {v2 : Int32} {I : Ix} {L : Lx} (h : wpX3_term_h12 E O Q v1 v2 I L) : Ef G (MX3_term (d + 1)) (qZ Q) 12 [(0, .ref 49), (1, .int v1), (2, .int v2)] [] I L := by
  unfold wpX3_term_h12 at h
  refine Lfp.ind (P := fun z => Ef G (MX3_term (d + 1)) (qZ Q) 12 [(0, .ref 49), (1, .int z.1), (2, .int z.2.1)] [] z.2.2.1 z.2.2.2) ?_ h
  intro z P' hP' h
  obtain ⟨v1, v2, I, L⟩ := z
  exact okX3_term_l12 hE hO (fun v1 v2 I L h9 => hP' (v1, v2, I, L) h9) h
set_option maxRecDepth 10000 in
theorem okX3_term {G : Gx} {E O : Int32 → Ix → Lx → (Bool → Ix → Lx → Prop) → Prop} {d : Nat} (hE : ∀ w I L Q, E w I L Q → Mf G (MX3_either d) [.ref 49, .int w] I L (qZ Q)) (hO : ∀ w I L Q, O w I L Q → Mf G (MX3_one d) [.ref 49, .int w] I L (qZ Q)) {a1 : Int32} {I : Ix} {L : Lx} {Q : Bool → Ix → Lx → Prop} (h : wpX3_term E O a1 I L Q) : Mf G (MX3_term (d + 1)) [.ref 49, .int a1] I L (qZ Q) := by
  unfold wpX3_term at h
  refine Mf.of pn_RX3 (Nat.le_of_ble_eq_true rfl) ?_
  refine Ev.aload_n (k := 0) (pc' := 1) dX3_term_0 rfl rfl rfl ?_
  refine Ev.iload_n (k := 1) (pc' := 2) dX3_term_1 rfl rfl rfl ?_
  refine Ef.callVZ [.int _] [] (pc' := 5) dX3_term_2 rfl cv_RX3_235_X3_unit ⟨by show _ + 1 ≤ _; simp only [mD, MX3_term, MX3_unit]; omega, Nat.le_of_ble_eq_true rfl⟩ ob_49 rfl rfl rfl (Nat.le_of_ble_eq_true rfl) (okX3_unit hE hO h) (fun r3 I1 L2 h => ?_)
  refine Ef.ifz_ne (pc' := 8) (tgt := 10) dX3_term_5 rfl rfl (fun hc => ?_) (fun hc => ?_)
  · have h := h.1 hc
    refine Ev.iconst (pc' := 11) dX3_term_10 rfl ki_0 ?_
    refine Ev.istore_n (ls' := [(2, .int _), (0, .ref _), (1, .int _)]) (pc' := 12) dX3_term_11 rfl rfl (Nat.le_of_ble_eq_true rfl) rfl ?_
    exact Ev.sub [1, 2, 0] rfl (okX3_term_h12 hE hO h)
  · have h := h.2 hc
    refine Ev.iconst (pc' := 9) dX3_term_8 rfl ki_0 ?_
    exact Ef.zret (b := false) dX3_term_9 rfl h
def wpX3_sum_b43 (E O : Int32 → Ix → Lx → (Bool → Ix → Lx → Prop) → Prop) (Q : Bool → Ix → Lx → Prop) (P12 : Int32 → Int32 → Ix → Lx → Prop) (v1 : Int32) (v2 : Int32) (I : Ix) (L : Lx) : Prop := wpX8_step I L (fun I1 L2 => wpX3_term E O v1 I1 L2 (fun r5 I3 L4 => (r5 = true → wpX4_add_33 (20000 + (I 51 5)) I3 L4 (fun I6 L7 => P12 v1 (v2 + 1) I6 L7)) ∧ (r5 = false → Q false I3 L4)))
def wpX3_sum_l12 (E O : Int32 → Ix → Lx → (Bool → Ix → Lx → Prop) → Prop) (Q : Bool → Ix → Lx → Prop) (P12 : Int32 → Int32 → Ix → Lx → Prop) (v1 : Int32) (v2 : Int32) (I : Ix) (L : Lx) : Prop := (1700 ≤ v2 → Q true I L) ∧ (¬ 1700 ≤ v2 → wpX8_isSign 43 I L (fun r3 I1 L2 => (r3 = true → wpX3_sum_b43 E O Q P12 v1 v2 I1 L2) ∧ (r3 = false → wpX8_isSign 45 I1 L2 (fun r6 I4 L5 => (r6 = false → Q true I4 L5) ∧ (r6 = true → wpX3_sum_b43 E O Q P12 v1 v2 I4 L5)))))
def wpX3_sum_h12 (E O : Int32 → Ix → Lx → (Bool → Ix → Lx → Prop) → Prop) (Q : Bool → Ix → Lx → Prop) (v1 : Int32) (v2 : Int32) (I : Ix) (L : Lx) : Prop := Lfp (X := Int32 × Int32 × Ix × Lx) (fun P z => wpX3_sum_l12 E O Q (fun v1 v2 I L => P (v1, v2, I, L)) z.1 z.2.1 z.2.2.1 z.2.2.2) (v1, v2, I, L)
theorem wpX3_sum_h12_fold {E O : Int32 → Ix → Lx → (Bool → Ix → Lx → Prop) → Prop} {Q : Bool → Ix → Lx → Prop} {v1 : Int32} {v2 : Int32} {I : Ix} {L : Lx} (h : wpX3_sum_l12 E O Q (wpX3_sum_h12 E O Q) v1 v2 I L) : wpX3_sum_h12 E O Q v1 v2 I L := Lfp.fold h
def wpX3_sum (E O : Int32 → Ix → Lx → (Bool → Ix → Lx → Prop) → Prop) (a1 : Int32) (I : Ix) (L : Lx) (Q : Bool → Ix → Lx → Prop) : Prop := wpX3_term E O a1 I L (fun r3 I1 L2 => (r3 = true → wpX3_sum_h12 E O Q a1 0 I1 L2) ∧ (r3 = false → Q false I1 L2))
set_option maxRecDepth 10000 in
theorem okX3_sum_b43 {G : Gx} {E O : Int32 → Ix → Lx → (Bool → Ix → Lx → Prop) → Prop} {d : Nat} (hE : ∀ w I L Q, E w I L Q → Mf G (MX3_either d) [.ref 49, .int w] I L (qZ Q)) (hO : ∀ w I L Q, O w I L Q → Mf G (MX3_one d) [.ref 49, .int w] I L (qZ Q)) {Q : Bool → Ix → Lx → Prop} {P12 : Int32 → Int32 → Ix → Lx → Prop} (hP12 : ∀ (v1 : Int32) (v2 : Int32) (I : Ix) (L : Lx), P12 v1 v2 I L → Ef G (MX3_sum (d + 1)) (qZ Q) 12 [(0, .ref 49), (1, .int v1), (2, .int v2)] [] I L) {v1 : Int32} {v2 : Int32} {I : Ix} {L : Lx} (h : wpX3_sum_b43 E O Q P12 v1 v2 I L) : Ef G (MX3_sum (d + 1)) (qZ Q) 43 [(0, .ref 49), (1, .int v1), (2, .int v2)] [] I L := by
  unfold wpX3_sum_b43 at h
  refine Ev.sipush (pc' := 46) dX3_sum_43 rfl ks_20000 ?_
  refine Ev.aload_n (k := 0) (pc' := 47) dX3_sum_46 rfl rfl rfl ?_
  refine Ev.getR (pc' := 50) dX3_sum_47 rfl fa_RX3_24 ob_49 fk_3_0 rf_49_0 ?_
  refine Ev.getI (pc' := 53) dX3_sum_50 rfl fa_RX3_79 ob_51 fk_8_5 ?_
  refine Ev.iadd (pc' := 54) dX3_sum_53 rfl ?_
  refine Ev.istore_n (ls' := [(3, .int _), (0, .ref _), (1, .int _), (2, .int _)]) (pc' := 55) dX3_sum_54 rfl rfl (Nat.le_of_ble_eq_true rfl) rfl ?_
  refine Ev.aload_n (k := 1) (pc' := 56) dX3_sum_55 rfl rfl rfl ?_
  refine Ev.getR (pc' := 59) dX3_sum_56 rfl fa_RX3_24 ob_49 fk_3_0 rf_49_0 ?_
  refine Ef.callVV [] [] (pc' := 62) dX3_sum_59 rfl cv_RX3_103_X8_step ⟨by show _ + 1 ≤ _; simp only [mD, MX3_sum, MX8_step]; omega, Nat.le_of_ble_eq_true rfl⟩ ob_51 rfl rfl rfl (Nat.le_of_ble_eq_true rfl) (okX8_step h) (fun I1 L2 h => ?_)
  refine Ev.aload_n (k := 1) (pc' := 63) dX3_sum_62 rfl rfl rfl ?_
  refine Ev.iload_n (k := 2) (pc' := 64) dX3_sum_63 rfl rfl rfl ?_
  refine Ef.callVZ [.int _] [] (pc' := 67) dX3_sum_64 rfl cv_RX3_232_X3_term ⟨by show _ + 1 ≤ _; simp only [mD, MX3_sum, MX3_term]; omega, Nat.le_of_ble_eq_true rfl⟩ ob_49 rfl rfl rfl (Nat.le_of_ble_eq_true rfl) (okX3_term hE hO h) (fun r5 I3 L4 h => ?_)
  refine Ef.ifz_ne (pc' := 70) (tgt := 72) dX3_sum_67 rfl rfl (fun hc => ?_) (fun hc => ?_)
  · have h := h.1 hc
    refine Ev.aload_n (k := 1) (pc' := 73) dX3_sum_72 rfl rfl rfl ?_
    refine Ev.getR (pc' := 76) dX3_sum_73 rfl fa_RX3_43 ob_49 fk_3_3 rf_49_3 ?_
    refine Ev.iload_n (k := 0) (pc' := 77) dX3_sum_76 rfl rfl rfl ?_
    refine Ef.callVV [.int _] [] (pc' := 80) dX3_sum_77 rfl cv_RX3_219_X4_add_33 ⟨by show _ + 1 ≤ _; simp only [mD, MX3_sum, MX4_add_33]; omega, Nat.le_of_ble_eq_true rfl⟩ ob_33 rfl rfl rfl (Nat.le_of_ble_eq_true rfl) (okX4_add_33 h) (fun I6 L7 h => ?_)
    refine Ev.iinc (k := 3) (v := _) (ls' := [(2, .int _), (3, .int _), (0, .ref _), (1, .int _)]) (pc' := 83) dX3_sum_80 rfl rfl (congrArg (_ + ·) ki_1) (Nat.le_of_ble_eq_true rfl) rfl ?_
    refine Ev.goto (tgt := 12) dX3_sum_83 rfl ?_
    exact Ev.sub [2, 3, 0] rfl (hP12 _ _ _ _ h)
  · have h := h.2 hc
    refine Ev.iconst (pc' := 71) dX3_sum_70 rfl ki_0 ?_
    exact Ef.zret (b := false) dX3_sum_71 rfl h
set_option maxRecDepth 10000 in
theorem okX3_sum_l12 {G : Gx} {E O : Int32 → Ix → Lx → (Bool → Ix → Lx → Prop) → Prop} {d : Nat} (hE : ∀ w I L Q, E w I L Q → Mf G (MX3_either d) [.ref 49, .int w] I L (qZ Q)) (hO : ∀ w I L Q, O w I L Q → Mf G (MX3_one d) [.ref 49, .int w] I L (qZ Q)) {Q : Bool → Ix → Lx → Prop} {P12 : Int32 → Int32 → Ix → Lx → Prop} (hP12 : ∀ (v1 : Int32) (v2 : Int32) (I : Ix) (L : Lx), P12 v1 v2 I L → Ef G (MX3_sum (d + 1)) (qZ Q) 12 [(0, .ref 49), (1, .int v1), (2, .int v2)] [] I L) {v1 : Int32} {v2 : Int32} {I : Ix} {L : Lx} (h : wpX3_sum_l12 E O Q P12 v1 v2 I L) : Ef G (MX3_sum (d + 1)) (qZ Q) 12 [(0, .ref 49), (1, .int v1), (2, .int v2)] [] I L := by
  unfold wpX3_sum_l12 at h
  refine Ev.iload_n (k := 2) (pc' := 13) dX3_sum_12 rfl rfl rfl ?_
  refine Ev.sipush (pc' := 16) dX3_sum_13 rfl ks_1700 ?_
  refine Ev.icmp_ge (pc' := 19) (tgt := 86) dX3_sum_16 rfl rfl (fun hc => ?_) (fun hc => ?_)
  · have h := h.1 hc
    refine Ev.iconst (pc' := 87) dX3_sum_86 rfl ki_1 ?_
    exact Ef.zret (b := true) dX3_sum_87 rfl h
  · have h := h.2 hc
    refine Ev.aload_n (k := 0) (pc' := 20) dX3_sum_19 rfl rfl rfl ?_
    refine Ev.getR (pc' := 23) dX3_sum_20 rfl fa_RX3_24 ob_49 fk_3_0 rf_49_0 ?_
    refine Ev.bipush (pc' := 25) dX3_sum_23 rfl kb_43 ?_
    refine Ef.callVZ [.int _] [] (pc' := 28) dX3_sum_25 rfl cv_RX3_209_X8_isSign ⟨by show _ + 1 ≤ _; simp only [mD, MX3_sum, MX8_isSign]; omega, Nat.le_of_ble_eq_true rfl⟩ ob_51 rfl rfl rfl (Nat.le_of_ble_eq_true rfl) (okX8_isSign h) (fun r3 I1 L2 h => ?_)
    refine Ef.ifz_ne (pc' := 31) (tgt := 43) dX3_sum_28 rfl rfl (fun hc => ?_) (fun hc => ?_)
    · have h := h.1 hc
      exact okX3_sum_b43 hE hO hP12 h
    · have h := h.2 hc
      refine Ev.aload_n (k := 0) (pc' := 32) dX3_sum_31 rfl rfl rfl ?_
      refine Ev.getR (pc' := 35) dX3_sum_32 rfl fa_RX3_24 ob_49 fk_3_0 rf_49_0 ?_
      refine Ev.bipush (pc' := 37) dX3_sum_35 rfl kb_45 ?_
      refine Ef.callVZ [.int _] [] (pc' := 40) dX3_sum_37 rfl cv_RX3_209_X8_isSign ⟨by show _ + 1 ≤ _; simp only [mD, MX3_sum, MX8_isSign]; omega, Nat.le_of_ble_eq_true rfl⟩ ob_51 rfl rfl rfl (Nat.le_of_ble_eq_true rfl) (okX8_isSign h) (fun r6 I4 L5 h => ?_)
      refine Ef.ifz_eq (pc' := 43) (tgt := 86) dX3_sum_40 rfl rfl (fun hc => ?_) (fun hc => ?_)
      · have h := h.1 hc
        refine Ev.iconst (pc' := 87) dX3_sum_86 rfl ki_1 ?_
        exact Ef.zret (b := true) dX3_sum_87 rfl h
      · have h := h.2 hc
        exact okX3_sum_b43 hE hO hP12 h
set_option maxRecDepth 10000 in
theorem okX3_sum_h12 {G : Gx} {E O : Int32 → Ix → Lx → (Bool → Ix → Lx → Prop) → Prop} {d : Nat} (hE : ∀ w I L Q, E w I L Q → Mf G (MX3_either d) [.ref 49, .int w] I L (qZ Q)) (hO : ∀ w I L Q, O w I L Q → Mf G (MX3_one d) [.ref 49, .int w] I L (qZ Q)) {Q : Bool → Ix → Lx → Prop} {v1 : Int32} {v2 : Int32} {I : Ix} {L : Lx} (h : wpX3_sum_h12 E O Q v1 v2 I L) : Ef G (MX3_sum (d + 1)) (qZ Q) 12 [(0, .ref 49), (1, .int v1), (2, .int v2)] [] I L := by
  unfold wpX3_sum_h12 at h
  refine Lfp.ind (P := fun z => Ef G (MX3_sum (d + 1)) (qZ Q) 12 [(0, .ref 49), (1, .int z.1), (2, .int z.2.1)] [] z.2.2.1 z.2.2.2) ?_ h
  intro z P' hP' h
  obtain ⟨v1, v2, I, L⟩ := z
  exact okX3_sum_l12 hE hO (fun v1 v2 I L h9 => hP' (v1, v2, I, L) h9) h
set_option maxRecDepth 10000 in
theorem okX3_sum {G : Gx} {E O : Int32 → Ix → Lx → (Bool → Ix → Lx → Prop) → Prop} {d : Nat} (hE : ∀ w I L Q, E w I L Q → Mf G (MX3_either d) [.ref 49, .int w] I L (qZ Q)) (hO : ∀ w I L Q, O w I L Q → Mf G (MX3_one d) [.ref 49, .int w] I L (qZ Q)) {a1 : Int32} {I : Ix} {L : Lx} {Q : Bool → Ix → Lx → Prop} (h : wpX3_sum E O a1 I L Q) : Mf G (MX3_sum (d + 1)) [.ref 49, .int a1] I L (qZ Q) := by
  unfold wpX3_sum at h
  refine Mf.of pn_RX3 (Nat.le_of_ble_eq_true rfl) ?_
  refine Ev.aload_n (k := 0) (pc' := 1) dX3_sum_0 rfl rfl rfl ?_
  refine Ev.iload_n (k := 1) (pc' := 2) dX3_sum_1 rfl rfl rfl ?_
  refine Ef.callVZ [.int _] [] (pc' := 5) dX3_sum_2 rfl cv_RX3_232_X3_term ⟨by show _ + 1 ≤ _; simp only [mD, MX3_sum, MX3_term]; omega, Nat.le_of_ble_eq_true rfl⟩ ob_49 rfl rfl rfl (Nat.le_of_ble_eq_true rfl) (okX3_term hE hO h) (fun r3 I1 L2 h => ?_)
  refine Ef.ifz_ne (pc' := 8) (tgt := 10) dX3_sum_5 rfl rfl (fun hc => ?_) (fun hc => ?_)
  · have h := h.1 hc
    refine Ev.iconst (pc' := 11) dX3_sum_10 rfl ki_0 ?_
    refine Ev.istore_n (ls' := [(2, .int _), (0, .ref _), (1, .int _)]) (pc' := 12) dX3_sum_11 rfl rfl (Nat.le_of_ble_eq_true rfl) rfl ?_
    exact Ev.sub [1, 2, 0] rfl (okX3_sum_h12 hE hO h)
  · have h := h.2 hc
    refine Ev.iconst (pc' := 9) dX3_sum_8 rfl ki_0 ?_
    exact Ef.zret (b := false) dX3_sum_9 rfl h
def wpX3_negated (E O : Int32 → Ix → Lx → (Bool → Ix → Lx → Prop) → Prop) (a1 : Int32) (I : Ix) (L : Lx) (Q : Bool → Ix → Lx → Prop) : Prop := (a1 ≤ 6 → wpX8_step I L (fun I1 L2 => O (a1 + 1) I1 L2 (fun r5 I3 L4 => (r5 = true → wpX4_add_33 20256 I3 L4 (fun I6 L7 => Q true I6 L7)) ∧ (r5 = false → Q false I3 L4)))) ∧ (¬ a1 ≤ 6 → wpX3_refuse 2 I L (fun r10 I8 L9 => Q r10 I8 L9))
set_option maxRecDepth 10000 in
theorem okX3_negated {G : Gx} {E O : Int32 → Ix → Lx → (Bool → Ix → Lx → Prop) → Prop} {d : Nat} (hE : ∀ w I L Q, E w I L Q → Mf G (MX3_either d) [.ref 49, .int w] I L (qZ Q)) (hO : ∀ w I L Q, O w I L Q → Mf G (MX3_one d) [.ref 49, .int w] I L (qZ Q)) {a1 : Int32} {I : Ix} {L : Lx} {Q : Bool → Ix → Lx → Prop} (h : wpX3_negated E O a1 I L Q) : Mf G (MX3_negated (d + 1)) [.ref 49, .int a1] I L (qZ Q) := by
  unfold wpX3_negated at h
  refine Mf.of pn_RX3 (Nat.le_of_ble_eq_true rfl) ?_
  refine Ev.iload_n (k := 1) (pc' := 1) dX3_negated_0 rfl rfl rfl ?_
  refine Ev.bipush (pc' := 3) dX3_negated_1 rfl kb_6 ?_
  refine Ev.icmp_le (pc' := 6) (tgt := 12) dX3_negated_3 rfl rfl (fun hc => ?_) (fun hc => ?_)
  · have h := h.1 hc
    refine Ev.aload_n (k := 0) (pc' := 13) dX3_negated_12 rfl rfl rfl ?_
    refine Ev.getR (pc' := 16) dX3_negated_13 rfl fa_RX3_24 ob_49 fk_3_0 rf_49_0 ?_
    refine Ef.callVV [] [] (pc' := 19) dX3_negated_16 rfl cv_RX3_103_X8_step ⟨by show _ + 1 ≤ _; simp only [mD, MX3_negated, MX8_step]; omega, Nat.le_of_ble_eq_true rfl⟩ ob_51 rfl rfl rfl (Nat.le_of_ble_eq_true rfl) (okX8_step h) (fun I1 L2 h => ?_)
    refine Ev.aload_n (k := 0) (pc' := 20) dX3_negated_19 rfl rfl rfl ?_
    refine Ev.iload_n (k := 1) (pc' := 21) dX3_negated_20 rfl rfl rfl ?_
    refine Ev.iconst (pc' := 22) dX3_negated_21 rfl ki_1 ?_
    refine Ev.iadd (pc' := 23) dX3_negated_22 rfl ?_
    refine Ef.callVZ [.int _] [] (pc' := 26) dX3_negated_23 rfl cv_RX3_223_X3_one ⟨by show _ + 1 ≤ _; simp only [mD, MX3_negated, MX3_one]; omega, Nat.le_of_ble_eq_true rfl⟩ ob_49 rfl rfl rfl (Nat.le_of_ble_eq_true rfl) (hO _ _ _ _ h) (fun r5 I3 L4 h => ?_)
    refine Ef.ifz_ne (pc' := 29) (tgt := 31) dX3_negated_26 rfl rfl (fun hc => ?_) (fun hc => ?_)
    · have h := h.1 hc
      refine Ev.aload_n (k := 0) (pc' := 32) dX3_negated_31 rfl rfl rfl ?_
      refine Ev.getR (pc' := 35) dX3_negated_32 rfl fa_RX3_43 ob_49 fk_3_3 rf_49_3 ?_
      refine Ev.sipush (pc' := 38) dX3_negated_35 rfl ks_20256 ?_
      refine Ef.callVV [.int _] [] (pc' := 41) dX3_negated_38 rfl cv_RX3_219_X4_add_33 ⟨by show _ + 1 ≤ _; simp only [mD, MX3_negated, MX4_add_33]; omega, Nat.le_of_ble_eq_true rfl⟩ ob_33 rfl rfl rfl (Nat.le_of_ble_eq_true rfl) (okX4_add_33 h) (fun I6 L7 h => ?_)
      refine Ev.iconst (pc' := 42) dX3_negated_41 rfl ki_1 ?_
      exact Ef.zret (b := true) dX3_negated_42 rfl h
    · have h := h.2 hc
      refine Ev.iconst (pc' := 30) dX3_negated_29 rfl ki_0 ?_
      exact Ef.zret (b := false) dX3_negated_30 rfl h
  · have h := h.2 hc
    refine Ev.aload_n (k := 0) (pc' := 7) dX3_negated_6 rfl rfl rfl ?_
    refine Ev.iconst (pc' := 8) dX3_negated_7 rfl ki_2 ?_
    refine Ef.callVZ [.int _] [] (pc' := 11) dX3_negated_8 rfl cv_RX3_75_X3_refuse ⟨by show _ + 1 ≤ _; simp only [mD, MX3_negated, MX3_refuse]; omega, Nat.le_of_ble_eq_true rfl⟩ ob_49 rfl rfl rfl (Nat.le_of_ble_eq_true rfl) (okX3_refuse h) (fun r10 I8 L9 h => ?_)
    exact Ef.zret dX3_negated_11 rfl h
def wpX3_one_b66 (E O : Int32 → Ix → Lx → (Bool → Ix → Lx → Prop) → Prop) (Q : Bool → Ix → Lx → Prop) (v1 : Int32) (I : Ix) (L : Lx) : Prop := wpX8_step I L (fun I1 L2 => wpX3_sum E O v1 I1 L2 (fun r5 I3 L4 => (r5 = true → wpX4_add_33 (20000 + (I 51 5)) I3 L4 (fun I6 L7 => Q true I6 L7)) ∧ (r5 = false → Q false I3 L4)))
def wpX3_one (E O : Int32 → Ix → Lx → (Bool → Ix → Lx → Prop) → Prop) (a1 : Int32) (I : Ix) (L : Lx) (Q : Bool → Ix → Lx → Prop) : Prop := wpX8_isWord 13 I L (fun r3 I1 L2 => (r3 = false → wpX3_sum E O a1 I1 L2 (fun r6 I4 L5 => (r6 = true → wpX8_isSign 60 I4 L5 (fun r9 I7 L8 => (r9 = true → wpX3_one_b66 E O Q a1 I7 L8) ∧ (r9 = false → wpX8_isSign 62 I7 L8 (fun r12 I10 L11 => (r12 = true → wpX3_one_b66 E O Q a1 I10 L11) ∧ (r12 = false → wpX8_isSign 61 I10 L11 (fun r15 I13 L14 => (r15 = true → wpX3_one_b66 E O Q a1 I13 L14) ∧ (r15 = false → Q true I13 L14))))))) ∧ (r6 = false → Q false I4 L5))) ∧ (r3 = true → wpX3_negated E O a1 I1 L2 (fun r18 I16 L17 => Q r18 I16 L17)))
set_option maxRecDepth 10000 in
theorem okX3_one_b66 {G : Gx} {E O : Int32 → Ix → Lx → (Bool → Ix → Lx → Prop) → Prop} {d : Nat} (hE : ∀ w I L Q, E w I L Q → Mf G (MX3_either d) [.ref 49, .int w] I L (qZ Q)) (hO : ∀ w I L Q, O w I L Q → Mf G (MX3_one d) [.ref 49, .int w] I L (qZ Q)) {Q : Bool → Ix → Lx → Prop} {v1 : Int32} {I : Ix} {L : Lx} (h : wpX3_one_b66 E O Q v1 I L) : Ef G (MX3_one (d + 1)) (qZ Q) 66 [(0, .ref 49), (1, .int v1)] [] I L := by
  unfold wpX3_one_b66 at h
  refine Ev.sipush (pc' := 69) dX3_one_66 rfl ks_20000 ?_
  refine Ev.aload_n (k := 0) (pc' := 70) dX3_one_69 rfl rfl rfl ?_
  refine Ev.getR (pc' := 73) dX3_one_70 rfl fa_RX3_24 ob_49 fk_3_0 rf_49_0 ?_
  refine Ev.getI (pc' := 76) dX3_one_73 rfl fa_RX3_79 ob_51 fk_8_5 ?_
  refine Ev.iadd (pc' := 77) dX3_one_76 rfl ?_
  refine Ev.istore_n (ls' := [(2, .int _), (0, .ref _), (1, .int _)]) (pc' := 78) dX3_one_77 rfl rfl (Nat.le_of_ble_eq_true rfl) rfl ?_
  refine Ev.aload_n (k := 1) (pc' := 79) dX3_one_78 rfl rfl rfl ?_
  refine Ev.getR (pc' := 82) dX3_one_79 rfl fa_RX3_24 ob_49 fk_3_0 rf_49_0 ?_
  refine Ef.callVV [] [] (pc' := 85) dX3_one_82 rfl cv_RX3_103_X8_step ⟨by show _ + 1 ≤ _; simp only [mD, MX3_one, MX8_step]; omega, Nat.le_of_ble_eq_true rfl⟩ ob_51 rfl rfl rfl (Nat.le_of_ble_eq_true rfl) (okX8_step h) (fun I1 L2 h => ?_)
  refine Ev.aload_n (k := 1) (pc' := 86) dX3_one_85 rfl rfl rfl ?_
  refine Ev.iload_n (k := 2) (pc' := 87) dX3_one_86 rfl rfl rfl ?_
  refine Ef.callVZ [.int _] [] (pc' := 90) dX3_one_87 rfl cv_RX3_229_X3_sum ⟨by show _ + 1 ≤ _; simp only [mD, MX3_one, MX3_sum]; omega, Nat.le_of_ble_eq_true rfl⟩ ob_49 rfl rfl rfl (Nat.le_of_ble_eq_true rfl) (okX3_sum hE hO h) (fun r5 I3 L4 h => ?_)
  refine Ef.ifz_ne (pc' := 93) (tgt := 95) dX3_one_90 rfl rfl (fun hc => ?_) (fun hc => ?_)
  · have h := h.1 hc
    refine Ev.aload_n (k := 1) (pc' := 96) dX3_one_95 rfl rfl rfl ?_
    refine Ev.getR (pc' := 99) dX3_one_96 rfl fa_RX3_43 ob_49 fk_3_3 rf_49_3 ?_
    refine Ev.iload_n (k := 0) (pc' := 100) dX3_one_99 rfl rfl rfl ?_
    refine Ef.callVV [.int _] [] (pc' := 103) dX3_one_100 rfl cv_RX3_219_X4_add_33 ⟨by show _ + 1 ≤ _; simp only [mD, MX3_one, MX4_add_33]; omega, Nat.le_of_ble_eq_true rfl⟩ ob_33 rfl rfl rfl (Nat.le_of_ble_eq_true rfl) (okX4_add_33 h) (fun I6 L7 h => ?_)
    refine Ev.iconst (pc' := 104) dX3_one_103 rfl ki_1 ?_
    exact Ef.zret (b := true) dX3_one_104 rfl h
  · have h := h.2 hc
    refine Ev.iconst (pc' := 94) dX3_one_93 rfl ki_0 ?_
    exact Ef.zret (b := false) dX3_one_94 rfl h
set_option maxRecDepth 10000 in
theorem okX3_one {G : Gx} {E O : Int32 → Ix → Lx → (Bool → Ix → Lx → Prop) → Prop} {d : Nat} (hE : ∀ w I L Q, E w I L Q → Mf G (MX3_either d) [.ref 49, .int w] I L (qZ Q)) (hO : ∀ w I L Q, O w I L Q → Mf G (MX3_one d) [.ref 49, .int w] I L (qZ Q)) {a1 : Int32} {I : Ix} {L : Lx} {Q : Bool → Ix → Lx → Prop} (h : wpX3_one E O a1 I L Q) : Mf G (MX3_one (d + 1)) [.ref 49, .int a1] I L (qZ Q) := by
  unfold wpX3_one at h
  refine Mf.of pn_RX3 (Nat.le_of_ble_eq_true rfl) ?_
  refine Ev.aload_n (k := 0) (pc' := 1) dX3_one_0 rfl rfl rfl ?_
  refine Ev.getR (pc' := 4) dX3_one_1 rfl fa_RX3_24 ob_49 fk_3_0 rf_49_0 ?_
  refine Ev.bipush (pc' := 6) dX3_one_4 rfl kb_13 ?_
  refine Ef.callVZ [.int _] [] (pc' := 9) dX3_one_6 rfl cv_RX3_165_X8_isWord ⟨by show _ + 1 ≤ _; simp only [mD, MX3_one, MX8_isWord]; omega, Nat.le_of_ble_eq_true rfl⟩ ob_51 rfl rfl rfl (Nat.le_of_ble_eq_true rfl) (okX8_isWord h) (fun r3 I1 L2 h => ?_)
  refine Ef.ifz_eq (pc' := 12) (tgt := 18) dX3_one_9 rfl rfl (fun hc => ?_) (fun hc => ?_)
  · have h := h.1 hc
    refine Ev.aload_n (k := 0) (pc' := 19) dX3_one_18 rfl rfl rfl ?_
    refine Ev.iload_n (k := 1) (pc' := 20) dX3_one_19 rfl rfl rfl ?_
    refine Ef.callVZ [.int _] [] (pc' := 23) dX3_one_20 rfl cv_RX3_229_X3_sum ⟨by show _ + 1 ≤ _; simp only [mD, MX3_one, MX3_sum]; omega, Nat.le_of_ble_eq_true rfl⟩ ob_49 rfl rfl rfl (Nat.le_of_ble_eq_true rfl) (okX3_sum hE hO h) (fun r6 I4 L5 h => ?_)
    refine Ef.ifz_ne (pc' := 26) (tgt := 28) dX3_one_23 rfl rfl (fun hc => ?_) (fun hc => ?_)
    · have h := h.1 hc
      refine Ev.aload_n (k := 0) (pc' := 29) dX3_one_28 rfl rfl rfl ?_
      refine Ev.getR (pc' := 32) dX3_one_29 rfl fa_RX3_24 ob_49 fk_3_0 rf_49_0 ?_
      refine Ev.bipush (pc' := 34) dX3_one_32 rfl kb_60 ?_
      refine Ef.callVZ [.int _] [] (pc' := 37) dX3_one_34 rfl cv_RX3_209_X8_isSign ⟨by show _ + 1 ≤ _; simp only [mD, MX3_one, MX8_isSign]; omega, Nat.le_of_ble_eq_true rfl⟩ ob_51 rfl rfl rfl (Nat.le_of_ble_eq_true rfl) (okX8_isSign h) (fun r9 I7 L8 h => ?_)
      refine Ef.ifz_ne (pc' := 40) (tgt := 66) dX3_one_37 rfl rfl (fun hc => ?_) (fun hc => ?_)
      · have h := h.1 hc
        exact okX3_one_b66 hE hO h
      · have h := h.2 hc
        refine Ev.aload_n (k := 0) (pc' := 41) dX3_one_40 rfl rfl rfl ?_
        refine Ev.getR (pc' := 44) dX3_one_41 rfl fa_RX3_24 ob_49 fk_3_0 rf_49_0 ?_
        refine Ev.bipush (pc' := 46) dX3_one_44 rfl kb_62 ?_
        refine Ef.callVZ [.int _] [] (pc' := 49) dX3_one_46 rfl cv_RX3_209_X8_isSign ⟨by show _ + 1 ≤ _; simp only [mD, MX3_one, MX8_isSign]; omega, Nat.le_of_ble_eq_true rfl⟩ ob_51 rfl rfl rfl (Nat.le_of_ble_eq_true rfl) (okX8_isSign h) (fun r12 I10 L11 h => ?_)
        refine Ef.ifz_ne (pc' := 52) (tgt := 66) dX3_one_49 rfl rfl (fun hc => ?_) (fun hc => ?_)
        · have h := h.1 hc
          exact okX3_one_b66 hE hO h
        · have h := h.2 hc
          refine Ev.aload_n (k := 0) (pc' := 53) dX3_one_52 rfl rfl rfl ?_
          refine Ev.getR (pc' := 56) dX3_one_53 rfl fa_RX3_24 ob_49 fk_3_0 rf_49_0 ?_
          refine Ev.bipush (pc' := 58) dX3_one_56 rfl kb_61 ?_
          refine Ef.callVZ [.int _] [] (pc' := 61) dX3_one_58 rfl cv_RX3_209_X8_isSign ⟨by show _ + 1 ≤ _; simp only [mD, MX3_one, MX8_isSign]; omega, Nat.le_of_ble_eq_true rfl⟩ ob_51 rfl rfl rfl (Nat.le_of_ble_eq_true rfl) (okX8_isSign h) (fun r15 I13 L14 h => ?_)
          refine Ef.ifz_ne (pc' := 64) (tgt := 66) dX3_one_61 rfl rfl (fun hc => ?_) (fun hc => ?_)
          · have h := h.1 hc
            exact okX3_one_b66 hE hO h
          · have h := h.2 hc
            refine Ev.iconst (pc' := 65) dX3_one_64 rfl ki_1 ?_
            exact Ef.zret (b := true) dX3_one_65 rfl h
    · have h := h.2 hc
      refine Ev.iconst (pc' := 27) dX3_one_26 rfl ki_0 ?_
      exact Ef.zret (b := false) dX3_one_27 rfl h
  · have h := h.2 hc
    refine Ev.aload_n (k := 0) (pc' := 13) dX3_one_12 rfl rfl rfl ?_
    refine Ev.iload_n (k := 1) (pc' := 14) dX3_one_13 rfl rfl rfl ?_
    refine Ef.callVZ [.int _] [] (pc' := 17) dX3_one_14 rfl cv_RX3_226_X3_negated ⟨by show _ + 1 ≤ _; simp only [mD, MX3_one, MX3_negated]; omega, Nat.le_of_ble_eq_true rfl⟩ ob_49 rfl rfl rfl (Nat.le_of_ble_eq_true rfl) (okX3_negated hE hO h) (fun r18 I16 L17 h => ?_)
    exact Ef.zret dX3_one_17 rfl h
def wpX3_both_l12 (E O : Int32 → Ix → Lx → (Bool → Ix → Lx → Prop) → Prop) (Q : Bool → Ix → Lx → Prop) (P12 : Int32 → Int32 → Ix → Lx → Prop) (v1 : Int32) (v2 : Int32) (I : Ix) (L : Lx) : Prop := (1700 ≤ v2 → Q true I L) ∧ (¬ 1700 ≤ v2 → wpX8_isWord 12 I L (fun r3 I1 L2 => (r3 = false → Q true I1 L2) ∧ (r3 = true → wpX8_step I1 L2 (fun I4 L5 => wpX3_one E O v1 I4 L5 (fun r8 I6 L7 => (r8 = true → wpX4_add_33 20257 I6 L7 (fun I9 L10 => P12 v1 (v2 + 1) I9 L10)) ∧ (r8 = false → Q false I6 L7))))))
def wpX3_both_h12 (E O : Int32 → Ix → Lx → (Bool → Ix → Lx → Prop) → Prop) (Q : Bool → Ix → Lx → Prop) (v1 : Int32) (v2 : Int32) (I : Ix) (L : Lx) : Prop := Lfp (X := Int32 × Int32 × Ix × Lx) (fun P z => wpX3_both_l12 E O Q (fun v1 v2 I L => P (v1, v2, I, L)) z.1 z.2.1 z.2.2.1 z.2.2.2) (v1, v2, I, L)
theorem wpX3_both_h12_fold {E O : Int32 → Ix → Lx → (Bool → Ix → Lx → Prop) → Prop} {Q : Bool → Ix → Lx → Prop} {v1 : Int32} {v2 : Int32} {I : Ix} {L : Lx} (h : wpX3_both_l12 E O Q (wpX3_both_h12 E O Q) v1 v2 I L) : wpX3_both_h12 E O Q v1 v2 I L := Lfp.fold h
def wpX3_both (E O : Int32 → Ix → Lx → (Bool → Ix → Lx → Prop) → Prop) (a1 : Int32) (I : Ix) (L : Lx) (Q : Bool → Ix → Lx → Prop) : Prop := wpX3_one E O a1 I L (fun r3 I1 L2 => (r3 = true → wpX3_both_h12 E O Q a1 0 I1 L2) ∧ (r3 = false → Q false I1 L2))
set_option maxRecDepth 10000 in
theorem okX3_both_l12 {G : Gx} {E O : Int32 → Ix → Lx → (Bool → Ix → Lx → Prop) → Prop} {d : Nat} (hE : ∀ w I L Q, E w I L Q → Mf G (MX3_either d) [.ref 49, .int w] I L (qZ Q)) (hO : ∀ w I L Q, O w I L Q → Mf G (MX3_one d) [.ref 49, .int w] I L (qZ Q)) {Q : Bool → Ix → Lx → Prop} {P12 : Int32 → Int32 → Ix → Lx → Prop} (hP12 : ∀ (v1 : Int32) (v2 : Int32) (I : Ix) (L : Lx), P12 v1 v2 I L → Ef G (MX3_both (d + 1)) (qZ Q) 12 [(0, .ref 49), (1, .int v1), (2, .int v2)] [] I L) {v1 : Int32} {v2 : Int32} {I : Ix} {L : Lx} (h : wpX3_both_l12 E O Q P12 v1 v2 I L) : Ef G (MX3_both (d + 1)) (qZ Q) 12 [(0, .ref 49), (1, .int v1), (2, .int v2)] [] I L := by
  unfold wpX3_both_l12 at h
  refine Ev.iload_n (k := 2) (pc' := 13) dX3_both_12 rfl rfl rfl ?_
  refine Ev.sipush (pc' := 16) dX3_both_13 rfl ks_1700 ?_
  refine Ev.icmp_ge (pc' := 19) (tgt := 64) dX3_both_16 rfl rfl (fun hc => ?_) (fun hc => ?_)
  · have h := h.1 hc
    refine Ev.iconst (pc' := 65) dX3_both_64 rfl ki_1 ?_
    exact Ef.zret (b := true) dX3_both_65 rfl h
  · have h := h.2 hc
    refine Ev.aload_n (k := 0) (pc' := 20) dX3_both_19 rfl rfl rfl ?_
    refine Ev.getR (pc' := 23) dX3_both_20 rfl fa_RX3_24 ob_49 fk_3_0 rf_49_0 ?_
    refine Ev.bipush (pc' := 25) dX3_both_23 rfl kb_12 ?_
    refine Ef.callVZ [.int _] [] (pc' := 28) dX3_both_25 rfl cv_RX3_165_X8_isWord ⟨by show _ + 1 ≤ _; simp only [mD, MX3_both, MX8_isWord]; omega, Nat.le_of_ble_eq_true rfl⟩ ob_51 rfl rfl rfl (Nat.le_of_ble_eq_true rfl) (okX8_isWord h) (fun r3 I1 L2 h => ?_)
    refine Ef.ifz_eq (pc' := 31) (tgt := 64) dX3_both_28 rfl rfl (fun hc => ?_) (fun hc => ?_)
    · have h := h.1 hc
      refine Ev.iconst (pc' := 65) dX3_both_64 rfl ki_1 ?_
      exact Ef.zret (b := true) dX3_both_65 rfl h
    · have h := h.2 hc
      refine Ev.aload_n (k := 0) (pc' := 32) dX3_both_31 rfl rfl rfl ?_
      refine Ev.getR (pc' := 35) dX3_both_32 rfl fa_RX3_24 ob_49 fk_3_0 rf_49_0 ?_
      refine Ef.callVV [] [] (pc' := 38) dX3_both_35 rfl cv_RX3_103_X8_step ⟨by show _ + 1 ≤ _; simp only [mD, MX3_both, MX8_step]; omega, Nat.le_of_ble_eq_true rfl⟩ ob_51 rfl rfl rfl (Nat.le_of_ble_eq_true rfl) (okX8_step h) (fun I4 L5 h => ?_)
      refine Ev.aload_n (k := 0) (pc' := 39) dX3_both_38 rfl rfl rfl ?_
      refine Ev.iload_n (k := 1) (pc' := 40) dX3_both_39 rfl rfl rfl ?_
      refine Ef.callVZ [.int _] [] (pc' := 43) dX3_both_40 rfl cv_RX3_223_X3_one ⟨by show _ + 1 ≤ _; simp only [mD, MX3_both, MX3_one]; omega, Nat.le_of_ble_eq_true rfl⟩ ob_49 rfl rfl rfl (Nat.le_of_ble_eq_true rfl) (okX3_one hE hO h) (fun r8 I6 L7 h => ?_)
      refine Ef.ifz_ne (pc' := 46) (tgt := 48) dX3_both_43 rfl rfl (fun hc => ?_) (fun hc => ?_)
      · have h := h.1 hc
        refine Ev.aload_n (k := 0) (pc' := 49) dX3_both_48 rfl rfl rfl ?_
        refine Ev.getR (pc' := 52) dX3_both_49 rfl fa_RX3_43 ob_49 fk_3_3 rf_49_3 ?_
        refine Ev.sipush (pc' := 55) dX3_both_52 rfl ks_20257 ?_
        refine Ef.callVV [.int _] [] (pc' := 58) dX3_both_55 rfl cv_RX3_219_X4_add_33 ⟨by show _ + 1 ≤ _; simp only [mD, MX3_both, MX4_add_33]; omega, Nat.le_of_ble_eq_true rfl⟩ ob_33 rfl rfl rfl (Nat.le_of_ble_eq_true rfl) (okX4_add_33 h) (fun I9 L10 h => ?_)
        refine Ev.iinc (k := 2) (v := _) (ls' := [(2, .int _), (0, .ref _), (1, .int _)]) (pc' := 61) dX3_both_58 rfl rfl (congrArg (_ + ·) ki_1) (Nat.le_of_ble_eq_true rfl) rfl ?_
        refine Ev.goto (tgt := 12) dX3_both_61 rfl ?_
        exact Ev.sub [1, 2, 0] rfl (hP12 _ _ _ _ h)
      · have h := h.2 hc
        refine Ev.iconst (pc' := 47) dX3_both_46 rfl ki_0 ?_
        exact Ef.zret (b := false) dX3_both_47 rfl h
set_option maxRecDepth 10000 in
theorem okX3_both_h12 {G : Gx} {E O : Int32 → Ix → Lx → (Bool → Ix → Lx → Prop) → Prop} {d : Nat} (hE : ∀ w I L Q, E w I L Q → Mf G (MX3_either d) [.ref 49, .int w] I L (qZ Q)) (hO : ∀ w I L Q, O w I L Q → Mf G (MX3_one d) [.ref 49, .int w] I L (qZ Q)) {Q : Bool → Ix → Lx → Prop} {v1 : Int32} {v2 : Int32} {I : Ix} {L : Lx} (h : wpX3_both_h12 E O Q v1 v2 I L) : Ef G (MX3_both (d + 1)) (qZ Q) 12 [(0, .ref 49), (1, .int v1), (2, .int v2)] [] I L := by
  unfold wpX3_both_h12 at h
  refine Lfp.ind (P := fun z => Ef G (MX3_both (d + 1)) (qZ Q) 12 [(0, .ref 49), (1, .int z.1), (2, .int z.2.1)] [] z.2.2.1 z.2.2.2) ?_ h
  intro z P' hP' h
  obtain ⟨v1, v2, I, L⟩ := z
  exact okX3_both_l12 hE hO (fun v1 v2 I L h9 => hP' (v1, v2, I, L) h9) h
set_option maxRecDepth 10000 in
theorem okX3_both {G : Gx} {E O : Int32 → Ix → Lx → (Bool → Ix → Lx → Prop) → Prop} {d : Nat} (hE : ∀ w I L Q, E w I L Q → Mf G (MX3_either d) [.ref 49, .int w] I L (qZ Q)) (hO : ∀ w I L Q, O w I L Q → Mf G (MX3_one d) [.ref 49, .int w] I L (qZ Q)) {a1 : Int32} {I : Ix} {L : Lx} {Q : Bool → Ix → Lx → Prop} (h : wpX3_both E O a1 I L Q) : Mf G (MX3_both (d + 1)) [.ref 49, .int a1] I L (qZ Q) := by
  unfold wpX3_both at h
  refine Mf.of pn_RX3 (Nat.le_of_ble_eq_true rfl) ?_
  refine Ev.aload_n (k := 0) (pc' := 1) dX3_both_0 rfl rfl rfl ?_
  refine Ev.iload_n (k := 1) (pc' := 2) dX3_both_1 rfl rfl rfl ?_
  refine Ef.callVZ [.int _] [] (pc' := 5) dX3_both_2 rfl cv_RX3_223_X3_one ⟨by show _ + 1 ≤ _; simp only [mD, MX3_both, MX3_one]; omega, Nat.le_of_ble_eq_true rfl⟩ ob_49 rfl rfl rfl (Nat.le_of_ble_eq_true rfl) (okX3_one hE hO h) (fun r3 I1 L2 h => ?_)
  refine Ef.ifz_ne (pc' := 8) (tgt := 10) dX3_both_5 rfl rfl (fun hc => ?_) (fun hc => ?_)
  · have h := h.1 hc
    refine Ev.iconst (pc' := 11) dX3_both_10 rfl ki_0 ?_
    refine Ev.istore_n (ls' := [(2, .int _), (0, .ref _), (1, .int _)]) (pc' := 12) dX3_both_11 rfl rfl (Nat.le_of_ble_eq_true rfl) rfl ?_
    exact Ev.sub [1, 2, 0] rfl (okX3_both_h12 hE hO h)
  · have h := h.2 hc
    refine Ev.iconst (pc' := 9) dX3_both_8 rfl ki_0 ?_
    exact Ef.zret (b := false) dX3_both_9 rfl h
def wpX3_either_l12 (E O : Int32 → Ix → Lx → (Bool → Ix → Lx → Prop) → Prop) (Q : Bool → Ix → Lx → Prop) (P12 : Int32 → Int32 → Ix → Lx → Prop) (v1 : Int32) (v2 : Int32) (I : Ix) (L : Lx) : Prop := (1700 ≤ v2 → Q true I L) ∧ (¬ 1700 ≤ v2 → wpX8_isWord 11 I L (fun r3 I1 L2 => (r3 = false → Q true I1 L2) ∧ (r3 = true → wpX8_step I1 L2 (fun I4 L5 => wpX3_both E O v1 I4 L5 (fun r8 I6 L7 => (r8 = true → wpX4_add_33 20258 I6 L7 (fun I9 L10 => P12 v1 (v2 + 1) I9 L10)) ∧ (r8 = false → Q false I6 L7))))))
def wpX3_either_h12 (E O : Int32 → Ix → Lx → (Bool → Ix → Lx → Prop) → Prop) (Q : Bool → Ix → Lx → Prop) (v1 : Int32) (v2 : Int32) (I : Ix) (L : Lx) : Prop := Lfp (X := Int32 × Int32 × Ix × Lx) (fun P z => wpX3_either_l12 E O Q (fun v1 v2 I L => P (v1, v2, I, L)) z.1 z.2.1 z.2.2.1 z.2.2.2) (v1, v2, I, L)
theorem wpX3_either_h12_fold {E O : Int32 → Ix → Lx → (Bool → Ix → Lx → Prop) → Prop} {Q : Bool → Ix → Lx → Prop} {v1 : Int32} {v2 : Int32} {I : Ix} {L : Lx} (h : wpX3_either_l12 E O Q (wpX3_either_h12 E O Q) v1 v2 I L) : wpX3_either_h12 E O Q v1 v2 I L := Lfp.fold h
def wpX3_either (E O : Int32 → Ix → Lx → (Bool → Ix → Lx → Prop) → Prop) (a1 : Int32) (I : Ix) (L : Lx) (Q : Bool → Ix → Lx → Prop) : Prop := wpX3_both E O a1 I L (fun r3 I1 L2 => (r3 = true → wpX3_either_h12 E O Q a1 0 I1 L2) ∧ (r3 = false → Q false I1 L2))
set_option maxRecDepth 10000 in
theorem okX3_either_l12 {G : Gx} {E O : Int32 → Ix → Lx → (Bool → Ix → Lx → Prop) → Prop} {d : Nat} (hE : ∀ w I L Q, E w I L Q → Mf G (MX3_either d) [.ref 49, .int w] I L (qZ Q)) (hO : ∀ w I L Q, O w I L Q → Mf G (MX3_one d) [.ref 49, .int w] I L (qZ Q)) {Q : Bool → Ix → Lx → Prop} {P12 : Int32 → Int32 → Ix → Lx → Prop} (hP12 : ∀ (v1 : Int32) (v2 : Int32) (I : Ix) (L : Lx), P12 v1 v2 I L → Ef G (MX3_either (d + 1)) (qZ Q) 12 [(0, .ref 49), (1, .int v1), (2, .int v2)] [] I L) {v1 : Int32} {v2 : Int32} {I : Ix} {L : Lx} (h : wpX3_either_l12 E O Q P12 v1 v2 I L) : Ef G (MX3_either (d + 1)) (qZ Q) 12 [(0, .ref 49), (1, .int v1), (2, .int v2)] [] I L := by
  unfold wpX3_either_l12 at h
  refine Ev.iload_n (k := 2) (pc' := 13) dX3_either_12 rfl rfl rfl ?_
  refine Ev.sipush (pc' := 16) dX3_either_13 rfl ks_1700 ?_
  refine Ev.icmp_ge (pc' := 19) (tgt := 64) dX3_either_16 rfl rfl (fun hc => ?_) (fun hc => ?_)
  · have h := h.1 hc
    refine Ev.iconst (pc' := 65) dX3_either_64 rfl ki_1 ?_
    exact Ef.zret (b := true) dX3_either_65 rfl h
  · have h := h.2 hc
    refine Ev.aload_n (k := 0) (pc' := 20) dX3_either_19 rfl rfl rfl ?_
    refine Ev.getR (pc' := 23) dX3_either_20 rfl fa_RX3_24 ob_49 fk_3_0 rf_49_0 ?_
    refine Ev.bipush (pc' := 25) dX3_either_23 rfl kb_11 ?_
    refine Ef.callVZ [.int _] [] (pc' := 28) dX3_either_25 rfl cv_RX3_165_X8_isWord ⟨by show _ + 1 ≤ _; simp only [mD, MX3_either, MX8_isWord]; omega, Nat.le_of_ble_eq_true rfl⟩ ob_51 rfl rfl rfl (Nat.le_of_ble_eq_true rfl) (okX8_isWord h) (fun r3 I1 L2 h => ?_)
    refine Ef.ifz_eq (pc' := 31) (tgt := 64) dX3_either_28 rfl rfl (fun hc => ?_) (fun hc => ?_)
    · have h := h.1 hc
      refine Ev.iconst (pc' := 65) dX3_either_64 rfl ki_1 ?_
      exact Ef.zret (b := true) dX3_either_65 rfl h
    · have h := h.2 hc
      refine Ev.aload_n (k := 0) (pc' := 32) dX3_either_31 rfl rfl rfl ?_
      refine Ev.getR (pc' := 35) dX3_either_32 rfl fa_RX3_24 ob_49 fk_3_0 rf_49_0 ?_
      refine Ef.callVV [] [] (pc' := 38) dX3_either_35 rfl cv_RX3_103_X8_step ⟨by show _ + 1 ≤ _; simp only [mD, MX3_either, MX8_step]; omega, Nat.le_of_ble_eq_true rfl⟩ ob_51 rfl rfl rfl (Nat.le_of_ble_eq_true rfl) (okX8_step h) (fun I4 L5 h => ?_)
      refine Ev.aload_n (k := 0) (pc' := 39) dX3_either_38 rfl rfl rfl ?_
      refine Ev.iload_n (k := 1) (pc' := 40) dX3_either_39 rfl rfl rfl ?_
      refine Ef.callVZ [.int _] [] (pc' := 43) dX3_either_40 rfl cv_RX3_216_X3_both ⟨by show _ + 1 ≤ _; simp only [mD, MX3_either, MX3_both]; omega, Nat.le_of_ble_eq_true rfl⟩ ob_49 rfl rfl rfl (Nat.le_of_ble_eq_true rfl) (okX3_both hE hO h) (fun r8 I6 L7 h => ?_)
      refine Ef.ifz_ne (pc' := 46) (tgt := 48) dX3_either_43 rfl rfl (fun hc => ?_) (fun hc => ?_)
      · have h := h.1 hc
        refine Ev.aload_n (k := 0) (pc' := 49) dX3_either_48 rfl rfl rfl ?_
        refine Ev.getR (pc' := 52) dX3_either_49 rfl fa_RX3_43 ob_49 fk_3_3 rf_49_3 ?_
        refine Ev.sipush (pc' := 55) dX3_either_52 rfl ks_20258 ?_
        refine Ef.callVV [.int _] [] (pc' := 58) dX3_either_55 rfl cv_RX3_219_X4_add_33 ⟨by show _ + 1 ≤ _; simp only [mD, MX3_either, MX4_add_33]; omega, Nat.le_of_ble_eq_true rfl⟩ ob_33 rfl rfl rfl (Nat.le_of_ble_eq_true rfl) (okX4_add_33 h) (fun I9 L10 h => ?_)
        refine Ev.iinc (k := 2) (v := _) (ls' := [(2, .int _), (0, .ref _), (1, .int _)]) (pc' := 61) dX3_either_58 rfl rfl (congrArg (_ + ·) ki_1) (Nat.le_of_ble_eq_true rfl) rfl ?_
        refine Ev.goto (tgt := 12) dX3_either_61 rfl ?_
        exact Ev.sub [1, 2, 0] rfl (hP12 _ _ _ _ h)
      · have h := h.2 hc
        refine Ev.iconst (pc' := 47) dX3_either_46 rfl ki_0 ?_
        exact Ef.zret (b := false) dX3_either_47 rfl h
set_option maxRecDepth 10000 in
theorem okX3_either_h12 {G : Gx} {E O : Int32 → Ix → Lx → (Bool → Ix → Lx → Prop) → Prop} {d : Nat} (hE : ∀ w I L Q, E w I L Q → Mf G (MX3_either d) [.ref 49, .int w] I L (qZ Q)) (hO : ∀ w I L Q, O w I L Q → Mf G (MX3_one d) [.ref 49, .int w] I L (qZ Q)) {Q : Bool → Ix → Lx → Prop} {v1 : Int32} {v2 : Int32} {I : Ix} {L : Lx} (h : wpX3_either_h12 E O Q v1 v2 I L) : Ef G (MX3_either (d + 1)) (qZ Q) 12 [(0, .ref 49), (1, .int v1), (2, .int v2)] [] I L := by
  unfold wpX3_either_h12 at h
  refine Lfp.ind (P := fun z => Ef G (MX3_either (d + 1)) (qZ Q) 12 [(0, .ref 49), (1, .int z.1), (2, .int z.2.1)] [] z.2.2.1 z.2.2.2) ?_ h
  intro z P' hP' h
  obtain ⟨v1, v2, I, L⟩ := z
  exact okX3_either_l12 hE hO (fun v1 v2 I L h9 => hP' (v1, v2, I, L) h9) h
set_option maxRecDepth 10000 in
theorem okX3_either {G : Gx} {E O : Int32 → Ix → Lx → (Bool → Ix → Lx → Prop) → Prop} {d : Nat} (hE : ∀ w I L Q, E w I L Q → Mf G (MX3_either d) [.ref 49, .int w] I L (qZ Q)) (hO : ∀ w I L Q, O w I L Q → Mf G (MX3_one d) [.ref 49, .int w] I L (qZ Q)) {a1 : Int32} {I : Ix} {L : Lx} {Q : Bool → Ix → Lx → Prop} (h : wpX3_either E O a1 I L Q) : Mf G (MX3_either (d + 1)) [.ref 49, .int a1] I L (qZ Q) := by
  unfold wpX3_either at h
  refine Mf.of pn_RX3 (Nat.le_of_ble_eq_true rfl) ?_
  refine Ev.aload_n (k := 0) (pc' := 1) dX3_either_0 rfl rfl rfl ?_
  refine Ev.iload_n (k := 1) (pc' := 2) dX3_either_1 rfl rfl rfl ?_
  refine Ef.callVZ [.int _] [] (pc' := 5) dX3_either_2 rfl cv_RX3_216_X3_both ⟨by show _ + 1 ≤ _; simp only [mD, MX3_either, MX3_both]; omega, Nat.le_of_ble_eq_true rfl⟩ ob_49 rfl rfl rfl (Nat.le_of_ble_eq_true rfl) (okX3_both hE hO h) (fun r3 I1 L2 h => ?_)
  refine Ef.ifz_ne (pc' := 8) (tgt := 10) dX3_either_5 rfl rfl (fun hc => ?_) (fun hc => ?_)
  · have h := h.1 hc
    refine Ev.iconst (pc' := 11) dX3_either_10 rfl ki_0 ?_
    refine Ev.istore_n (ls' := [(2, .int _), (0, .ref _), (1, .int _)]) (pc' := 12) dX3_either_11 rfl rfl (Nat.le_of_ble_eq_true rfl) rfl ?_
    exact Ev.sub [1, 2, 0] rfl (okX3_either_h12 hE hO h)
  · have h := h.2 hc
    refine Ev.iconst (pc' := 9) dX3_either_8 rfl ki_0 ?_
    exact Ef.zret (b := false) dX3_either_9 rfl h
def wpR : Nat → (Int32 → Ix → Lx → (Bool → Ix → Lx → Prop) → Prop) × (Int32 → Ix → Lx → (Bool → Ix → Lx → Prop) → Prop)
  | 0 => (fun _ _ _ _ => False, fun _ _ _ _ => False)
  | d + 1 => (fun w I L Q => wpX3_either (wpR d).1 (wpR d).2 w I L Q, fun w I L Q => wpX3_one (wpR d).1 (wpR d).2 w I L Q)
theorem okR {G : Gx} : ∀ d, (∀ w I L Q, (wpR d).1 w I L Q → Mf G (MX3_either d) [.ref 49, .int w] I L (qZ Q)) ∧ (∀ w I L Q, (wpR d).2 w I L Q → Mf G (MX3_one d) [.ref 49, .int w] I L (qZ Q))
  | 0 => ⟨fun _ _ _ _ h => h.elim, fun _ _ _ _ h => h.elim⟩
  | d + 1 => ⟨fun w I L Q h => okX3_either (okR d).1 (okR d).2 h, fun w I L Q h => okX3_one (okR d).1 (okR d).2 h⟩
theorem okR_either {G : Gx} (d : Nat) {w : Int32} {I : Ix} {L : Lx} {Q : Bool → Ix → Lx → Prop} (h : (wpR d).1 w I L Q) : Mf G (MX3_either d) [.ref 49, .int w] I L (qZ Q) := (okR d).1 _ _ _ _ h
def wpX3_word (a1 : Int32) (I : Ix) (L : Lx) (Q : Bool → Ix → Lx → Prop) : Prop := wpX8_isWord a1 I L (fun r3 I1 L2 => (r3 = true → wpX8_step I1 L2 (fun I4 L5 => Q true I4 L5)) ∧ (r3 = false → wpX3_refuse 2 I1 L2 (fun r8 I6 L7 => Q r8 I6 L7)))
set_option maxRecDepth 10000 in
theorem okX3_word {G : Gx} {a1 : Int32} {I : Ix} {L : Lx} {Q : Bool → Ix → Lx → Prop} (h : wpX3_word a1 I L Q) : Mf G MX3_word [.ref 49, .int a1] I L (qZ Q) := by
  unfold wpX3_word at h
  refine Mf.of pn_RX3 (Nat.le_of_ble_eq_true rfl) ?_
  refine Ev.aload_n (k := 0) (pc' := 1) dX3_word_0 rfl rfl rfl ?_
  refine Ev.getR (pc' := 4) dX3_word_1 rfl fa_RX3_24 ob_49 fk_3_0 rf_49_0 ?_
  refine Ev.iload_n (k := 1) (pc' := 5) dX3_word_4 rfl rfl rfl ?_
  refine Ef.callVZ [.int _] [] (pc' := 8) dX3_word_5 rfl cv_RX3_165_X8_isWord ⟨Nat.le_of_ble_eq_true rfl, Nat.le_of_ble_eq_true rfl⟩ ob_51 rfl rfl rfl (Nat.le_of_ble_eq_true rfl) (okX8_isWord h) (fun r3 I1 L2 h => ?_)
  refine Ef.ifz_ne (pc' := 11) (tgt := 17) dX3_word_8 rfl rfl (fun hc => ?_) (fun hc => ?_)
  · have h := h.1 hc
    refine Ev.aload_n (k := 0) (pc' := 18) dX3_word_17 rfl rfl rfl ?_
    refine Ev.getR (pc' := 21) dX3_word_18 rfl fa_RX3_24 ob_49 fk_3_0 rf_49_0 ?_
    refine Ef.callVV [] [] (pc' := 24) dX3_word_21 rfl cv_RX3_103_X8_step ⟨Nat.le_of_ble_eq_true rfl, Nat.le_of_ble_eq_true rfl⟩ ob_51 rfl rfl rfl (Nat.le_of_ble_eq_true rfl) (okX8_step h) (fun I4 L5 h => ?_)
    refine Ev.iconst (pc' := 25) dX3_word_24 rfl ki_1 ?_
    exact Ef.zret (b := true) dX3_word_25 rfl h
  · have h := h.2 hc
    refine Ev.aload_n (k := 0) (pc' := 12) dX3_word_11 rfl rfl rfl ?_
    refine Ev.iconst (pc' := 13) dX3_word_12 rfl ki_2 ?_
    refine Ef.callVZ [.int _] [] (pc' := 16) dX3_word_13 rfl cv_RX3_75_X3_refuse ⟨Nat.le_of_ble_eq_true rfl, Nat.le_of_ble_eq_true rfl⟩ ob_49 rfl rfl rfl (Nat.le_of_ble_eq_true rfl) (okX3_refuse h) (fun r8 I6 L7 h => ?_)
    exact Ef.zret dX3_word_16 rfl h
def wpX3_personLine_b131 (Q : Bool → Ix → Lx → Prop) (v1 : Int32) (t0 : Int32) (I : Ix) (L : Lx) : Prop := (¬ t0 = 0 → vp_in v1 6 ∧ ∀ I1 : Ix, I1 = pu I 34 v1.toNatClampNeg (I 33 1) → (wpR 9).1 0 I1 L (fun r4 I2 L3 => (r4 = true → vp_in v1 6 ∧ ∀ I5 : Ix, I5 = pu I2 35 v1.toNatClampNeg (I2 33 1) → ∀ I6 : Ix, I6 = pu I5 26 3 ((I5 26 3) + 1) → wpX3_sign 59 I6 L3 (fun r9 I7 L8 => Q r9 I7 L8)) ∧ (r4 = false → Q false I2 L3))) ∧ (t0 = 0 → Q false I L)
def wpX3_personLine_b130 (Q : Bool → Ix → Lx → Prop) (v1 : Int32) (I : Ix) (L : Lx) : Prop := wpX3_personLine_b131 Q v1 0 I L
def wpX3_personLine (I : Ix) (L : Lx) (Q : Bool → Ix → Lx → Prop) : Prop := ((I 26 3) < 6 → wpX8_step I L (fun I1 L2 => wpX3_newName 44 6 (I 26 3) I1 L2 (fun r5 I3 L4 => (r5 = false → wpX3_personLine_b130 Q (I 26 3) I3 L4) ∧ (r5 = true → wpX3_atPlace 45 6 (I 26 3) I3 L4 (fun r8 I6 L7 => (r8 = false → wpX3_personLine_b130 Q (I 26 3) I6 L7) ∧ (r8 = true → wpX3_number 46 6 (I 26 3) 8 0 9 I6 L7 (fun r11 I9 L10 => (r11 = false → wpX3_personLine_b130 Q (I 26 3) I9 L10) ∧ (r11 = true → wpX3_number 47 6 (I 26 3) 9 0 99 I9 L10 (fun r14 I12 L13 => (r14 = false → wpX3_personLine_b130 Q (I 26 3) I12 L13) ∧ (r14 = true → wpX3_number 48 6 (I 26 3) 22 0 9 I12 L13 (fun r17 I15 L16 => (r17 = false → wpX3_personLine_b130 Q (I 26 3) I15 L16) ∧ (r17 = true → wpX3_word 23 I15 L16 (fun r20 I18 L19 => (r20 = false → wpX3_personLine_b130 Q (I 26 3) I18 L19) ∧ (r20 = true → wpX3_personLine_b131 Q (I 26 3) 1 I18 L19)))))))))))))) ∧ (¬ (I 26 3) < 6 → wpX3_refuse 2 I L (fun r23 I21 L22 => Q r23 I21 L22))
set_option maxRecDepth 10000 in
theorem okX3_personLine_b131 {G : Gx} {Q : Bool → Ix → Lx → Prop} {v1 : Int32} {t0 : Int32} {I : Ix} {L : Lx} (h : wpX3_personLine_b131 Q v1 t0 I L) : Ef G MX3_personLine (qZ Q) 131 [(0, .ref 49), (1, .int v1)] [.int t0] I L := by
  unfold wpX3_personLine_b131 at h
  refine Ev.istore_n (ls' := [(2, .int _), (0, .ref _), (1, .int _)]) (pc' := 132) dX3_personLine_131 rfl rfl (Nat.le_of_ble_eq_true rfl) rfl ?_
  refine Ev.iload_n (k := 0) (pc' := 133) dX3_personLine_132 rfl rfl rfl ?_
  refine Ev.if_ne (pc' := 136) (tgt := 138) dX3_personLine_133 rfl rfl (fun hc => ?_) (fun hc => ?_)
  · have h := h.1 hc
    refine Ev.aload_n (k := 1) (pc' := 139) dX3_personLine_138 rfl rfl rfl ?_
    refine Ev.getR (pc' := 142) dX3_personLine_139 rfl fa_RX3_43 ob_49 fk_3_3 rf_49_3 ?_
    refine Ev.getR (pc' := 145) dX3_personLine_142 rfl fa_RX3_189 ob_33 fk_4_2 rf_33_2 ?_
    refine Ev.iload_n (k := 2) (pc' := 146) dX3_personLine_145 rfl rfl rfl ?_
    refine Ev.aload_n (k := 1) (pc' := 147) dX3_personLine_146 rfl rfl rfl ?_
    refine Ev.getR (pc' := 150) dX3_personLine_147 rfl fa_RX3_43 ob_49 fk_3_3 rf_49_3 ?_
    refine Ev.getI (pc' := 153) dX3_personLine_150 rfl fa_RX3_194 ob_33 fk_4_1 ?_
    refine Ev.iastore (j := _) (pc' := 154) dX3_personLine_153 rfl ar_34 h.1 rfl (fun I1 eI1 => ?_)
    have h := h.2 I1 eI1
    refine Ev.aload_n (k := 1) (pc' := 155) dX3_personLine_154 rfl rfl rfl ?_
    refine Ev.iconst (pc' := 156) dX3_personLine_155 rfl ki_0 ?_
    refine Ef.callVZ [.int _] [] (pc' := 159) dX3_personLine_156 rfl cv_RX3_197_X3_either ⟨Nat.le_of_ble_eq_true rfl, Nat.le_of_ble_eq_true rfl⟩ ob_49 rfl rfl rfl (Nat.le_of_ble_eq_true rfl) (okR_either 9 h) (fun r4 I2 L3 h => ?_)
    refine Ef.ifz_ne (pc' := 162) (tgt := 164) dX3_personLine_159 rfl rfl (fun hc => ?_) (fun hc => ?_)
    · have h := h.1 hc
      refine Ev.aload_n (k := 1) (pc' := 165) dX3_personLine_164 rfl rfl rfl ?_
      refine Ev.getR (pc' := 168) dX3_personLine_165 rfl fa_RX3_43 ob_49 fk_3_3 rf_49_3 ?_
      refine Ev.getR (pc' := 171) dX3_personLine_168 rfl fa_RX3_200 ob_33 fk_4_3 rf_33_3 ?_
      refine Ev.iload_n (k := 2) (pc' := 172) dX3_personLine_171 rfl rfl rfl ?_
      refine Ev.aload_n (k := 1) (pc' := 173) dX3_personLine_172 rfl rfl rfl ?_
      refine Ev.getR (pc' := 176) dX3_personLine_173 rfl fa_RX3_43 ob_49 fk_3_3 rf_49_3 ?_
      refine Ev.getI (pc' := 179) dX3_personLine_176 rfl fa_RX3_194 ob_33 fk_4_1 ?_
      refine Ev.iastore (j := _) (pc' := 180) dX3_personLine_179 rfl ar_35 h.1 rfl (fun I5 eI5 => ?_)
      have h := h.2 I5 eI5
      refine Ev.aload_n (k := 1) (pc' := 181) dX3_personLine_180 rfl rfl rfl ?_
      refine Ev.getR (pc' := 184) dX3_personLine_181 rfl fa_RX3_28 ob_49 fk_3_1 rf_49_1 ?_
      refine Ev.dup (pc' := 185) dX3_personLine_184 rfl rfl ?_
      refine Ev.getI (pc' := 188) dX3_personLine_185 rfl fa_RX3_168 ob_26 fk_10_3 ?_
      refine Ev.iconst (pc' := 189) dX3_personLine_188 rfl ki_1 ?_
      refine Ev.iadd (pc' := 190) dX3_personLine_189 rfl ?_
      refine Ev.putI (pc' := 193) dX3_personLine_190 rfl fa_RX3_168 ob_26 fk_10_3 rfl rfl (fun I6 eI6 => ?_)
      have h := h I6 eI6
      refine Ev.aload_n (k := 1) (pc' := 194) dX3_personLine_193 rfl rfl rfl ?_
      refine Ev.bipush (pc' := 196) dX3_personLine_194 rfl kb_59 ?_
      refine Ef.callVZ [.int _] [] (pc' := 199) dX3_personLine_196 rfl cv_RX3_121_X3_sign ⟨Nat.le_of_ble_eq_true rfl, Nat.le_of_ble_eq_true rfl⟩ ob_49 rfl rfl rfl (Nat.le_of_ble_eq_true rfl) (okX3_sign h) (fun r9 I7 L8 h => ?_)
      exact Ef.zret dX3_personLine_199 rfl h
    · have h := h.2 hc
      refine Ev.iconst (pc' := 163) dX3_personLine_162 rfl ki_0 ?_
      exact Ef.zret (b := false) dX3_personLine_163 rfl h
  · have h := h.2 hc
    refine Ev.iconst (pc' := 137) dX3_personLine_136 rfl ki_0 ?_
    exact Ef.zret (b := false) dX3_personLine_137 rfl h
set_option maxRecDepth 10000 in
theorem okX3_personLine_b130 {G : Gx} {Q : Bool → Ix → Lx → Prop} {v1 : Int32} {I : Ix} {L : Lx} (h : wpX3_personLine_b130 Q v1 I L) : Ef G MX3_personLine (qZ Q) 130 [(0, .ref 49), (1, .int v1)] [] I L := by
  unfold wpX3_personLine_b130 at h
  refine Ev.iconst (pc' := 131) dX3_personLine_130 rfl ki_0 ?_
  exact okX3_personLine_b131 h
set_option maxRecDepth 10000 in
theorem okX3_personLine {G : Gx} {I : Ix} {L : Lx} {Q : Bool → Ix → Lx → Prop} (h : wpX3_personLine I L Q) : Mf G MX3_personLine [.ref 49] I L (qZ Q) := by
  unfold wpX3_personLine at h
  refine Mf.of pn_RX3 (Nat.le_of_ble_eq_true rfl) ?_
  refine Ev.aload_n (k := 0) (pc' := 1) dX3_personLine_0 rfl rfl rfl ?_
  refine Ev.getR (pc' := 4) dX3_personLine_1 rfl fa_RX3_28 ob_49 fk_3_1 rf_49_1 ?_
  refine Ev.getI (pc' := 7) dX3_personLine_4 rfl fa_RX3_168 ob_26 fk_10_3 ?_
  refine Ev.istore_n (ls' := [(1, .int _), (0, .ref _)]) (pc' := 8) dX3_personLine_7 rfl rfl (Nat.le_of_ble_eq_true rfl) rfl ?_
  refine Ev.iload_n (k := 0) (pc' := 9) dX3_personLine_8 rfl rfl rfl ?_
  refine Ev.bipush (pc' := 11) dX3_personLine_9 rfl kb_6 ?_
  refine Ev.icmp_lt (pc' := 14) (tgt := 20) dX3_personLine_11 rfl rfl (fun hc => ?_) (fun hc => ?_)
  · have h := h.1 hc
    refine Ev.aload_n (k := 1) (pc' := 21) dX3_personLine_20 rfl rfl rfl ?_
    refine Ev.getR (pc' := 24) dX3_personLine_21 rfl fa_RX3_24 ob_49 fk_3_0 rf_49_0 ?_
    refine Ef.callVV [] [] (pc' := 27) dX3_personLine_24 rfl cv_RX3_103_X8_step ⟨Nat.le_of_ble_eq_true rfl, Nat.le_of_ble_eq_true rfl⟩ ob_51 rfl rfl rfl (Nat.le_of_ble_eq_true rfl) (okX8_step h) (fun I1 L2 h => ?_)
    refine Ev.aload_n (k := 1) (pc' := 28) dX3_personLine_27 rfl rfl rfl ?_
    refine Ev.aload_n (k := 1) (pc' := 29) dX3_personLine_28 rfl rfl rfl ?_
    refine Ev.getR (pc' := 32) dX3_personLine_29 rfl fa_RX3_28 ob_49 fk_3_1 rf_49_1 ?_
    refine Ev.getR (pc' := 35) dX3_personLine_32 rfl fa_RX3_171 ob_26 fk_10_12 rf_26_12 ?_
    refine Ev.iload_n (k := 0) (pc' := 36) dX3_personLine_35 rfl rfl rfl ?_
    refine Ef.callVZ [.ref _, .int _] [] (pc' := 39) dX3_personLine_36 rfl cv_RX3_110_X3_newName ⟨Nat.le_of_ble_eq_true rfl, Nat.le_of_ble_eq_true rfl⟩ ob_49 rfl rfl rfl (Nat.le_of_ble_eq_true rfl) (okX3_newName ar_44 h) (fun r5 I3 L4 h => ?_)
    refine Ef.ifz_eq (pc' := 42) (tgt := 130) dX3_personLine_39 rfl rfl (fun hc => ?_) (fun hc => ?_)
    · have h := h.1 hc
      exact Ev.sub [1, 0] rfl (okX3_personLine_b130 h)
    · have h := h.2 hc
      refine Ev.aload_n (k := 1) (pc' := 43) dX3_personLine_42 rfl rfl rfl ?_
      refine Ev.aload_n (k := 1) (pc' := 44) dX3_personLine_43 rfl rfl rfl ?_
      refine Ev.getR (pc' := 47) dX3_personLine_44 rfl fa_RX3_28 ob_49 fk_3_1 rf_49_1 ?_
      refine Ev.getR (pc' := 50) dX3_personLine_47 rfl fa_RX3_174 ob_26 fk_10_13 rf_26_13 ?_
      refine Ev.iload_n (k := 0) (pc' := 51) dX3_personLine_50 rfl rfl rfl ?_
      refine Ef.callVZ [.ref _, .int _] [] (pc' := 54) dX3_personLine_51 rfl cv_RX3_148_X3_atPlace ⟨Nat.le_of_ble_eq_true rfl, Nat.le_of_ble_eq_true rfl⟩ ob_49 rfl rfl rfl (Nat.le_of_ble_eq_true rfl) (okX3_atPlace ar_45 h) (fun r8 I6 L7 h => ?_)
      refine Ef.ifz_eq (pc' := 57) (tgt := 130) dX3_personLine_54 rfl rfl (fun hc => ?_) (fun hc => ?_)
      · have h := h.1 hc
        exact Ev.sub [1, 0] rfl (okX3_personLine_b130 h)
      · have h := h.2 hc
        refine Ev.aload_n (k := 1) (pc' := 58) dX3_personLine_57 rfl rfl rfl ?_
        refine Ev.aload_n (k := 1) (pc' := 59) dX3_personLine_58 rfl rfl rfl ?_
        refine Ev.getR (pc' := 62) dX3_personLine_59 rfl fa_RX3_28 ob_49 fk_3_1 rf_49_1 ?_
        refine Ev.getR (pc' := 65) dX3_personLine_62 rfl fa_RX3_177 ob_26 fk_10_14 rf_26_14 ?_
        refine Ev.iload_n (k := 0) (pc' := 66) dX3_personLine_65 rfl rfl rfl ?_
        refine Ev.bipush (pc' := 68) dX3_personLine_66 rfl kb_8 ?_
        refine Ev.iconst (pc' := 69) dX3_personLine_68 rfl ki_0 ?_
        refine Ev.bipush (pc' := 71) dX3_personLine_69 rfl kb_9 ?_
        refine Ef.callVZ [.ref _, .int _, .int _, .int _, .int _] [] (pc' := 74) dX3_personLine_71 rfl cv_RX3_117_X3_number ⟨Nat.le_of_ble_eq_true rfl, Nat.le_of_ble_eq_true rfl⟩ ob_49 rfl rfl rfl (Nat.le_of_ble_eq_true rfl) (okX3_number ar_46 h) (fun r11 I9 L10 h => ?_)
        refine Ef.ifz_eq (pc' := 77) (tgt := 130) dX3_personLine_74 rfl rfl (fun hc => ?_) (fun hc => ?_)
        · have h := h.1 hc
          exact Ev.sub [1, 0] rfl (okX3_personLine_b130 h)
        · have h := h.2 hc
          refine Ev.aload_n (k := 1) (pc' := 78) dX3_personLine_77 rfl rfl rfl ?_
          refine Ev.aload_n (k := 1) (pc' := 79) dX3_personLine_78 rfl rfl rfl ?_
          refine Ev.getR (pc' := 82) dX3_personLine_79 rfl fa_RX3_28 ob_49 fk_3_1 rf_49_1 ?_
          refine Ev.getR (pc' := 85) dX3_personLine_82 rfl fa_RX3_180 ob_26 fk_10_15 rf_26_15 ?_
          refine Ev.iload_n (k := 0) (pc' := 86) dX3_personLine_85 rfl rfl rfl ?_
          refine Ev.bipush (pc' := 88) dX3_personLine_86 rfl kb_9 ?_
          refine Ev.iconst (pc' := 89) dX3_personLine_88 rfl ki_0 ?_
          refine Ev.bipush (pc' := 91) dX3_personLine_89 rfl kb_99 ?_
          refine Ef.callVZ [.ref _, .int _, .int _, .int _, .int _] [] (pc' := 94) dX3_personLine_91 rfl cv_RX3_117_X3_number ⟨Nat.le_of_ble_eq_true rfl, Nat.le_of_ble_eq_true rfl⟩ ob_49 rfl rfl rfl (Nat.le_of_ble_eq_true rfl) (okX3_number ar_47 h) (fun r14 I12 L13 h => ?_)
          refine Ef.ifz_eq (pc' := 97) (tgt := 130) dX3_personLine_94 rfl rfl (fun hc => ?_) (fun hc => ?_)
          · have h := h.1 hc
            exact Ev.sub [1, 0] rfl (okX3_personLine_b130 h)
          · have h := h.2 hc
            refine Ev.aload_n (k := 1) (pc' := 98) dX3_personLine_97 rfl rfl rfl ?_
            refine Ev.aload_n (k := 1) (pc' := 99) dX3_personLine_98 rfl rfl rfl ?_
            refine Ev.getR (pc' := 102) dX3_personLine_99 rfl fa_RX3_28 ob_49 fk_3_1 rf_49_1 ?_
            refine Ev.getR (pc' := 105) dX3_personLine_102 rfl fa_RX3_183 ob_26 fk_10_16 rf_26_16 ?_
            refine Ev.iload_n (k := 0) (pc' := 106) dX3_personLine_105 rfl rfl rfl ?_
            refine Ev.bipush (pc' := 108) dX3_personLine_106 rfl kb_22 ?_
            refine Ev.iconst (pc' := 109) dX3_personLine_108 rfl ki_0 ?_
            refine Ev.bipush (pc' := 111) dX3_personLine_109 rfl kb_9 ?_
            refine Ef.callVZ [.ref _, .int _, .int _, .int _, .int _] [] (pc' := 114) dX3_personLine_111 rfl cv_RX3_117_X3_number ⟨Nat.le_of_ble_eq_true rfl, Nat.le_of_ble_eq_true rfl⟩ ob_49 rfl rfl rfl (Nat.le_of_ble_eq_true rfl) (okX3_number ar_48 h) (fun r17 I15 L16 h => ?_)
            refine Ef.ifz_eq (pc' := 117) (tgt := 130) dX3_personLine_114 rfl rfl (fun hc => ?_) (fun hc => ?_)
            · have h := h.1 hc
              exact Ev.sub [1, 0] rfl (okX3_personLine_b130 h)
            · have h := h.2 hc
              refine Ev.aload_n (k := 1) (pc' := 118) dX3_personLine_117 rfl rfl rfl ?_
              refine Ev.bipush (pc' := 120) dX3_personLine_118 rfl kb_23 ?_
              refine Ef.callVZ [.int _] [] (pc' := 123) dX3_personLine_120 rfl cv_RX3_186_X3_word ⟨Nat.le_of_ble_eq_true rfl, Nat.le_of_ble_eq_true rfl⟩ ob_49 rfl rfl rfl (Nat.le_of_ble_eq_true rfl) (okX3_word h) (fun r20 I18 L19 h => ?_)
              refine Ef.ifz_eq (pc' := 126) (tgt := 130) dX3_personLine_123 rfl rfl (fun hc => ?_) (fun hc => ?_)
              · have h := h.1 hc
                exact Ev.sub [1, 0] rfl (okX3_personLine_b130 h)
              · have h := h.2 hc
                refine Ev.iconst (pc' := 127) dX3_personLine_126 rfl ki_1 ?_
                refine Ev.goto (tgt := 131) dX3_personLine_127 rfl ?_
                exact Ev.sub [1, 0] rfl (okX3_personLine_b131 h)
  · have h := h.2 hc
    refine Ev.aload_n (k := 1) (pc' := 15) dX3_personLine_14 rfl rfl rfl ?_
    refine Ev.iconst (pc' := 16) dX3_personLine_15 rfl ki_2 ?_
    refine Ef.callVZ [.int _] [] (pc' := 19) dX3_personLine_16 rfl cv_RX3_75_X3_refuse ⟨Nat.le_of_ble_eq_true rfl, Nat.le_of_ble_eq_true rfl⟩ ob_49 rfl rfl rfl (Nat.le_of_ble_eq_true rfl) (okX3_refuse h) (fun r23 I21 L22 h => ?_)
    exact Ef.zret dX3_personLine_19 rfl h
