def wpX12_useAndMend_l23 (Q : Ix → Lx → Prop) (P23 : Int32 → Ix → Lx → Prop) (v1 : Int32) (I : Ix) (L : Lx) : Prop := ((I 120 45) ≤ v1 → Q I L) ∧ (¬ (I 120 45) ≤ v1 → wpX12_mend v1 I L (fun I1 L2 => P23 (v1 + 1) I1 L2))
def wpX12_useAndMend_h23 (Q : Ix → Lx → Prop) (v1 : Int32) (I : Ix) (L : Lx) : Prop := Lfp (X := Int32 × Ix × Lx) (fun P z => wpX12_useAndMend_l23 Q (fun v1 I L => P (v1, I, L)) z.1 z.2.1 z.2.2) (v1, I, L)
theorem wpX12_useAndMend_h23_fold {Q : Ix → Lx → Prop} {v1 : Int32} {I : Ix} {L : Lx} (h : wpX12_useAndMend_l23 Q (wpX12_useAndMend_h23 Q) v1 I L) : wpX12_useAndMend_h23 Q v1 I L := Lfp.fold h
def wpX12_useAndMend_l2 (Q : Ix → Lx → Prop) (P2 : Int32 → Ix → Lx → Prop) (v1 : Int32) (I : Ix) (L : Lx) : Prop := ((I 120 45) ≤ v1 → wpX12_useAndMend_h23 Q 0 I L) ∧ (¬ (I 120 45) ≤ v1 → wpX12_use v1 I L (fun I1 L2 => P2 (v1 + 1) I1 L2))
def wpX12_useAndMend_h2 (Q : Ix → Lx → Prop) (v1 : Int32) (I : Ix) (L : Lx) : Prop := Lfp (X := Int32 × Ix × Lx) (fun P z => wpX12_useAndMend_l2 Q (fun v1 I L => P (v1, I, L)) z.1 z.2.1 z.2.2) (v1, I, L)
theorem wpX12_useAndMend_h2_fold {Q : Ix → Lx → Prop} {v1 : Int32} {I : Ix} {L : Lx} (h : wpX12_useAndMend_l2 Q (wpX12_useAndMend_h2 Q) v1 I L) : wpX12_useAndMend_h2 Q v1 I L := Lfp.fold h
def wpX12_useAndMend (I : Ix) (L : Lx) (Q : Ix → Lx → Prop) : Prop := wpX12_useAndMend_h2 Q 0 I L
set_option maxRecDepth 10000 in
theorem okX12_useAndMend_l23 {G : Gx} {Q : Ix → Lx → Prop} {P23 : Int32 → Ix → Lx → Prop} (hP23 : ∀ (v1 : Int32) (I : Ix) (L : Lx), P23 v1 I L → Ef G MX12_useAndMend (qV Q) 23 [(0, .ref 120), (1, .int v1)] [] I L) {v1 : Int32} {I : Ix} {L : Lx} (h : wpX12_useAndMend_l23 Q P23 v1 I L) : Ef G MX12_useAndMend (qV Q) 23 [(0, .ref 120), (1, .int v1)] [] I L := by
  unfold wpX12_useAndMend_l23 at h
  refine Ev.iload_n (k := 1) (pc' := 24) dX12_useAndMend_23 rfl rfl rfl ?_
  refine Ev.aload_n (k := 0) (pc' := 25) dX12_useAndMend_24 rfl rfl rfl ?_
  refine Ev.getI (pc' := 28) dX12_useAndMend_25 rfl fa_RX12_440 ob_120 fk_12_45 ?_
  refine Ev.icmp_ge (pc' := 31) (tgt := 42) dX12_useAndMend_28 rfl rfl (fun hc => ?_) (fun hc => ?_)
  · have h := h.1 hc
    exact Ef.vret dX12_useAndMend_42 rfl h
  · have h := h.2 hc
    refine Ev.aload_n (k := 0) (pc' := 32) dX12_useAndMend_31 rfl rfl rfl ?_
    refine Ev.iload_n (k := 1) (pc' := 33) dX12_useAndMend_32 rfl rfl rfl ?_
    refine Ef.callVV [.int _] [] (pc' := 36) dX12_useAndMend_33 rfl cv_RX12_493_X12_mend ⟨Nat.le_of_ble_eq_true rfl, Nat.le_of_ble_eq_true rfl⟩ ob_120 rfl rfl rfl (Nat.le_of_ble_eq_true rfl) (okX12_mend h) (fun I1 L2 h => ?_)
    refine Ev.iinc (k := 1) (v := _) (ls' := [(1, .int _), (0, .ref _)]) (pc' := 39) dX12_useAndMend_36 rfl rfl (congrArg (_ + ·) ki_1) (Nat.le_of_ble_eq_true rfl) rfl ?_
    refine Ev.goto (tgt := 23) dX12_useAndMend_39 rfl ?_
    exact Ev.sub [1, 0] rfl (hP23 _ _ _ h)
set_option maxRecDepth 10000 in
theorem okX12_useAndMend_h23 {G : Gx} {Q : Ix → Lx → Prop} {v1 : Int32} {I : Ix} {L : Lx} (h : wpX12_useAndMend_h23 Q v1 I L) : Ef G MX12_useAndMend (qV Q) 23 [(0, .ref 120), (1, .int v1)] [] I L := by
  unfold wpX12_useAndMend_h23 at h
  refine Lfp.ind (P := fun z => Ef G MX12_useAndMend (qV Q) 23 [(0, .ref 120), (1, .int z.1)] [] z.2.1 z.2.2) ?_ h
  intro z P' hP' h
  obtain ⟨v1, I, L⟩ := z
  exact okX12_useAndMend_l23 (fun v1 I L h9 => hP' (v1, I, L) h9) h
set_option maxRecDepth 10000 in
theorem okX12_useAndMend_l2 {G : Gx} {Q : Ix → Lx → Prop} {P2 : Int32 → Ix → Lx → Prop} (hP2 : ∀ (v1 : Int32) (I : Ix) (L : Lx), P2 v1 I L → Ef G MX12_useAndMend (qV Q) 2 [(0, .ref 120), (1, .int v1)] [] I L) {v1 : Int32} {I : Ix} {L : Lx} (h : wpX12_useAndMend_l2 Q P2 v1 I L) : Ef G MX12_useAndMend (qV Q) 2 [(0, .ref 120), (1, .int v1)] [] I L := by
  unfold wpX12_useAndMend_l2 at h
  refine Ev.iload_n (k := 1) (pc' := 3) dX12_useAndMend_2 rfl rfl rfl ?_
  refine Ev.aload_n (k := 0) (pc' := 4) dX12_useAndMend_3 rfl rfl rfl ?_
  refine Ev.getI (pc' := 7) dX12_useAndMend_4 rfl fa_RX12_440 ob_120 fk_12_45 ?_
  refine Ev.icmp_ge (pc' := 10) (tgt := 21) dX12_useAndMend_7 rfl rfl (fun hc => ?_) (fun hc => ?_)
  · have h := h.1 hc
    refine Ev.iconst (pc' := 22) dX12_useAndMend_21 rfl ki_0 ?_
    refine Ev.istore_n (ls' := [(1, .int _), (0, .ref _)]) (pc' := 23) dX12_useAndMend_22 rfl rfl (Nat.le_of_ble_eq_true rfl) rfl ?_
    exact Ev.sub [1, 0] rfl (okX12_useAndMend_h23 h)
  · have h := h.2 hc
    refine Ev.aload_n (k := 0) (pc' := 11) dX12_useAndMend_10 rfl rfl rfl ?_
    refine Ev.iload_n (k := 1) (pc' := 12) dX12_useAndMend_11 rfl rfl rfl ?_
    refine Ef.callVV [.int _] [] (pc' := 15) dX12_useAndMend_12 rfl cv_RX12_490_X12_use ⟨Nat.le_of_ble_eq_true rfl, Nat.le_of_ble_eq_true rfl⟩ ob_120 rfl rfl rfl (Nat.le_of_ble_eq_true rfl) (okX12_use h) (fun I1 L2 h => ?_)
    refine Ev.iinc (k := 1) (v := _) (ls' := [(1, .int _), (0, .ref _)]) (pc' := 18) dX12_useAndMend_15 rfl rfl (congrArg (_ + ·) ki_1) (Nat.le_of_ble_eq_true rfl) rfl ?_
    refine Ev.goto (tgt := 2) dX12_useAndMend_18 rfl ?_
    exact Ev.sub [1, 0] rfl (hP2 _ _ _ h)
set_option maxRecDepth 10000 in
theorem okX12_useAndMend_h2 {G : Gx} {Q : Ix → Lx → Prop} {v1 : Int32} {I : Ix} {L : Lx} (h : wpX12_useAndMend_h2 Q v1 I L) : Ef G MX12_useAndMend (qV Q) 2 [(0, .ref 120), (1, .int v1)] [] I L := by
  unfold wpX12_useAndMend_h2 at h
  refine Lfp.ind (P := fun z => Ef G MX12_useAndMend (qV Q) 2 [(0, .ref 120), (1, .int z.1)] [] z.2.1 z.2.2) ?_ h
  intro z P' hP' h
  obtain ⟨v1, I, L⟩ := z
  exact okX12_useAndMend_l2 (fun v1 I L h9 => hP' (v1, I, L) h9) h
set_option maxRecDepth 10000 in
theorem okX12_useAndMend {G : Gx} {I : Ix} {L : Lx} {Q : Ix → Lx → Prop} (h : wpX12_useAndMend I L Q) : Mf G MX12_useAndMend [.ref 120] I L (qV Q) := by
  unfold wpX12_useAndMend at h
  refine Mf.of pn_RX12 (Nat.le_of_ble_eq_true rfl) ?_
  refine Ev.iconst (pc' := 1) dX12_useAndMend_0 rfl ki_0 ?_
  refine Ev.istore_n (ls' := [(1, .int _), (0, .ref _)]) (pc' := 2) dX12_useAndMend_1 rfl rfl (Nat.le_of_ble_eq_true rfl) rfl ?_
  exact Ev.sub [1, 0] rfl (okX12_useAndMend_h2 h)
def wpX12_doDay_l72 (Q : Ix → Lx → Prop) (P72 : Int32 → Ix → Lx → Prop) (v3 : Int32) (I : Ix) (L : Lx) : Prop := (10 ≤ v3 → Q I L) ∧ (¬ 10 ≤ v3 → (¬ (I 120 70) = 0 → Q I L) ∧ ((I 120 70) = 0 → (60 < (I 120 57) → Q I L) ∧ (¬ 60 < (I 120 57) → vp_in v3 10 ∧ vp_in ((10 * (I 120 57)) + v3) 610 ∧ ∀ I1 : Ix, I1 = pu I 150 ((10 * (I 120 57)) + v3).toNatClampNeg (I 143 v3.toNatClampNeg) → P72 (v3 + 1) I1 L)))
def wpX12_doDay_h72 (Q : Ix → Lx → Prop) (v3 : Int32) (I : Ix) (L : Lx) : Prop := Lfp (X := Int32 × Ix × Lx) (fun P z => wpX12_doDay_l72 Q (fun v3 I L => P (v3, I, L)) z.1 z.2.1 z.2.2) (v3, I, L)
theorem wpX12_doDay_h72_fold {Q : Ix → Lx → Prop} {v3 : Int32} {I : Ix} {L : Lx} (h : wpX12_doDay_l72 Q (wpX12_doDay_h72 Q) v3 I L) : wpX12_doDay_h72 Q v3 I L := Lfp.fold h
def wpX12_doDay_b60 (Q : Ix → Lx → Prop) (v1 : Int32) (v2 : Int32) (t1 : Int32) (t2 : Int32) (I : Ix) (L : Lx) : Prop := ∀ I1 : Ix, I1 = pu I 120 59 (t1 + t2) → wpX12_doNoons v1 v2 I1 L (fun I2 L3 => wpX12_doDay_h72 Q 0 I2 L3)
def wpX12_doDay_b45 (Q : Ix → Lx → Prop) (v1 : Int32) (t0 : Int32) (I : Ix) (L : Lx) : Prop := (t0 = 0 → wpX12_doDay_b60 Q v1 t0 (I 120 59) 0 I L) ∧ (¬ t0 = 0 → wpX12_doDay_b60 Q v1 t0 (I 120 59) 1 I L)
def wpX12_doDay_b44 (Q : Ix → Lx → Prop) (v1 : Int32) (I : Ix) (L : Lx) : Prop := wpX12_doDay_b45 Q v1 0 I L
def wpX12_doDay (a1 : Int32) (I : Ix) (L : Lx) (Q : Ix → Lx → Prop) : Prop := ∀ I1 : Ix, I1 = pu I 120 57 ((I 120 57) + 1) → wpX12_useAndMend I1 L (fun I2 L3 => (¬ a1 = 3 → ((I2 120 47) ≤ 0 → wpX12_doDay_b44 Q a1 I2 L3) ∧ (¬ (I2 120 47) ≤ 0 → wpX12_draw 100 I2 L3 (fun r6 I4 L5 => ((I4 120 47) ≤ r6 → wpX12_doDay_b44 Q a1 I4 L5) ∧ (¬ (I4 120 47) ≤ r6 → wpX12_doDay_b45 Q a1 1 I4 L5)))) ∧ (a1 = 3 → Q I2 L3))
set_option maxRecDepth 10000 in
theorem okX12_doDay_l72 {G : Gx} {Q : Ix → Lx → Prop} {P72 : Int32 → Ix → Lx → Prop} (hP72 : ∀ (v3 : Int32) (I : Ix) (L : Lx), P72 v3 I L → Ef G MX12_doDay (qV Q) 72 [(0, .ref 120), (3, .int v3)] [] I L) {v3 : Int32} {I : Ix} {L : Lx} (h : wpX12_doDay_l72 Q P72 v3 I L) : Ef G MX12_doDay (qV Q) 72 [(0, .ref 120), (3, .int v3)] [] I L := by
  unfold wpX12_doDay_l72 at h
  refine Ev.iload_n (k := 1) (pc' := 73) dX12_doDay_72 rfl rfl rfl ?_
  refine Ev.bipush (pc' := 75) dX12_doDay_73 rfl kb_10 ?_
  refine Ev.icmp_ge (pc' := 78) (tgt := 120) dX12_doDay_75 rfl rfl (fun hc => ?_) (fun hc => ?_)
  · have h := h.1 hc
    exact Ef.vret dX12_doDay_120 rfl h
  · have h := h.2 hc
    refine Ev.aload_n (k := 0) (pc' := 79) dX12_doDay_78 rfl rfl rfl ?_
    refine Ev.getI (pc' := 82) dX12_doDay_79 rfl fa_RX12_479 ob_120 fk_12_70 ?_
    refine Ev.if_ne (pc' := 85) (tgt := 120) dX12_doDay_82 rfl rfl (fun hc => ?_) (fun hc => ?_)
    · have h := h.1 hc
      exact Ef.vret dX12_doDay_120 rfl h
    · have h := h.2 hc
      refine Ev.aload_n (k := 0) (pc' := 86) dX12_doDay_85 rfl rfl rfl ?_
      refine Ev.getI (pc' := 89) dX12_doDay_86 rfl fa_RX12_464 ob_120 fk_12_57 ?_
      refine Ev.bipush (pc' := 91) dX12_doDay_89 rfl kb_60 ?_
      refine Ev.icmp_gt (pc' := 94) (tgt := 120) dX12_doDay_91 rfl rfl (fun hc => ?_) (fun hc => ?_)
      · have h := h.1 hc
        exact Ef.vret dX12_doDay_120 rfl h
      · have h := h.2 hc
        refine Ev.aload_n (k := 0) (pc' := 95) dX12_doDay_94 rfl rfl rfl ?_
        refine Ev.getR (pc' := 98) dX12_doDay_95 rfl fa_RX12_106 ob_120 fk_12_60 rf_120_60 ?_
        refine Ev.bipush (pc' := 100) dX12_doDay_98 rfl kb_10 ?_
        refine Ev.aload_n (k := 0) (pc' := 101) dX12_doDay_100 rfl rfl rfl ?_
        refine Ev.getI (pc' := 104) dX12_doDay_101 rfl fa_RX12_464 ob_120 fk_12_57 ?_
        refine Ev.imul (pc' := 105) dX12_doDay_104 rfl ?_
        refine Ev.iload_n (k := 1) (pc' := 106) dX12_doDay_105 rfl rfl rfl ?_
        refine Ev.iadd (pc' := 107) dX12_doDay_106 rfl ?_
        refine Ev.aload_n (k := 0) (pc' := 108) dX12_doDay_107 rfl rfl rfl ?_
        refine Ev.getR (pc' := 111) dX12_doDay_108 rfl fa_RX12_81 ob_120 fk_12_50 rf_120_50 ?_
        refine Ev.iload_n (k := 1) (pc' := 112) dX12_doDay_111 rfl rfl rfl ?_
        refine Ev.iaload (j := _) (pc' := 113) dX12_doDay_112 rfl ar_143 h.1 rfl ?_
        have h := h.2
        refine Ev.iastore (j := _) (pc' := 114) dX12_doDay_113 rfl ar_150 h.1 rfl (fun I1 eI1 => ?_)
        have h := h.2 I1 eI1
        refine Ev.iinc (k := 1) (v := _) (ls' := [(3, .int _), (0, .ref _)]) (pc' := 117) dX12_doDay_114 rfl rfl (congrArg (_ + ·) ki_1) (Nat.le_of_ble_eq_true rfl) rfl ?_
        refine Ev.goto (tgt := 72) dX12_doDay_117 rfl ?_
        exact Ev.sub [1, 0] rfl (hP72 _ _ _ h)
set_option maxRecDepth 10000 in
theorem okX12_doDay_h72 {G : Gx} {Q : Ix → Lx → Prop} {v3 : Int32} {I : Ix} {L : Lx} (h : wpX12_doDay_h72 Q v3 I L) : Ef G MX12_doDay (qV Q) 72 [(0, .ref 120), (3, .int v3)] [] I L := by
  unfold wpX12_doDay_h72 at h
  refine Lfp.ind (P := fun z => Ef G MX12_doDay (qV Q) 72 [(0, .ref 120), (3, .int z.1)] [] z.2.1 z.2.2) ?_ h
  intro z P' hP' h
  obtain ⟨v3, I, L⟩ := z
  exact okX12_doDay_l72 (fun v3 I L h9 => hP' (v3, I, L) h9) h
set_option maxRecDepth 10000 in
theorem okX12_doDay_b60 {G : Gx} {Q : Ix → Lx → Prop} {v1 : Int32} {v2 : Int32} {t1 : Int32} {t2 : Int32} {I : Ix} {L : Lx} (h : wpX12_doDay_b60 Q v1 v2 t1 t2 I L) : Ef G MX12_doDay (qV Q) 60 [(0, .ref 120), (1, .int v1), (2, .int v2)] [.int t2, .int t1, .ref 120] I L := by
  unfold wpX12_doDay_b60 at h
  refine Ev.iadd (pc' := 61) dX12_doDay_60 rfl ?_
  refine Ev.putI (pc' := 64) dX12_doDay_61 rfl fa_RX12_467 ob_120 fk_12_59 rfl rfl (fun I1 eI1 => ?_)
  have h := h I1 eI1
  refine Ev.aload_n (k := 0) (pc' := 65) dX12_doDay_64 rfl rfl rfl ?_
  refine Ev.iload_n (k := 1) (pc' := 66) dX12_doDay_65 rfl rfl rfl ?_
  refine Ev.iload_n (k := 2) (pc' := 67) dX12_doDay_66 rfl rfl rfl ?_
  refine Ef.callVV [.int _, .int _] [] (pc' := 70) dX12_doDay_67 rfl cv_RX12_555_X12_doNoons ⟨Nat.le_of_ble_eq_true rfl, Nat.le_of_ble_eq_true rfl⟩ ob_120 rfl rfl rfl (Nat.le_of_ble_eq_true rfl) (okX12_doNoons h) (fun I2 L3 h => ?_)
  refine Ev.iconst (pc' := 71) dX12_doDay_70 rfl ki_0 ?_
  refine Ev.istore_n (ls' := [(3, .int _), (0, .ref _), (1, .int _), (2, .int _)]) (pc' := 72) dX12_doDay_71 rfl rfl (Nat.le_of_ble_eq_true rfl) rfl ?_
  exact Ev.sub [1, 0] rfl (okX12_doDay_h72 h)
set_option maxRecDepth 10000 in
theorem okX12_doDay_b45 {G : Gx} {Q : Ix → Lx → Prop} {v1 : Int32} {t0 : Int32} {I : Ix} {L : Lx} (h : wpX12_doDay_b45 Q v1 t0 I L) : Ef G MX12_doDay (qV Q) 45 [(0, .ref 120), (1, .int v1)] [.int t0] I L := by
  unfold wpX12_doDay_b45 at h
  refine Ev.istore_n (ls' := [(2, .int _), (0, .ref _), (1, .int _)]) (pc' := 46) dX12_doDay_45 rfl rfl (Nat.le_of_ble_eq_true rfl) rfl ?_
  refine Ev.aload_n (k := 1) (pc' := 47) dX12_doDay_46 rfl rfl rfl ?_
  refine Ev.dup (pc' := 48) dX12_doDay_47 rfl rfl ?_
  refine Ev.getI (pc' := 51) dX12_doDay_48 rfl fa_RX12_467 ob_120 fk_12_59 ?_
  refine Ev.iload_n (k := 0) (pc' := 52) dX12_doDay_51 rfl rfl rfl ?_
  refine Ev.if_eq (pc' := 55) (tgt := 59) dX12_doDay_52 rfl rfl (fun hc => ?_) (fun hc => ?_)
  · have h := h.1 hc
    refine Ev.iconst (pc' := 60) dX12_doDay_59 rfl ki_0 ?_
    exact Ev.sub [1, 2, 0] rfl (okX12_doDay_b60 h)
  · have h := h.2 hc
    refine Ev.iconst (pc' := 56) dX12_doDay_55 rfl ki_1 ?_
    refine Ev.goto (tgt := 60) dX12_doDay_56 rfl ?_
    exact Ev.sub [1, 2, 0] rfl (okX12_doDay_b60 h)
set_option maxRecDepth 10000 in
theorem okX12_doDay_b44 {G : Gx} {Q : Ix → Lx → Prop} {v1 : Int32} {I : Ix} {L : Lx} (h : wpX12_doDay_b44 Q v1 I L) : Ef G MX12_doDay (qV Q) 44 [(0, .ref 120), (1, .int v1)] [] I L := by
  unfold wpX12_doDay_b44 at h
  refine Ev.iconst (pc' := 45) dX12_doDay_44 rfl ki_0 ?_
  exact okX12_doDay_b45 h
set_option maxRecDepth 10000 in
theorem okX12_doDay {G : Gx} {a1 : Int32} {I : Ix} {L : Lx} {Q : Ix → Lx → Prop} (h : wpX12_doDay a1 I L Q) : Mf G MX12_doDay [.ref 120, .int a1] I L (qV Q) := by
  unfold wpX12_doDay at h
  refine Mf.of pn_RX12 (Nat.le_of_ble_eq_true rfl) ?_
  refine Ev.aload_n (k := 0) (pc' := 1) dX12_doDay_0 rfl rfl rfl ?_
  refine Ev.dup (pc' := 2) dX12_doDay_1 rfl rfl ?_
  refine Ev.getI (pc' := 5) dX12_doDay_2 rfl fa_RX12_464 ob_120 fk_12_57 ?_
  refine Ev.iconst (pc' := 6) dX12_doDay_5 rfl ki_1 ?_
  refine Ev.iadd (pc' := 7) dX12_doDay_6 rfl ?_
  refine Ev.putI (pc' := 10) dX12_doDay_7 rfl fa_RX12_464 ob_120 fk_12_57 rfl rfl (fun I1 eI1 => ?_)
  have h := h I1 eI1
  refine Ev.aload_n (k := 0) (pc' := 11) dX12_doDay_10 rfl rfl rfl ?_
  refine Ef.callVV [] [] (pc' := 14) dX12_doDay_11 rfl cv_RX12_552_X12_useAndMend ⟨Nat.le_of_ble_eq_true rfl, Nat.le_of_ble_eq_true rfl⟩ ob_120 rfl rfl rfl (Nat.le_of_ble_eq_true rfl) (okX12_useAndMend h) (fun I2 L3 h => ?_)
  refine Ev.iload_n (k := 1) (pc' := 15) dX12_doDay_14 rfl rfl rfl ?_
  refine Ev.iconst (pc' := 16) dX12_doDay_15 rfl ki_3 ?_
  refine Ev.icmp_ne (pc' := 19) (tgt := 20) dX12_doDay_16 rfl rfl (fun hc => ?_) (fun hc => ?_)
  · have h := h.1 hc
    refine Ev.aload_n (k := 0) (pc' := 21) dX12_doDay_20 rfl rfl rfl ?_
    refine Ev.getI (pc' := 24) dX12_doDay_21 rfl fa_RX12_446 ob_120 fk_12_47 ?_
    refine Ev.if_le (pc' := 27) (tgt := 44) dX12_doDay_24 rfl rfl (fun hc => ?_) (fun hc => ?_)
    · have h := h.1 hc
      exact okX12_doDay_b44 h
    · have h := h.2 hc
      refine Ev.aload_n (k := 0) (pc' := 28) dX12_doDay_27 rfl rfl rfl ?_
      refine Ev.bipush (pc' := 30) dX12_doDay_28 rfl kb_100 ?_
      refine Ef.callVI [.int _] [] (pc' := 33) dX12_doDay_30 rfl cv_RX12_533_X12_draw ⟨Nat.le_of_ble_eq_true rfl, Nat.le_of_ble_eq_true rfl⟩ ob_120 rfl rfl rfl (Nat.le_of_ble_eq_true rfl) (okX12_draw h) (fun r6 I4 L5 h => ?_)
      refine Ev.aload_n (k := 0) (pc' := 34) dX12_doDay_33 rfl rfl rfl ?_
      refine Ev.getI (pc' := 37) dX12_doDay_34 rfl fa_RX12_446 ob_120 fk_12_47 ?_
      refine Ev.icmp_ge (pc' := 40) (tgt := 44) dX12_doDay_37 rfl rfl (fun hc => ?_) (fun hc => ?_)
      · have h := h.1 hc
        exact okX12_doDay_b44 h
      · have h := h.2 hc
        refine Ev.iconst (pc' := 41) dX12_doDay_40 rfl ki_1 ?_
        refine Ev.goto (tgt := 45) dX12_doDay_41 rfl ?_
        exact okX12_doDay_b45 h
  · have h := h.2 hc
    exact Ef.vret dX12_doDay_19 rfl h
def wpX12_run_l31 (Q : Int32 → Ix → Lx → Prop) (P31 : Int32 → Int32 → Int32 → Ix → Lx → Prop) (v1 : Int32) (v2 : Int32) (v3 : Int32) (I : Ix) (L : Lx) : Prop := (v1 ≤ v3 → wpX12_allMade I L (fun r3 I1 L2 => Q (r3 - v2) I1 L2)) ∧ (¬ v1 ≤ v3 → wpX12_doDay (I 120 46) I L (fun I4 L5 => P31 v1 v2 (v3 + 1) I4 L5))
def wpX12_run_h31 (Q : Int32 → Ix → Lx → Prop) (v1 : Int32) (v2 : Int32) (v3 : Int32) (I : Ix) (L : Lx) : Prop := Lfp (X := Int32 × Int32 × Int32 × Ix × Lx) (fun P z => wpX12_run_l31 Q (fun v1 v2 v3 I L => P (v1, v2, v3, I, L)) z.1 z.2.1 z.2.2.1 z.2.2.2.1 z.2.2.2.2) (v1, v2, v3, I, L)
theorem wpX12_run_h31_fold {Q : Int32 → Ix → Lx → Prop} {v1 : Int32} {v2 : Int32} {v3 : Int32} {I : Ix} {L : Lx} (h : wpX12_run_l31 Q (wpX12_run_h31 Q) v1 v2 v3 I L) : wpX12_run_h31 Q v1 v2 v3 I L := Lfp.fold h
def wpX12_run (a1 : Int32) (I : Ix) (L : Lx) (Q : Int32 → Ix → Lx → Prop) : Prop := (a1 < 0 → Q (-1) I L) ∧ (¬ a1 < 0 → (100 < a1 → Q (-1) I L) ∧ (¬ 100 < a1 → (((I 120 57) + a1) ≤ 10000 → wpX12_allMade I L (fun r3 I1 L2 => wpX12_run_h31 Q a1 r3 0 I1 L2)) ∧ (¬ ((I 120 57) + a1) ≤ 10000 → Q (-1) I L)))
set_option maxRecDepth 10000 in
theorem okX12_run_l31 {G : Gx} {Q : Int32 → Ix → Lx → Prop} {P31 : Int32 → Int32 → Int32 → Ix → Lx → Prop} (hP31 : ∀ (v1 : Int32) (v2 : Int32) (v3 : Int32) (I : Ix) (L : Lx), P31 v1 v2 v3 I L → Ef G MX12_run (qI Q) 31 [(0, .ref 120), (1, .int v1), (2, .int v2), (3, .int v3)] [] I L) {v1 : Int32} {v2 : Int32} {v3 : Int32} {I : Ix} {L : Lx} (h : wpX12_run_l31 Q P31 v1 v2 v3 I L) : Ef G MX12_run (qI Q) 31 [(0, .ref 120), (1, .int v1), (2, .int v2), (3, .int v3)] [] I L := by
  unfold wpX12_run_l31 at h
  refine Ev.iload_n (k := 3) (pc' := 32) dX12_run_31 rfl rfl rfl ?_
  refine Ev.iload_n (k := 1) (pc' := 33) dX12_run_32 rfl rfl rfl ?_
  refine Ev.icmp_ge (pc' := 36) (tgt := 50) dX12_run_33 rfl rfl (fun hc => ?_) (fun hc => ?_)
  · have h := h.1 hc
    refine Ev.aload_n (k := 0) (pc' := 51) dX12_run_50 rfl rfl rfl ?_
    refine Ef.callVI [] [] (pc' := 54) dX12_run_51 rfl cv_RX12_559_X12_allMade ⟨Nat.le_of_ble_eq_true rfl, Nat.le_of_ble_eq_true rfl⟩ ob_120 rfl rfl rfl (Nat.le_of_ble_eq_true rfl) (okX12_allMade h) (fun r3 I1 L2 h => ?_)
    refine Ev.iload_n (k := 2) (pc' := 55) dX12_run_54 rfl rfl rfl ?_
    refine Ev.isub (pc' := 56) dX12_run_55 rfl ?_
    exact Ef.iret dX12_run_56 rfl h
  · have h := h.2 hc
    refine Ev.aload_n (k := 0) (pc' := 37) dX12_run_36 rfl rfl rfl ?_
    refine Ev.aload_n (k := 0) (pc' := 38) dX12_run_37 rfl rfl rfl ?_
    refine Ev.getI (pc' := 41) dX12_run_38 rfl fa_RX12_443 ob_120 fk_12_46 ?_
    refine Ef.callVV [.int _] [] (pc' := 44) dX12_run_41 rfl cv_RX12_562_X12_doDay ⟨Nat.le_of_ble_eq_true rfl, Nat.le_of_ble_eq_true rfl⟩ ob_120 rfl rfl rfl (Nat.le_of_ble_eq_true rfl) (okX12_doDay h) (fun I4 L5 h => ?_)
    refine Ev.iinc (k := 3) (v := _) (ls' := [(3, .int _), (0, .ref _), (1, .int _), (2, .int _)]) (pc' := 47) dX12_run_44 rfl rfl (congrArg (_ + ·) ki_1) (Nat.le_of_ble_eq_true rfl) rfl ?_
    refine Ev.goto (tgt := 31) dX12_run_47 rfl ?_
    exact Ev.sub [1, 2, 3, 0] rfl (hP31 _ _ _ _ _ h)
set_option maxRecDepth 10000 in
theorem okX12_run_h31 {G : Gx} {Q : Int32 → Ix → Lx → Prop} {v1 : Int32} {v2 : Int32} {v3 : Int32} {I : Ix} {L : Lx} (h : wpX12_run_h31 Q v1 v2 v3 I L) : Ef G MX12_run (qI Q) 31 [(0, .ref 120), (1, .int v1), (2, .int v2), (3, .int v3)] [] I L := by
  unfold wpX12_run_h31 at h
  refine Lfp.ind (P := fun z => Ef G MX12_run (qI Q) 31 [(0, .ref 120), (1, .int z.1), (2, .int z.2.1), (3, .int z.2.2.1)] [] z.2.2.2.1 z.2.2.2.2) ?_ h
  intro z P' hP' h
  obtain ⟨v1, v2, v3, I, L⟩ := z
  exact okX12_run_l31 (fun v1 v2 v3 I L h9 => hP' (v1, v2, v3, I, L) h9) h
set_option maxRecDepth 10000 in
theorem okX12_run {G : Gx} {a1 : Int32} {I : Ix} {L : Lx} {Q : Int32 → Ix → Lx → Prop} (h : wpX12_run a1 I L Q) : Mf G MX12_run [.ref 120, .int a1] I L (qI Q) := by
  unfold wpX12_run at h
  refine Mf.of pn_RX12 (Nat.le_of_ble_eq_true rfl) ?_
  refine Ev.iload_n (k := 1) (pc' := 1) dX12_run_0 rfl rfl rfl ?_
  refine Ev.if_lt (pc' := 4) (tgt := 22) dX12_run_1 rfl rfl (fun hc => ?_) (fun hc => ?_)
  · have h := h.1 hc
    refine Ev.iconst (pc' := 23) dX12_run_22 rfl ki_m1 ?_
    exact Ef.iret dX12_run_23 rfl h
  · have h := h.2 hc
    refine Ev.iload_n (k := 1) (pc' := 5) dX12_run_4 rfl rfl rfl ?_
    refine Ev.bipush (pc' := 7) dX12_run_5 rfl kb_100 ?_
    refine Ev.icmp_gt (pc' := 10) (tgt := 22) dX12_run_7 rfl rfl (fun hc => ?_) (fun hc => ?_)
    · have h := h.1 hc
      refine Ev.iconst (pc' := 23) dX12_run_22 rfl ki_m1 ?_
      exact Ef.iret dX12_run_23 rfl h
    · have h := h.2 hc
      refine Ev.aload_n (k := 0) (pc' := 11) dX12_run_10 rfl rfl rfl ?_
      refine Ev.getI (pc' := 14) dX12_run_11 rfl fa_RX12_464 ob_120 fk_12_57 ?_
      refine Ev.iload_n (k := 1) (pc' := 15) dX12_run_14 rfl rfl rfl ?_
      refine Ev.iadd (pc' := 16) dX12_run_15 rfl ?_
      refine Ev.sipush (pc' := 19) dX12_run_16 rfl ks_10000 ?_
      refine Ev.icmp_le (pc' := 22) (tgt := 24) dX12_run_19 rfl rfl (fun hc => ?_) (fun hc => ?_)
      · have h := h.1 hc
        refine Ev.aload_n (k := 0) (pc' := 25) dX12_run_24 rfl rfl rfl ?_
        refine Ef.callVI [] [] (pc' := 28) dX12_run_25 rfl cv_RX12_559_X12_allMade ⟨Nat.le_of_ble_eq_true rfl, Nat.le_of_ble_eq_true rfl⟩ ob_120 rfl rfl rfl (Nat.le_of_ble_eq_true rfl) (okX12_allMade h) (fun r3 I1 L2 h => ?_)
        refine Ev.istore_n (ls' := [(2, .int _), (0, .ref _), (1, .int _)]) (pc' := 29) dX12_run_28 rfl rfl (Nat.le_of_ble_eq_true rfl) rfl ?_
        refine Ev.iconst (pc' := 30) dX12_run_29 rfl ki_0 ?_
        refine Ev.istore_n (ls' := [(3, .int _), (2, .int _), (0, .ref _), (1, .int _)]) (pc' := 31) dX12_run_30 rfl rfl (Nat.le_of_ble_eq_true rfl) rfl ?_
        exact Ev.sub [2, 3, 1, 0] rfl (okX12_run_h31 h)
      · have h := h.2 hc
        refine Ev.iconst (pc' := 23) dX12_run_22 rfl ki_m1 ?_
        exact Ef.iret dX12_run_23 rfl h
def wpX12_isThing (a1 : Int32) (I : Ix) (L : Lx) (Q : Bool → Ix → Lx → Prop) : Prop := (a1 < 0 → Q false I L) ∧ (¬ a1 < 0 → ((I 120 44) ≤ a1 → Q false I L) ∧ (¬ (I 120 44) ≤ a1 → Q true I L))
set_option maxRecDepth 10000 in
theorem okX12_isThing {G : Gx} {a1 : Int32} {I : Ix} {L : Lx} {Q : Bool → Ix → Lx → Prop} (h : wpX12_isThing a1 I L Q) : Mf G MX12_isThing [.ref 120, .int a1] I L (qZ Q) := by
  unfold wpX12_isThing at h
  refine Mf.of pn_RX12 (Nat.le_of_ble_eq_true rfl) ?_
  refine Ev.iload_n (k := 1) (pc' := 1) dX12_isThing_0 rfl rfl rfl ?_
  refine Ev.if_lt (pc' := 4) (tgt := 16) dX12_isThing_1 rfl rfl (fun hc => ?_) (fun hc => ?_)
  · have h := h.1 hc
    refine Ev.iconst (pc' := 17) dX12_isThing_16 rfl ki_0 ?_
    exact Ef.zret (b := false) dX12_isThing_17 rfl h
  · have h := h.2 hc
    refine Ev.iload_n (k := 1) (pc' := 5) dX12_isThing_4 rfl rfl rfl ?_
    refine Ev.aload_n (k := 0) (pc' := 6) dX12_isThing_5 rfl rfl rfl ?_
    refine Ev.getI (pc' := 9) dX12_isThing_6 rfl fa_RX12_437 ob_120 fk_12_44 ?_
    refine Ev.icmp_ge (pc' := 12) (tgt := 16) dX12_isThing_9 rfl rfl (fun hc => ?_) (fun hc => ?_)
    · have h := h.1 hc
      refine Ev.iconst (pc' := 17) dX12_isThing_16 rfl ki_0 ?_
      exact Ef.zret (b := false) dX12_isThing_17 rfl h
    · have h := h.2 hc
      refine Ev.iconst (pc' := 13) dX12_isThing_12 rfl ki_1 ?_
      refine Ev.goto (tgt := 17) dX12_isThing_13 rfl ?_
      exact Ef.zret (b := true) dX12_isThing_17 rfl h
def wpX12_thing (a1 : Int32) (a2 : Int32) (I : Ix) (L : Lx) (Q : Int32 → Ix → Lx → Prop) : Prop := wpX12_isThing a1 I L (fun r3 I1 L2 => (r3 = true → (a2 = 0 → vp_in a1 10 ∧ Q (I1 143 a1.toNatClampNeg) I1 L2) ∧ (a2 = 1 → vp_in a1 10 ∧ Q (I1 144 a1.toNatClampNeg) I1 L2) ∧ (a2 = 2 → vp_in a1 10 ∧ Q (I1 145 a1.toNatClampNeg) I1 L2) ∧ (a2 = 3 → vp_in a1 10 ∧ ((I1 149 a1.toNatClampNeg) = 0 → Q 0 I1 L2) ∧ (¬ (I1 149 a1.toNatClampNeg) = 0 → Q 1 I1 L2)) ∧ (a2 = 4 → wpX12_placeOf a1 I1 L2 (fun r6 I4 L5 => Q r6 I4 L5)) ∧ (a2 = 5 → vp_in a1 10 ∧ Q (I1 146 a1.toNatClampNeg) I1 L2) ∧ (¬ a2 = 0 → ¬ a2 = 1 → ¬ a2 = 2 → ¬ a2 = 3 → ¬ a2 = 4 → ¬ a2 = 5 → Q (-2) I1 L2)) ∧ (r3 = false → Q (-2) I1 L2))
set_option maxRecDepth 10000 in
theorem okX12_thing {G : Gx} {a1 : Int32} {a2 : Int32} {I : Ix} {L : Lx} {Q : Int32 → Ix → Lx → Prop} (h : wpX12_thing a1 a2 I L Q) : Mf G MX12_thing [.ref 120, .int a1, .int a2] I L (qI Q) := by
  unfold wpX12_thing at h
  refine Mf.of pn_RX12 (Nat.le_of_ble_eq_true rfl) ?_
  refine Ev.aload_n (k := 0) (pc' := 1) dX12_thing_0 rfl rfl rfl ?_
  refine Ev.iload_n (k := 1) (pc' := 2) dX12_thing_1 rfl rfl rfl ?_
  refine Ef.callVZ [.int _] [] (pc' := 5) dX12_thing_2 rfl cv_RX12_565_X12_isThing ⟨Nat.le_of_ble_eq_true rfl, Nat.le_of_ble_eq_true rfl⟩ ob_120 rfl rfl rfl (Nat.le_of_ble_eq_true rfl) (okX12_isThing h) (fun r3 I1 L2 h => ?_)
  refine Ef.ifz_ne (pc' := 8) (tgt := 11) dX12_thing_5 rfl rfl (fun hc => ?_) (fun hc => ?_)
  · have h := h.1 hc
    refine Ev.iload_n (k := 2) (pc' := 12) dX12_thing_11 rfl rfl rfl ?_
    by_cases e0 : a2 = 0
    · refine Ev.tableIn (off := 40) (tgt := 52) dX12_thing_12 (by rw [e0]; decide) (by rw [e0]; decide) (by rw [e0]; decide) rfl ?_
      have h := h.1 e0
      refine Ev.aload_n (k := 0) (pc' := 53) dX12_thing_52 rfl rfl rfl ?_
      refine Ev.getR (pc' := 56) dX12_thing_53 rfl fa_RX12_81 ob_120 fk_12_50 rf_120_50 ?_
      refine Ev.iload_n (k := 1) (pc' := 57) dX12_thing_56 rfl rfl rfl ?_
      refine Ev.iaload (j := _) (pc' := 58) dX12_thing_57 rfl ar_143 h.1 rfl ?_
      have h := h.2
      exact Ef.iret dX12_thing_58 rfl h
    by_cases e1 : a2 = 1
    · refine Ev.tableIn (off := 47) (tgt := 59) dX12_thing_12 (by rw [e1]; decide) (by rw [e1]; decide) (by rw [e1]; decide) rfl ?_
      have h := h.2.1 e1
      refine Ev.aload_n (k := 0) (pc' := 60) dX12_thing_59 rfl rfl rfl ?_
      refine Ev.getR (pc' := 63) dX12_thing_60 rfl fa_RX12_84 ob_120 fk_12_51 rf_120_51 ?_
      refine Ev.iload_n (k := 1) (pc' := 64) dX12_thing_63 rfl rfl rfl ?_
      refine Ev.iaload (j := _) (pc' := 65) dX12_thing_64 rfl ar_144 h.1 rfl ?_
      have h := h.2
      exact Ef.iret dX12_thing_65 rfl h
    by_cases e2 : a2 = 2
    · refine Ev.tableIn (off := 54) (tgt := 66) dX12_thing_12 (by rw [e2]; decide) (by rw [e2]; decide) (by rw [e2]; decide) rfl ?_
      have h := h.2.2.1 e2
      refine Ev.aload_n (k := 0) (pc' := 67) dX12_thing_66 rfl rfl rfl ?_
      refine Ev.getR (pc' := 70) dX12_thing_67 rfl fa_RX12_87 ob_120 fk_12_52 rf_120_52 ?_
      refine Ev.iload_n (k := 1) (pc' := 71) dX12_thing_70 rfl rfl rfl ?_
      refine Ev.iaload (j := _) (pc' := 72) dX12_thing_71 rfl ar_145 h.1 rfl ?_
      have h := h.2
      exact Ef.iret dX12_thing_72 rfl h
    by_cases e3 : a2 = 3
    · refine Ev.tableIn (off := 61) (tgt := 73) dX12_thing_12 (by rw [e3]; decide) (by rw [e3]; decide) (by rw [e3]; decide) rfl ?_
      have h := h.2.2.2.1 e3
      refine Ev.aload_n (k := 0) (pc' := 74) dX12_thing_73 rfl rfl rfl ?_
      refine Ev.getR (pc' := 77) dX12_thing_74 rfl fa_RX12_99 ob_120 fk_12_56 rf_120_56 ?_
      refine Ev.iload_n (k := 1) (pc' := 78) dX12_thing_77 rfl rfl rfl ?_
      refine Ev.zaload (j := _) (pc' := 79) dX12_thing_78 rfl ar_149 h.1 rfl ?_
      have h := h.2
      refine Ev.if_eq (pc' := 82) (tgt := 86) dX12_thing_79 rfl rfl (fun hc => ?_) (fun hc => ?_)
      · have h := h.1 hc
        refine Ev.iconst (pc' := 87) dX12_thing_86 rfl ki_0 ?_
        exact Ef.iret dX12_thing_87 rfl h
      · have h := h.2 hc
        refine Ev.iconst (pc' := 83) dX12_thing_82 rfl ki_1 ?_
        refine Ev.goto (tgt := 87) dX12_thing_83 rfl ?_
        exact Ef.iret dX12_thing_87 rfl h
    by_cases e4 : a2 = 4
    · refine Ev.tableIn (off := 76) (tgt := 88) dX12_thing_12 (by rw [e4]; decide) (by rw [e4]; decide) (by rw [e4]; decide) rfl ?_
      have h := h.2.2.2.2.1 e4
      refine Ev.aload_n (k := 0) (pc' := 89) dX12_thing_88 rfl rfl rfl ?_
      refine Ev.iload_n (k := 1) (pc' := 90) dX12_thing_89 rfl rfl rfl ?_
      refine Ef.callVI [.int _] [] (pc' := 93) dX12_thing_90 rfl cv_RX12_502_X12_placeOf ⟨Nat.le_of_ble_eq_true rfl, Nat.le_of_ble_eq_true rfl⟩ ob_120 rfl rfl rfl (Nat.le_of_ble_eq_true rfl) (okX12_placeOf h) (fun r6 I4 L5 h => ?_)
      exact Ef.iret dX12_thing_93 rfl h
    by_cases e5 : a2 = 5
    · refine Ev.tableIn (off := 82) (tgt := 94) dX12_thing_12 (by rw [e5]; decide) (by rw [e5]; decide) (by rw [e5]; decide) rfl ?_
      have h := h.2.2.2.2.2.1 e5
      refine Ev.aload_n (k := 0) (pc' := 95) dX12_thing_94 rfl rfl rfl ?_
      refine Ev.getR (pc' := 98) dX12_thing_95 rfl fa_RX12_90 ob_120 fk_12_53 rf_120_53 ?_
      refine Ev.iload_n (k := 1) (pc' := 99) dX12_thing_98 rfl rfl rfl ?_
      refine Ev.iaload (j := _) (pc' := 100) dX12_thing_99 rfl ar_146 h.1 rfl ?_
      have h := h.2
      exact Ef.iret dX12_thing_100 rfl h
    have h := h.2.2.2.2.2.2 e0 e1 e2 e3 e4 e5
    refine Ev.tableOut (tgt := 101) dX12_thing_12 (sw_out fun v h1 h2 => ?_) rfl ?_
    · have h3 : v = 0 ∨ v = 1 ∨ v = 2 ∨ v = 3 ∨ v = 4 ∨ v = 5 := by omega
      rcases h3 with rfl | rfl | rfl | rfl | rfl | rfl
      · exact fun q => e0 (q.trans (by decide))
      · exact fun q => e1 (q.trans (by decide))
      · exact fun q => e2 (q.trans (by decide))
      · exact fun q => e3 (q.trans (by decide))
      · exact fun q => e4 (q.trans (by decide))
      · exact fun q => e5 (q.trans (by decide))
    · refine Ev.bipush (pc' := 103) dX12_thing_101 rfl kb_m2 ?_
      exact Ef.iret dX12_thing_103 rfl h
  · have h := h.2 hc
    refine Ev.bipush (pc' := 10) dX12_thing_8 rfl kb_m2 ?_
    exact Ef.iret dX12_thing_10 rfl h
def wpX12_isPerson (a1 : Int32) (I : Ix) (L : Lx) (Q : Bool → Ix → Lx → Prop) : Prop := (a1 < 0 → Q false I L) ∧ (¬ a1 < 0 → ((I 120 45) ≤ a1 → Q false I L) ∧ (¬ (I 120 45) ≤ a1 → Q true I L))
set_option maxRecDepth 10000 in
theorem okX12_isPerson {G : Gx} {a1 : Int32} {I : Ix} {L : Lx} {Q : Bool → Ix → Lx → Prop} (h : wpX12_isPerson a1 I L Q) : Mf G MX12_isPerson [.ref 120, .int a1] I L (qZ Q) := by
  unfold wpX12_isPerson at h
  refine Mf.of pn_RX12 (Nat.le_of_ble_eq_true rfl) ?_
  refine Ev.iload_n (k := 1) (pc' := 1) dX12_isPerson_0 rfl rfl rfl ?_
  refine Ev.if_lt (pc' := 4) (tgt := 16) dX12_isPerson_1 rfl rfl (fun hc => ?_) (fun hc => ?_)
  · have h := h.1 hc
    refine Ev.iconst (pc' := 17) dX12_isPerson_16 rfl ki_0 ?_
    exact Ef.zret (b := false) dX12_isPerson_17 rfl h
  · have h := h.2 hc
    refine Ev.iload_n (k := 1) (pc' := 5) dX12_isPerson_4 rfl rfl rfl ?_
    refine Ev.aload_n (k := 0) (pc' := 6) dX12_isPerson_5 rfl rfl rfl ?_
    refine Ev.getI (pc' := 9) dX12_isPerson_6 rfl fa_RX12_440 ob_120 fk_12_45 ?_
    refine Ev.icmp_ge (pc' := 12) (tgt := 16) dX12_isPerson_9 rfl rfl (fun hc => ?_) (fun hc => ?_)
    · have h := h.1 hc
      refine Ev.iconst (pc' := 17) dX12_isPerson_16 rfl ki_0 ?_
      exact Ef.zret (b := false) dX12_isPerson_17 rfl h
    · have h := h.2 hc
      refine Ev.iconst (pc' := 13) dX12_isPerson_12 rfl ki_1 ?_
      refine Ev.goto (tgt := 17) dX12_isPerson_13 rfl ?_
      exact Ef.zret (b := true) dX12_isPerson_17 rfl h
def wpX12_ownedBy_l4 (Q : Int32 → Ix → Lx → Prop) (P4 : Int32 → Int32 → Int32 → Ix → Lx → Prop) (v1 : Int32) (v2 : Int32) (v3 : Int32) (I : Ix) (L : Lx) : Prop := ((I 120 44) ≤ v3 → Q v2 I L) ∧ (¬ (I 120 44) ≤ v3 → vp_in v3 10 ∧ (¬ (I 143 v3.toNatClampNeg) = v1 → P4 v1 (v2 + 0) (v3 + 1) I L) ∧ ((I 143 v3.toNatClampNeg) = v1 → P4 v1 (v2 + 1) (v3 + 1) I L))
def wpX12_ownedBy_h4 (Q : Int32 → Ix → Lx → Prop) (v1 : Int32) (v2 : Int32) (v3 : Int32) (I : Ix) (L : Lx) : Prop := Lfp (X := Int32 × Int32 × Int32 × Ix × Lx) (fun P z => wpX12_ownedBy_l4 Q (fun v1 v2 v3 I L => P (v1, v2, v3, I, L)) z.1 z.2.1 z.2.2.1 z.2.2.2.1 z.2.2.2.2) (v1, v2, v3, I, L)
theorem wpX12_ownedBy_h4_fold {Q : Int32 → Ix → Lx → Prop} {v1 : Int32} {v2 : Int32} {v3 : Int32} {I : Ix} {L : Lx} (h : wpX12_ownedBy_l4 Q (wpX12_ownedBy_h4 Q) v1 v2 v3 I L) : wpX12_ownedBy_h4 Q v1 v2 v3 I L := Lfp.fold h
def wpX12_ownedBy (a1 : Int32) (I : Ix) (L : Lx) (Q : Int32 → Ix → Lx → Prop) : Prop := wpX12_ownedBy_h4 Q a1 0 0 I L
set_option maxRecDepth 10000 in
theorem okX12_ownedBy_l4 {G : Gx} {Q : Int32 → Ix → Lx → Prop} {P4 : Int32 → Int32 → Int32 → Ix → Lx → Prop} (hP4 : ∀ (v1 : Int32) (v2 : Int32) (v3 : Int32) (I : Ix) (L : Lx), P4 v1 v2 v3 I L → Ef G MX12_ownedBy (qI Q) 4 [(0, .ref 120), (1, .int v1), (2, .int v2), (3, .int v3)] [] I L) {v1 : Int32} {v2 : Int32} {v3 : Int32} {I : Ix} {L : Lx} (h : wpX12_ownedBy_l4 Q P4 v1 v2 v3 I L) : Ef G MX12_ownedBy (qI Q) 4 [(0, .ref 120), (1, .int v1), (2, .int v2), (3, .int v3)] [] I L := by
  unfold wpX12_ownedBy_l4 at h
  refine Ev.iload_n (k := 3) (pc' := 5) dX12_ownedBy_4 rfl rfl rfl ?_
  refine Ev.aload_n (k := 0) (pc' := 6) dX12_ownedBy_5 rfl rfl rfl ?_
  refine Ev.getI (pc' := 9) dX12_ownedBy_6 rfl fa_RX12_437 ob_120 fk_12_44 ?_
  refine Ev.icmp_ge (pc' := 12) (tgt := 36) dX12_ownedBy_9 rfl rfl (fun hc => ?_) (fun hc => ?_)
  · have h := h.1 hc
    refine Ev.iload_n (k := 2) (pc' := 37) dX12_ownedBy_36 rfl rfl rfl ?_
    exact Ef.iret dX12_ownedBy_37 rfl h
  · have h := h.2 hc
    refine Ev.iload_n (k := 2) (pc' := 13) dX12_ownedBy_12 rfl rfl rfl ?_
    refine Ev.aload_n (k := 0) (pc' := 14) dX12_ownedBy_13 rfl rfl rfl ?_
    refine Ev.getR (pc' := 17) dX12_ownedBy_14 rfl fa_RX12_81 ob_120 fk_12_50 rf_120_50 ?_
    refine Ev.iload_n (k := 3) (pc' := 18) dX12_ownedBy_17 rfl rfl rfl ?_
    refine Ev.iaload (j := _) (pc' := 19) dX12_ownedBy_18 rfl ar_143 h.1 rfl ?_
    have h := h.2
    refine Ev.iload_n (k := 1) (pc' := 20) dX12_ownedBy_19 rfl rfl rfl ?_
    refine Ev.icmp_ne (pc' := 23) (tgt := 27) dX12_ownedBy_20 rfl rfl (fun hc => ?_) (fun hc => ?_)
    · have h := h.1 hc
      refine Ev.iconst (pc' := 28) dX12_ownedBy_27 rfl ki_0 ?_
      refine Ev.iadd (pc' := 29) dX12_ownedBy_28 rfl ?_
      refine Ev.istore_n (ls' := [(2, .int _), (0, .ref _), (1, .int _), (3, .int _)]) (pc' := 30) dX12_ownedBy_29 rfl rfl (Nat.le_of_ble_eq_true rfl) rfl ?_
      refine Ev.iinc (k := 3) (v := _) (ls' := [(3, .int _), (2, .int _), (0, .ref _), (1, .int _)]) (pc' := 33) dX12_ownedBy_30 rfl rfl (congrArg (_ + ·) ki_1) (Nat.le_of_ble_eq_true rfl) rfl ?_
      refine Ev.goto (tgt := 4) dX12_ownedBy_33 rfl ?_
      exact Ev.sub [2, 3, 1, 0] rfl (hP4 _ _ _ _ _ h)
    · have h := h.2 hc
      refine Ev.iconst (pc' := 24) dX12_ownedBy_23 rfl ki_1 ?_
      refine Ev.goto (tgt := 28) dX12_ownedBy_24 rfl ?_
      refine Ev.iadd (pc' := 29) dX12_ownedBy_28 rfl ?_
      refine Ev.istore_n (ls' := [(2, .int _), (0, .ref _), (1, .int _), (3, .int _)]) (pc' := 30) dX12_ownedBy_29 rfl rfl (Nat.le_of_ble_eq_true rfl) rfl ?_
      refine Ev.iinc (k := 3) (v := _) (ls' := [(3, .int _), (2, .int _), (0, .ref _), (1, .int _)]) (pc' := 33) dX12_ownedBy_30 rfl rfl (congrArg (_ + ·) ki_1) (Nat.le_of_ble_eq_true rfl) rfl ?_
      refine Ev.goto (tgt := 4) dX12_ownedBy_33 rfl ?_
      exact Ev.sub [2, 3, 1, 0] rfl (hP4 _ _ _ _ _ h)
set_option maxRecDepth 10000 in
theorem okX12_ownedBy_h4 {G : Gx} {Q : Int32 → Ix → Lx → Prop} {v1 : Int32} {v2 : Int32} {v3 : Int32} {I : Ix} {L : Lx} (h : wpX12_ownedBy_h4 Q v1 v2 v3 I L) : Ef G MX12_ownedBy (qI Q) 4 [(0, .ref 120), (1, .int v1), (2, .int v2), (3, .int v3)] [] I L := by
  unfold wpX12_ownedBy_h4 at h
  refine Lfp.ind (P := fun z => Ef G MX12_ownedBy (qI Q) 4 [(0, .ref 120), (1, .int z.1), (2, .int z.2.1), (3, .int z.2.2.1)] [] z.2.2.2.1 z.2.2.2.2) ?_ h
  intro z P' hP' h
  obtain ⟨v1, v2, v3, I, L⟩ := z
  exact okX12_ownedBy_l4 (fun v1 v2 v3 I L h9 => hP' (v1, v2, v3, I, L) h9) h
set_option maxRecDepth 10000 in
theorem okX12_ownedBy {G : Gx} {a1 : Int32} {I : Ix} {L : Lx} {Q : Int32 → Ix → Lx → Prop} (h : wpX12_ownedBy a1 I L Q) : Mf G MX12_ownedBy [.ref 120, .int a1] I L (qI Q) := by
  unfold wpX12_ownedBy at h
  refine Mf.of pn_RX12 (Nat.le_of_ble_eq_true rfl) ?_
  refine Ev.iconst (pc' := 1) dX12_ownedBy_0 rfl ki_0 ?_
  refine Ev.istore_n (ls' := [(2, .int _), (0, .ref _), (1, .int _)]) (pc' := 2) dX12_ownedBy_1 rfl rfl (Nat.le_of_ble_eq_true rfl) rfl ?_
  refine Ev.iconst (pc' := 3) dX12_ownedBy_2 rfl ki_0 ?_
  refine Ev.istore_n (ls' := [(3, .int _), (2, .int _), (0, .ref _), (1, .int _)]) (pc' := 4) dX12_ownedBy_3 rfl rfl (Nat.le_of_ble_eq_true rfl) rfl ?_
  exact Ev.sub [2, 3, 1, 0] rfl (okX12_ownedBy_h4 h)
def wpX12_person (a1 : Int32) (a2 : Int32) (I : Ix) (L : Lx) (Q : Int32 → Ix → Lx → Prop) : Prop := wpX12_isPerson a1 I L (fun r3 I1 L2 => (r3 = true → (a2 = 0 → vp_in a1 6 ∧ Q (I1 147 a1.toNatClampNeg) I1 L2) ∧ (a2 = 1 → vp_in a1 6 ∧ Q (I1 148 a1.toNatClampNeg) I1 L2) ∧ (a2 = 2 → wpX12_ownedBy a1 I1 L2 (fun r6 I4 L5 => Q r6 I4 L5)) ∧ (a2 = 3 → wpX12_beginNoons ((I1 120 57) + 1) I1 L2 (fun I7 L8 => vp_in a1 6 ∧ wpX12_aimOf a1 (I7 147 a1.toNatClampNeg) (-1) 0 I7 L8 (fun r11 I9 L10 => Q r11 I9 L10))) ∧ (¬ a2 = 0 → ¬ a2 = 1 → ¬ a2 = 2 → ¬ a2 = 3 → Q (-2) I1 L2)) ∧ (r3 = false → Q (-2) I1 L2))
set_option maxRecDepth 10000 in
theorem okX12_person {G : Gx} {a1 : Int32} {a2 : Int32} {I : Ix} {L : Lx} {Q : Int32 → Ix → Lx → Prop} (h : wpX12_person a1 a2 I L Q) : Mf G MX12_person [.ref 120, .int a1, .int a2] I L (qI Q) := by
  unfold wpX12_person at h
  refine Mf.of pn_RX12 (Nat.le_of_ble_eq_true rfl) ?_
  refine Ev.aload_n (k := 0) (pc' := 1) dX12_person_0 rfl rfl rfl ?_
  refine Ev.iload_n (k := 1) (pc' := 2) dX12_person_1 rfl rfl rfl ?_
  refine Ef.callVZ [.int _] [] (pc' := 5) dX12_person_2 rfl cv_RX12_568_X12_isPerson ⟨Nat.le_of_ble_eq_true rfl, Nat.le_of_ble_eq_true rfl⟩ ob_120 rfl rfl rfl (Nat.le_of_ble_eq_true rfl) (okX12_isPerson h) (fun r3 I1 L2 h => ?_)
  refine Ef.ifz_ne (pc' := 8) (tgt := 11) dX12_person_5 rfl rfl (fun hc => ?_) (fun hc => ?_)
  · have h := h.1 hc
    refine Ev.iload_n (k := 2) (pc' := 12) dX12_person_11 rfl rfl rfl ?_
    by_cases e0 : a2 = 0
    · refine Ev.tableIn (off := 32) (tgt := 44) dX12_person_12 (by rw [e0]; decide) (by rw [e0]; decide) (by rw [e0]; decide) rfl ?_
      have h := h.1 e0
      refine Ev.aload_n (k := 0) (pc' := 45) dX12_person_44 rfl rfl rfl ?_
      refine Ev.getR (pc' := 48) dX12_person_45 rfl fa_RX12_93 ob_120 fk_12_54 rf_120_54 ?_
      refine Ev.iload_n (k := 1) (pc' := 49) dX12_person_48 rfl rfl rfl ?_
      refine Ev.iaload (j := _) (pc' := 50) dX12_person_49 rfl ar_147 h.1 rfl ?_
      have h := h.2
      exact Ef.iret dX12_person_50 rfl h
    by_cases e1 : a2 = 1
    · refine Ev.tableIn (off := 39) (tgt := 51) dX12_person_12 (by rw [e1]; decide) (by rw [e1]; decide) (by rw [e1]; decide) rfl ?_
      have h := h.2.1 e1
      refine Ev.aload_n (k := 0) (pc' := 52) dX12_person_51 rfl rfl rfl ?_
      refine Ev.getR (pc' := 55) dX12_person_52 rfl fa_RX12_96 ob_120 fk_12_55 rf_120_55 ?_
      refine Ev.iload_n (k := 1) (pc' := 56) dX12_person_55 rfl rfl rfl ?_
      refine Ev.iaload (j := _) (pc' := 57) dX12_person_56 rfl ar_148 h.1 rfl ?_
      have h := h.2
      exact Ef.iret dX12_person_57 rfl h
    by_cases e2 : a2 = 2
    · refine Ev.tableIn (off := 46) (tgt := 58) dX12_person_12 (by rw [e2]; decide) (by rw [e2]; decide) (by rw [e2]; decide) rfl ?_
      have h := h.2.2.1 e2
      refine Ev.aload_n (k := 0) (pc' := 59) dX12_person_58 rfl rfl rfl ?_
      refine Ev.iload_n (k := 1) (pc' := 60) dX12_person_59 rfl rfl rfl ?_
      refine Ef.callVI [.int _] [] (pc' := 63) dX12_person_60 rfl cv_RX12_571_X12_ownedBy ⟨Nat.le_of_ble_eq_true rfl, Nat.le_of_ble_eq_true rfl⟩ ob_120 rfl rfl rfl (Nat.le_of_ble_eq_true rfl) (okX12_ownedBy h) (fun r6 I4 L5 h => ?_)
      exact Ef.iret dX12_person_63 rfl h
    by_cases e3 : a2 = 3
    · refine Ev.tableIn (off := 52) (tgt := 64) dX12_person_12 (by rw [e3]; decide) (by rw [e3]; decide) (by rw [e3]; decide) rfl ?_
      have h := h.2.2.2.1 e3
      refine Ev.aload_n (k := 0) (pc' := 65) dX12_person_64 rfl rfl rfl ?_
      refine Ev.aload_n (k := 0) (pc' := 66) dX12_person_65 rfl rfl rfl ?_
      refine Ev.getI (pc' := 69) dX12_person_66 rfl fa_RX12_464 ob_120 fk_12_57 ?_
      refine Ev.iconst (pc' := 70) dX12_person_69 rfl ki_1 ?_
      refine Ev.iadd (pc' := 71) dX12_person_70 rfl ?_
      refine Ef.callVV [.int _] [] (pc' := 74) dX12_person_71 rfl cv_RX12_546_X12_beginNoons ⟨Nat.le_of_ble_eq_true rfl, Nat.le_of_ble_eq_true rfl⟩ ob_120 rfl rfl rfl (Nat.le_of_ble_eq_true rfl) (okX12_beginNoons h) (fun I7 L8 h => ?_)
      refine Ev.aload_n (k := 0) (pc' := 75) dX12_person_74 rfl rfl rfl ?_
      refine Ev.iload_n (k := 1) (pc' := 76) dX12_person_75 rfl rfl rfl ?_
      refine Ev.aload_n (k := 0) (pc' := 77) dX12_person_76 rfl rfl rfl ?_
      refine Ev.getR (pc' := 80) dX12_person_77 rfl fa_RX12_93 ob_120 fk_12_54 rf_120_54 ?_
      refine Ev.iload_n (k := 1) (pc' := 81) dX12_person_80 rfl rfl rfl ?_
      refine Ev.iaload (j := _) (pc' := 82) dX12_person_81 rfl ar_147 h.1 rfl ?_
      have h := h.2
      refine Ev.iconst (pc' := 83) dX12_person_82 rfl ki_m1 ?_
      refine Ev.iconst (pc' := 84) dX12_person_83 rfl ki_0 ?_
      refine Ef.callVI [.int _, .int _, .int _, .int _] [] (pc' := 87) dX12_person_84 rfl cv_RX12_514_X12_aimOf ⟨Nat.le_of_ble_eq_true rfl, Nat.le_of_ble_eq_true rfl⟩ ob_120 rfl rfl rfl (Nat.le_of_ble_eq_true rfl) (okX12_aimOf h) (fun r11 I9 L10 h => ?_)
      exact Ef.iret dX12_person_87 rfl h
    have h := h.2.2.2.2 e0 e1 e2 e3
    refine Ev.tableOut (tgt := 88) dX12_person_12 (sw_out fun v h1 h2 => ?_) rfl ?_
    · have h3 : v = 0 ∨ v = 1 ∨ v = 2 ∨ v = 3 := by omega
      rcases h3 with rfl | rfl | rfl | rfl
      · exact fun q => e0 (q.trans (by decide))
      · exact fun q => e1 (q.trans (by decide))
      · exact fun q => e2 (q.trans (by decide))
      · exact fun q => e3 (q.trans (by decide))
    · refine Ev.bipush (pc' := 90) dX12_person_88 rfl kb_m2 ?_
      exact Ef.iret dX12_person_90 rfl h
  · have h := h.2 hc
    refine Ev.bipush (pc' := 10) dX12_person_8 rfl kb_m2 ?_
    exact Ef.iret dX12_person_10 rfl h
def wpX12_give_b32 (Q : Bool → Ix → Lx → Prop) (v1 : Int32) (v2 : Int32) (I : Ix) (L : Lx) : Prop := vp_in v1 10 ∧ ∀ I1 : Ix, I1 = pu I 143 v1.toNatClampNeg v2 → Q true I1 L
def wpX12_give (a1 : Int32) (a2 : Int32) (I : Ix) (L : Lx) (Q : Bool → Ix → Lx → Prop) : Prop := wpX12_isThing a1 I L (fun r3 I1 L2 => (r3 = false → Q false I1 L2) ∧ (r3 = true → vp_in a1 10 ∧ (¬ (I1 149 a1.toNatClampNeg) = 0 → Q false I1 L2) ∧ ((I1 149 a1.toNatClampNeg) = 0 → (a2 = (-1) → wpX12_give_b32 Q a1 a2 I1 L2) ∧ (¬ a2 = (-1) → wpX12_isPerson a2 I1 L2 (fun r6 I4 L5 => (r6 = true → wpX12_give_b32 Q a1 a2 I4 L5) ∧ (r6 = false → Q false I4 L5))))))
set_option maxRecDepth 10000 in
theorem okX12_give_b32 {G : Gx} {Q : Bool → Ix → Lx → Prop} {v1 : Int32} {v2 : Int32} {I : Ix} {L : Lx} (h : wpX12_give_b32 Q v1 v2 I L) : Ef G MX12_give (qZ Q) 32 [(0, .ref 120), (1, .int v1), (2, .int v2)] [] I L := by
  unfold wpX12_give_b32 at h
  refine Ev.aload_n (k := 0) (pc' := 33) dX12_give_32 rfl rfl rfl ?_
  refine Ev.getR (pc' := 36) dX12_give_33 rfl fa_RX12_81 ob_120 fk_12_50 rf_120_50 ?_
  refine Ev.iload_n (k := 1) (pc' := 37) dX12_give_36 rfl rfl rfl ?_
  refine Ev.iload_n (k := 2) (pc' := 38) dX12_give_37 rfl rfl rfl ?_
  refine Ev.iastore (j := _) (pc' := 39) dX12_give_38 rfl ar_143 h.1 rfl (fun I1 eI1 => ?_)
  have h := h.2 I1 eI1
  refine Ev.iconst (pc' := 40) dX12_give_39 rfl ki_1 ?_
  exact Ef.zret (b := true) dX12_give_40 rfl h
set_option maxRecDepth 10000 in
theorem okX12_give {G : Gx} {a1 : Int32} {a2 : Int32} {I : Ix} {L : Lx} {Q : Bool → Ix → Lx → Prop} (h : wpX12_give a1 a2 I L Q) : Mf G MX12_give [.ref 120, .int a1, .int a2] I L (qZ Q) := by
  unfold wpX12_give at h
  refine Mf.of pn_RX12 (Nat.le_of_ble_eq_true rfl) ?_
  refine Ev.aload_n (k := 0) (pc' := 1) dX12_give_0 rfl rfl rfl ?_
  refine Ev.iload_n (k := 1) (pc' := 2) dX12_give_1 rfl rfl rfl ?_
  refine Ef.callVZ [.int _] [] (pc' := 5) dX12_give_2 rfl cv_RX12_565_X12_isThing ⟨Nat.le_of_ble_eq_true rfl, Nat.le_of_ble_eq_true rfl⟩ ob_120 rfl rfl rfl (Nat.le_of_ble_eq_true rfl) (okX12_isThing h) (fun r3 I1 L2 h => ?_)
  refine Ef.ifz_eq (pc' := 8) (tgt := 30) dX12_give_5 rfl rfl (fun hc => ?_) (fun hc => ?_)
  · have h := h.1 hc
    refine Ev.iconst (pc' := 31) dX12_give_30 rfl ki_0 ?_
    exact Ef.zret (b := false) dX12_give_31 rfl h
  · have h := h.2 hc
    refine Ev.aload_n (k := 0) (pc' := 9) dX12_give_8 rfl rfl rfl ?_
    refine Ev.getR (pc' := 12) dX12_give_9 rfl fa_RX12_99 ob_120 fk_12_56 rf_120_56 ?_
    refine Ev.iload_n (k := 1) (pc' := 13) dX12_give_12 rfl rfl rfl ?_
    refine Ev.zaload (j := _) (pc' := 14) dX12_give_13 rfl ar_149 h.1 rfl ?_
    have h := h.2
    refine Ev.if_ne (pc' := 17) (tgt := 30) dX12_give_14 rfl rfl (fun hc => ?_) (fun hc => ?_)
    · have h := h.1 hc
      refine Ev.iconst (pc' := 31) dX12_give_30 rfl ki_0 ?_
      exact Ef.zret (b := false) dX12_give_31 rfl h
    · have h := h.2 hc
      refine Ev.iload_n (k := 2) (pc' := 18) dX12_give_17 rfl rfl rfl ?_
      refine Ev.iconst (pc' := 19) dX12_give_18 rfl ki_m1 ?_
      refine Ev.icmp_eq (pc' := 22) (tgt := 32) dX12_give_19 rfl rfl (fun hc => ?_) (fun hc => ?_)
      · have h := h.1 hc
        exact okX12_give_b32 h
      · have h := h.2 hc
        refine Ev.aload_n (k := 0) (pc' := 23) dX12_give_22 rfl rfl rfl ?_
        refine Ev.iload_n (k := 2) (pc' := 24) dX12_give_23 rfl rfl rfl ?_
        refine Ef.callVZ [.int _] [] (pc' := 27) dX12_give_24 rfl cv_RX12_568_X12_isPerson ⟨Nat.le_of_ble_eq_true rfl, Nat.le_of_ble_eq_true rfl⟩ ob_120 rfl rfl rfl (Nat.le_of_ble_eq_true rfl) (okX12_isPerson h) (fun r6 I4 L5 h => ?_)
        refine Ef.ifz_ne (pc' := 30) (tgt := 32) dX12_give_27 rfl rfl (fun hc => ?_) (fun hc => ?_)
        · have h := h.1 hc
          exact okX12_give_b32 h
        · have h := h.2 hc
          refine Ev.iconst (pc' := 31) dX12_give_30 rfl ki_0 ?_
          exact Ef.zret (b := false) dX12_give_31 rfl h
def wpX12_chip (a1 : Int32) (a2 : Int32) (I : Ix) (L : Lx) (Q : Int32 → Ix → Lx → Prop) : Prop := wpX12_isThing a1 I L (fun r3 I1 L2 => (r3 = false → Q (-1) I1 L2) ∧ (r3 = true → (a2 < 0 → Q (-1) I1 L2) ∧ (¬ a2 < 0 → vp_in a1 10 ∧ (a2 ≤ (I1 146 a1.toNatClampNeg) → vp_in a1 10 ∧ vp_in a1 10 ∧ ∀ I4 : Ix, I4 = pu I1 146 a1.toNatClampNeg ((I1 146 a1.toNatClampNeg) - a2) → vp_in a1 10 ∧ Q (I4 146 a1.toNatClampNeg) I4 L2) ∧ (¬ a2 ≤ (I1 146 a1.toNatClampNeg) → Q (-1) I1 L2))))
set_option maxRecDepth 10000 in
theorem okX12_chip {G : Gx} {a1 : Int32} {a2 : Int32} {I : Ix} {L : Lx} {Q : Int32 → Ix → Lx → Prop} (h : wpX12_chip a1 a2 I L Q) : Mf G MX12_chip [.ref 120, .int a1, .int a2] I L (qI Q) := by
  unfold wpX12_chip at h
  refine Mf.of pn_RX12 (Nat.le_of_ble_eq_true rfl) ?_
  refine Ev.aload_n (k := 0) (pc' := 1) dX12_chip_0 rfl rfl rfl ?_
  refine Ev.iload_n (k := 1) (pc' := 2) dX12_chip_1 rfl rfl rfl ?_
  refine Ef.callVZ [.int _] [] (pc' := 5) dX12_chip_2 rfl cv_RX12_565_X12_isThing ⟨Nat.le_of_ble_eq_true rfl, Nat.le_of_ble_eq_true rfl⟩ ob_120 rfl rfl rfl (Nat.le_of_ble_eq_true rfl) (okX12_isThing h) (fun r3 I1 L2 h => ?_)
  refine Ef.ifz_eq (pc' := 8) (tgt := 22) dX12_chip_5 rfl rfl (fun hc => ?_) (fun hc => ?_)
  · have h := h.1 hc
    refine Ev.iconst (pc' := 23) dX12_chip_22 rfl ki_m1 ?_
    exact Ef.iret dX12_chip_23 rfl h
  · have h := h.2 hc
    refine Ev.iload_n (k := 2) (pc' := 9) dX12_chip_8 rfl rfl rfl ?_
    refine Ev.if_lt (pc' := 12) (tgt := 22) dX12_chip_9 rfl rfl (fun hc => ?_) (fun hc => ?_)
    · have h := h.1 hc
      refine Ev.iconst (pc' := 23) dX12_chip_22 rfl ki_m1 ?_
      exact Ef.iret dX12_chip_23 rfl h
    · have h := h.2 hc
      refine Ev.iload_n (k := 2) (pc' := 13) dX12_chip_12 rfl rfl rfl ?_
      refine Ev.aload_n (k := 0) (pc' := 14) dX12_chip_13 rfl rfl rfl ?_
      refine Ev.getR (pc' := 17) dX12_chip_14 rfl fa_RX12_90 ob_120 fk_12_53 rf_120_53 ?_
      refine Ev.iload_n (k := 1) (pc' := 18) dX12_chip_17 rfl rfl rfl ?_
      refine Ev.iaload (j := _) (pc' := 19) dX12_chip_18 rfl ar_146 h.1 rfl ?_
      have h := h.2
      refine Ev.icmp_le (pc' := 22) (tgt := 24) dX12_chip_19 rfl rfl (fun hc => ?_) (fun hc => ?_)
      · have h := h.1 hc
        refine Ev.aload_n (k := 0) (pc' := 25) dX12_chip_24 rfl rfl rfl ?_
        refine Ev.getR (pc' := 28) dX12_chip_25 rfl fa_RX12_90 ob_120 fk_12_53 rf_120_53 ?_
        refine Ev.iload_n (k := 1) (pc' := 29) dX12_chip_28 rfl rfl rfl ?_
        refine Ev.dup2 (pc' := 30) dX12_chip_29 rfl rfl rfl ?_
        refine Ev.iaload (j := _) (pc' := 31) dX12_chip_30 rfl ar_146 h.1 rfl ?_
        have h := h.2
        refine Ev.iload_n (k := 2) (pc' := 32) dX12_chip_31 rfl rfl rfl ?_
        refine Ev.isub (pc' := 33) dX12_chip_32 rfl ?_
        refine Ev.iastore (j := _) (pc' := 34) dX12_chip_33 rfl ar_146 h.1 rfl (fun I4 eI4 => ?_)
        have h := h.2 I4 eI4
        refine Ev.aload_n (k := 0) (pc' := 35) dX12_chip_34 rfl rfl rfl ?_
        refine Ev.getR (pc' := 38) dX12_chip_35 rfl fa_RX12_90 ob_120 fk_12_53 rf_120_53 ?_
        refine Ev.iload_n (k := 1) (pc' := 39) dX12_chip_38 rfl rfl rfl ?_
        refine Ev.iaload (j := _) (pc' := 40) dX12_chip_39 rfl ar_146 h.1 rfl ?_
        have h := h.2
        exact Ef.iret dX12_chip_40 rfl h
      · have h := h.2 hc
        refine Ev.iconst (pc' := 23) dX12_chip_22 rfl ki_m1 ?_
        exact Ef.iret dX12_chip_23 rfl h
def wpX12_asks (a1 : Int32) (a2 : Int32) (I : Ix) (L : Lx) (Q : Int32 → Ix → Lx → Prop) : Prop := wpX12_isPerson a1 I L (fun r3 I1 L2 => (r3 = false → Q (-1000000) I1 L2) ∧ (r3 = true → wpX12_isThing a2 I1 L2 (fun r6 I4 L5 => (r6 = true → wpX12_beginNoons ((I4 120 57) + 1) I4 L5 (fun I7 L8 => vp_in a1 6 ∧ wpX12_asksOf a1 a2 (I7 147 a1.toNatClampNeg) I7 L8 (fun r11 I9 L10 => Q r11 I9 L10))) ∧ (r6 = false → Q (-1000000) I4 L5))))
set_option maxRecDepth 10000 in
theorem okX12_asks {G : Gx} {a1 : Int32} {a2 : Int32} {I : Ix} {L : Lx} {Q : Int32 → Ix → Lx → Prop} (h : wpX12_asks a1 a2 I L Q) : Mf G MX12_asks [.ref 120, .int a1, .int a2] I L (qI Q) := by
  unfold wpX12_asks at h
  refine Mf.of pn_RX12 (Nat.le_of_ble_eq_true rfl) ?_
  refine Ev.aload_n (k := 0) (pc' := 1) dX12_asks_0 rfl rfl rfl ?_
  refine Ev.iload_n (k := 1) (pc' := 2) dX12_asks_1 rfl rfl rfl ?_
  refine Ef.callVZ [.int _] [] (pc' := 5) dX12_asks_2 rfl cv_RX12_568_X12_isPerson ⟨Nat.le_of_ble_eq_true rfl, Nat.le_of_ble_eq_true rfl⟩ ob_120 rfl rfl rfl (Nat.le_of_ble_eq_true rfl) (okX12_isPerson h) (fun r3 I1 L2 h => ?_)
  refine Ef.ifz_eq (pc' := 8) (tgt := 16) dX12_asks_5 rfl rfl (fun hc => ?_) (fun hc => ?_)
  · have h := h.1 hc
    refine Ev.ldc_w (pc' := 19) dX12_asks_16 rfl lc_RX12_574 ?_
    exact Ef.iret dX12_asks_19 rfl h
  · have h := h.2 hc
    refine Ev.aload_n (k := 0) (pc' := 9) dX12_asks_8 rfl rfl rfl ?_
    refine Ev.iload_n (k := 2) (pc' := 10) dX12_asks_9 rfl rfl rfl ?_
    refine Ef.callVZ [.int _] [] (pc' := 13) dX12_asks_10 rfl cv_RX12_565_X12_isThing ⟨Nat.le_of_ble_eq_true rfl, Nat.le_of_ble_eq_true rfl⟩ ob_120 rfl rfl rfl (Nat.le_of_ble_eq_true rfl) (okX12_isThing h) (fun r6 I4 L5 h => ?_)
    refine Ef.ifz_ne (pc' := 16) (tgt := 20) dX12_asks_13 rfl rfl (fun hc => ?_) (fun hc => ?_)
    · have h := h.1 hc
      refine Ev.aload_n (k := 0) (pc' := 21) dX12_asks_20 rfl rfl rfl ?_
      refine Ev.aload_n (k := 0) (pc' := 22) dX12_asks_21 rfl rfl rfl ?_
      refine Ev.getI (pc' := 25) dX12_asks_22 rfl fa_RX12_464 ob_120 fk_12_57 ?_
      refine Ev.iconst (pc' := 26) dX12_asks_25 rfl ki_1 ?_
      refine Ev.iadd (pc' := 27) dX12_asks_26 rfl ?_
      refine Ef.callVV [.int _] [] (pc' := 30) dX12_asks_27 rfl cv_RX12_546_X12_beginNoons ⟨Nat.le_of_ble_eq_true rfl, Nat.le_of_ble_eq_true rfl⟩ ob_120 rfl rfl rfl (Nat.le_of_ble_eq_true rfl) (okX12_beginNoons h) (fun I7 L8 h => ?_)
      refine Ev.aload_n (k := 0) (pc' := 31) dX12_asks_30 rfl rfl rfl ?_
      refine Ev.iload_n (k := 1) (pc' := 32) dX12_asks_31 rfl rfl rfl ?_
      refine Ev.iload_n (k := 2) (pc' := 33) dX12_asks_32 rfl rfl rfl ?_
      refine Ev.aload_n (k := 0) (pc' := 34) dX12_asks_33 rfl rfl rfl ?_
      refine Ev.getR (pc' := 37) dX12_asks_34 rfl fa_RX12_93 ob_120 fk_12_54 rf_120_54 ?_
      refine Ev.iload_n (k := 1) (pc' := 38) dX12_asks_37 rfl rfl rfl ?_
      refine Ev.iaload (j := _) (pc' := 39) dX12_asks_38 rfl ar_147 h.1 rfl ?_
      have h := h.2
      refine Ef.callVI [.int _, .int _, .int _] [] (pc' := 42) dX12_asks_39 rfl cv_RX12_511_X12_asksOf ⟨Nat.le_of_ble_eq_true rfl, Nat.le_of_ble_eq_true rfl⟩ ob_120 rfl rfl rfl (Nat.le_of_ble_eq_true rfl) (okX12_asksOf h) (fun r11 I9 L10 h => ?_)
      exact Ef.iret dX12_asks_42 rfl h
    · have h := h.2 hc
      refine Ev.ldc_w (pc' := 19) dX12_asks_16 rfl lc_RX12_574 ?_
      exact Ef.iret dX12_asks_19 rfl h
def wpX12_bring_l64 (Q : Ix → Lx → Prop) (P64 : Int32 → Ix → Lx → Prop) (v1 : Int32) (I : Ix) (L : Lx) : Prop := (6 ≤ v1 → ∀ I1 : Ix, I1 = pu I 120 57 (I 120 67) → ∀ I2 : Ix, I2 = pu I1 120 58 (I1 120 68) → ∀ I3 : Ix, I3 = pu I2 120 59 (I2 120 69) → ∀ I4 : Ix, I4 = pu I3 120 70 0 → Q I4 L) ∧ (¬ 6 ≤ v1 → vp_in v1 6 ∧ vp_in v1 6 ∧ ∀ I5 : Ix, I5 = pu I 147 v1.toNatClampNeg (I 154 v1.toNatClampNeg) → vp_in v1 6 ∧ vp_in v1 6 ∧ ∀ I6 : Ix, I6 = pu I5 148 v1.toNatClampNeg (I5 155 v1.toNatClampNeg) → P64 (v1 + 1) I6 L)
def wpX12_bring_h64 (Q : Ix → Lx → Prop) (v1 : Int32) (I : Ix) (L : Lx) : Prop := Lfp (X := Int32 × Ix × Lx) (fun P z => wpX12_bring_l64 Q (fun v1 I L => P (v1, I, L)) z.1 z.2.1 z.2.2) (v1, I, L)
theorem wpX12_bring_h64_fold {Q : Ix → Lx → Prop} {v1 : Int32} {I : Ix} {L : Lx} (h : wpX12_bring_l64 Q (wpX12_bring_h64 Q) v1 I L) : wpX12_bring_h64 Q v1 I L := Lfp.fold h
def wpX12_bring_l2 (Q : Ix → Lx → Prop) (P2 : Int32 → Ix → Lx → Prop) (v1 : Int32) (I : Ix) (L : Lx) : Prop := (10 ≤ v1 → wpX12_bring_h64 Q 0 I L) ∧ (¬ 10 ≤ v1 → vp_in v1 10 ∧ vp_in v1 10 ∧ ∀ I1 : Ix, I1 = pu I 143 v1.toNatClampNeg (I 151 v1.toNatClampNeg) → vp_in v1 10 ∧ vp_in v1 10 ∧ ∀ I2 : Ix, I2 = pu I1 144 v1.toNatClampNeg (I1 152 v1.toNatClampNeg) → vp_in v1 10 ∧ vp_in v1 10 ∧ ∀ I3 : Ix, I3 = pu I2 145 v1.toNatClampNeg (I2 153 v1.toNatClampNeg) → vp_in v1 10 ∧ vp_in v1 10 ∧ ∀ I4 : Ix, I4 = pu I3 149 v1.toNatClampNeg ((I3 156 v1.toNatClampNeg) &&& 1) → P2 (v1 + 1) I4 L)
def wpX12_bring_h2 (Q : Ix → Lx → Prop) (v1 : Int32) (I : Ix) (L : Lx) : Prop := Lfp (X := Int32 × Ix × Lx) (fun P z => wpX12_bring_l2 Q (fun v1 I L => P (v1, I, L)) z.1 z.2.1 z.2.2) (v1, I, L)
theorem wpX12_bring_h2_fold {Q : Ix → Lx → Prop} {v1 : Int32} {I : Ix} {L : Lx} (h : wpX12_bring_l2 Q (wpX12_bring_h2 Q) v1 I L) : wpX12_bring_h2 Q v1 I L := Lfp.fold h
def wpX12_bring (I : Ix) (L : Lx) (Q : Ix → Lx → Prop) : Prop := wpX12_bring_h2 Q 0 I L
set_option maxRecDepth 10000 in
theorem okX12_bring_l64 {G : Gx} {Q : Ix → Lx → Prop} {P64 : Int32 → Ix → Lx → Prop} (hP64 : ∀ (v1 : Int32) (I : Ix) (L : Lx), P64 v1 I L → Ef G MX12_bring (qV Q) 64 [(0, .ref 120), (1, .int v1)] [] I L) {v1 : Int32} {I : Ix} {L : Lx} (h : wpX12_bring_l64 Q P64 v1 I L) : Ef G MX12_bring (qV Q) 64 [(0, .ref 120), (1, .int v1)] [] I L := by
  unfold wpX12_bring_l64 at h
  refine Ev.iload_n (k := 1) (pc' := 65) dX12_bring_64 rfl rfl rfl ?_
  refine Ev.bipush (pc' := 67) dX12_bring_65 rfl kb_6 ?_
  refine Ev.icmp_ge (pc' := 70) (tgt := 100) dX12_bring_67 rfl rfl (fun hc => ?_) (fun hc => ?_)
  · have h := h.1 hc
    refine Ev.aload_n (k := 0) (pc' := 101) dX12_bring_100 rfl rfl rfl ?_
    refine Ev.aload_n (k := 0) (pc' := 102) dX12_bring_101 rfl rfl rfl ?_
    refine Ev.getI (pc' := 105) dX12_bring_102 rfl fa_RX12_470 ob_120 fk_12_67 ?_
    refine Ev.putI (pc' := 108) dX12_bring_105 rfl fa_RX12_464 ob_120 fk_12_57 rfl rfl (fun I1 eI1 => ?_)
    have h := h I1 eI1
    refine Ev.aload_n (k := 0) (pc' := 109) dX12_bring_108 rfl rfl rfl ?_
    refine Ev.aload_n (k := 0) (pc' := 110) dX12_bring_109 rfl rfl rfl ?_
    refine Ev.getI (pc' := 113) dX12_bring_110 rfl fa_RX12_473 ob_120 fk_12_68 ?_
    refine Ev.putI (pc' := 116) dX12_bring_113 rfl fa_RX12_103 ob_120 fk_12_58 rfl rfl (fun I2 eI2 => ?_)
    have h := h I2 eI2
    refine Ev.aload_n (k := 0) (pc' := 117) dX12_bring_116 rfl rfl rfl ?_
    refine Ev.aload_n (k := 0) (pc' := 118) dX12_bring_117 rfl rfl rfl ?_
    refine Ev.getI (pc' := 121) dX12_bring_118 rfl fa_RX12_476 ob_120 fk_12_69 ?_
    refine Ev.putI (pc' := 124) dX12_bring_121 rfl fa_RX12_467 ob_120 fk_12_59 rfl rfl (fun I3 eI3 => ?_)
    have h := h I3 eI3
    refine Ev.aload_n (k := 0) (pc' := 125) dX12_bring_124 rfl rfl rfl ?_
    refine Ev.iconst (pc' := 126) dX12_bring_125 rfl ki_0 ?_
    refine Ev.putI (pc' := 129) dX12_bring_126 rfl fa_RX12_479 ob_120 fk_12_70 rfl rfl (fun I4 eI4 => ?_)
    have h := h I4 eI4
    exact Ef.vret dX12_bring_129 rfl h
  · have h := h.2 hc
    refine Ev.aload_n (k := 0) (pc' := 71) dX12_bring_70 rfl rfl rfl ?_
    refine Ev.getR (pc' := 74) dX12_bring_71 rfl fa_RX12_93 ob_120 fk_12_54 rf_120_54 ?_
    refine Ev.iload_n (k := 1) (pc' := 75) dX12_bring_74 rfl rfl rfl ?_
    refine Ev.aload_n (k := 0) (pc' := 76) dX12_bring_75 rfl rfl rfl ?_
    refine Ev.getR (pc' := 79) dX12_bring_76 rfl fa_RX12_118 ob_120 fk_12_64 rf_120_64 ?_
    refine Ev.iload_n (k := 1) (pc' := 80) dX12_bring_79 rfl rfl rfl ?_
    refine Ev.iaload (j := _) (pc' := 81) dX12_bring_80 rfl ar_154 h.1 rfl ?_
    have h := h.2
    refine Ev.iastore (j := _) (pc' := 82) dX12_bring_81 rfl ar_147 h.1 rfl (fun I5 eI5 => ?_)
    have h := h.2 I5 eI5
    refine Ev.aload_n (k := 0) (pc' := 83) dX12_bring_82 rfl rfl rfl ?_
    refine Ev.getR (pc' := 86) dX12_bring_83 rfl fa_RX12_96 ob_120 fk_12_55 rf_120_55 ?_
    refine Ev.iload_n (k := 1) (pc' := 87) dX12_bring_86 rfl rfl rfl ?_
    refine Ev.aload_n (k := 0) (pc' := 88) dX12_bring_87 rfl rfl rfl ?_
    refine Ev.getR (pc' := 91) dX12_bring_88 rfl fa_RX12_121 ob_120 fk_12_65 rf_120_65 ?_
    refine Ev.iload_n (k := 1) (pc' := 92) dX12_bring_91 rfl rfl rfl ?_
    refine Ev.iaload (j := _) (pc' := 93) dX12_bring_92 rfl ar_155 h.1 rfl ?_
    have h := h.2
    refine Ev.iastore (j := _) (pc' := 94) dX12_bring_93 rfl ar_148 h.1 rfl (fun I6 eI6 => ?_)
    have h := h.2 I6 eI6
    refine Ev.iinc (k := 1) (v := _) (ls' := [(1, .int _), (0, .ref _)]) (pc' := 97) dX12_bring_94 rfl rfl (congrArg (_ + ·) ki_1) (Nat.le_of_ble_eq_true rfl) rfl ?_
    refine Ev.goto (tgt := 64) dX12_bring_97 rfl ?_
    exact Ev.sub [1, 0] rfl (hP64 _ _ _ h)
set_option maxRecDepth 10000 in
theorem okX12_bring_h64 {G : Gx} {Q : Ix → Lx → Prop} {v1 : Int32} {I : Ix} {L : Lx} (h : wpX12_bring_h64 Q v1 I L) : Ef G MX12_bring (qV Q) 64 [(0, .ref 120), (1, .int v1)] [] I L := by
  unfold wpX12_bring_h64 at h
  refine Lfp.ind (P := fun z => Ef G MX12_bring (qV Q) 64 [(0, .ref 120), (1, .int z.1)] [] z.2.1 z.2.2) ?_ h
  intro z P' hP' h
  obtain ⟨v1, I, L⟩ := z
  exact okX12_bring_l64 (fun v1 I L h9 => hP' (v1, I, L) h9) h
set_option maxRecDepth 10000 in
theorem okX12_bring_l2 {G : Gx} {Q : Ix → Lx → Prop} {P2 : Int32 → Ix → Lx → Prop} (hP2 : ∀ (v1 : Int32) (I : Ix) (L : Lx), P2 v1 I L → Ef G MX12_bring (qV Q) 2 [(0, .ref 120), (1, .int v1)] [] I L) {v1 : Int32} {I : Ix} {L : Lx} (h : wpX12_bring_l2 Q P2 v1 I L) : Ef G MX12_bring (qV Q) 2 [(0, .ref 120), (1, .int v1)] [] I L := by
  unfold wpX12_bring_l2 at h
  refine Ev.iload_n (k := 1) (pc' := 3) dX12_bring_2 rfl rfl rfl ?_
  refine Ev.bipush (pc' := 5) dX12_bring_3 rfl kb_10 ?_
  refine Ev.icmp_ge (pc' := 8) (tgt := 62) dX12_bring_5 rfl rfl (fun hc => ?_) (fun hc => ?_)
  · have h := h.1 hc
    refine Ev.iconst (pc' := 63) dX12_bring_62 rfl ki_0 ?_
    refine Ev.istore_n (ls' := [(1, .int _), (0, .ref _)]) (pc' := 64) dX12_bring_63 rfl rfl (Nat.le_of_ble_eq_true rfl) rfl ?_
    exact Ev.sub [1, 0] rfl (okX12_bring_h64 h)
  · have h := h.2 hc
    refine Ev.aload_n (k := 0) (pc' := 9) dX12_bring_8 rfl rfl rfl ?_
    refine Ev.getR (pc' := 12) dX12_bring_9 rfl fa_RX12_81 ob_120 fk_12_50 rf_120_50 ?_
    refine Ev.iload_n (k := 1) (pc' := 13) dX12_bring_12 rfl rfl rfl ?_
    refine Ev.aload_n (k := 0) (pc' := 14) dX12_bring_13 rfl rfl rfl ?_
    refine Ev.getR (pc' := 17) dX12_bring_14 rfl fa_RX12_109 ob_120 fk_12_61 rf_120_61 ?_
    refine Ev.iload_n (k := 1) (pc' := 18) dX12_bring_17 rfl rfl rfl ?_
    refine Ev.iaload (j := _) (pc' := 19) dX12_bring_18 rfl ar_151 h.1 rfl ?_
    have h := h.2
    refine Ev.iastore (j := _) (pc' := 20) dX12_bring_19 rfl ar_143 h.1 rfl (fun I1 eI1 => ?_)
    have h := h.2 I1 eI1
    refine Ev.aload_n (k := 0) (pc' := 21) dX12_bring_20 rfl rfl rfl ?_
    refine Ev.getR (pc' := 24) dX12_bring_21 rfl fa_RX12_84 ob_120 fk_12_51 rf_120_51 ?_
    refine Ev.iload_n (k := 1) (pc' := 25) dX12_bring_24 rfl rfl rfl ?_
    refine Ev.aload_n (k := 0) (pc' := 26) dX12_bring_25 rfl rfl rfl ?_
    refine Ev.getR (pc' := 29) dX12_bring_26 rfl fa_RX12_112 ob_120 fk_12_62 rf_120_62 ?_
    refine Ev.iload_n (k := 1) (pc' := 30) dX12_bring_29 rfl rfl rfl ?_
    refine Ev.iaload (j := _) (pc' := 31) dX12_bring_30 rfl ar_152 h.1 rfl ?_
    have h := h.2
    refine Ev.iastore (j := _) (pc' := 32) dX12_bring_31 rfl ar_144 h.1 rfl (fun I2 eI2 => ?_)
    have h := h.2 I2 eI2
    refine Ev.aload_n (k := 0) (pc' := 33) dX12_bring_32 rfl rfl rfl ?_
    refine Ev.getR (pc' := 36) dX12_bring_33 rfl fa_RX12_87 ob_120 fk_12_52 rf_120_52 ?_
    refine Ev.iload_n (k := 1) (pc' := 37) dX12_bring_36 rfl rfl rfl ?_
    refine Ev.aload_n (k := 0) (pc' := 38) dX12_bring_37 rfl rfl rfl ?_
    refine Ev.getR (pc' := 41) dX12_bring_38 rfl fa_RX12_115 ob_120 fk_12_63 rf_120_63 ?_
    refine Ev.iload_n (k := 1) (pc' := 42) dX12_bring_41 rfl rfl rfl ?_
    refine Ev.iaload (j := _) (pc' := 43) dX12_bring_42 rfl ar_153 h.1 rfl ?_
    have h := h.2
    refine Ev.iastore (j := _) (pc' := 44) dX12_bring_43 rfl ar_145 h.1 rfl (fun I3 eI3 => ?_)
    have h := h.2 I3 eI3
    refine Ev.aload_n (k := 0) (pc' := 45) dX12_bring_44 rfl rfl rfl ?_
    refine Ev.getR (pc' := 48) dX12_bring_45 rfl fa_RX12_99 ob_120 fk_12_56 rf_120_56 ?_
    refine Ev.iload_n (k := 1) (pc' := 49) dX12_bring_48 rfl rfl rfl ?_
    refine Ev.aload_n (k := 0) (pc' := 50) dX12_bring_49 rfl rfl rfl ?_
    refine Ev.getR (pc' := 53) dX12_bring_50 rfl fa_RX12_124 ob_120 fk_12_66 rf_120_66 ?_
    refine Ev.iload_n (k := 1) (pc' := 54) dX12_bring_53 rfl rfl rfl ?_
    refine Ev.zaload (j := _) (pc' := 55) dX12_bring_54 rfl ar_156 h.1 rfl ?_
    have h := h.2
    refine Ev.zastore (j := _) (pc' := 56) dX12_bring_55 rfl ar_149 h.1 rfl rfl (fun I4 eI4 => ?_)
    have h := h.2 I4 eI4
    refine Ev.iinc (k := 1) (v := _) (ls' := [(1, .int _), (0, .ref _)]) (pc' := 59) dX12_bring_56 rfl rfl (congrArg (_ + ·) ki_1) (Nat.le_of_ble_eq_true rfl) rfl ?_
    refine Ev.goto (tgt := 2) dX12_bring_59 rfl ?_
    exact Ev.sub [1, 0] rfl (hP2 _ _ _ h)
set_option maxRecDepth 10000 in
theorem okX12_bring_h2 {G : Gx} {Q : Ix → Lx → Prop} {v1 : Int32} {I : Ix} {L : Lx} (h : wpX12_bring_h2 Q v1 I L) : Ef G MX12_bring (qV Q) 2 [(0, .ref 120), (1, .int v1)] [] I L := by
  unfold wpX12_bring_h2 at h
  refine Lfp.ind (P := fun z => Ef G MX12_bring (qV Q) 2 [(0, .ref 120), (1, .int z.1)] [] z.2.1 z.2.2) ?_ h
  intro z P' hP' h
  obtain ⟨v1, I, L⟩ := z
  exact okX12_bring_l2 (fun v1 I L h9 => hP' (v1, I, L) h9) h
set_option maxRecDepth 10000 in
theorem okX12_bring {G : Gx} {I : Ix} {L : Lx} {Q : Ix → Lx → Prop} (h : wpX12_bring I L Q) : Mf G MX12_bring [.ref 120] I L (qV Q) := by
  unfold wpX12_bring at h
  refine Mf.of pn_RX12 (Nat.le_of_ble_eq_true rfl) ?_
  refine Ev.iconst (pc' := 1) dX12_bring_0 rfl ki_0 ?_
  refine Ev.istore_n (ls' := [(1, .int _), (0, .ref _)]) (pc' := 2) dX12_bring_1 rfl rfl (Nat.le_of_ble_eq_true rfl) rfl ?_
  exact Ev.sub [1, 0] rfl (okX12_bring_h2 h)
def wpX12_put_l64 (Q : Ix → Lx → Prop) (P64 : Int32 → Ix → Lx → Prop) (v1 : Int32) (I : Ix) (L : Lx) : Prop := (6 ≤ v1 → ∀ I1 : Ix, I1 = pu I 120 67 (I 120 57) → ∀ I2 : Ix, I2 = pu I1 120 68 (I1 120 58) → ∀ I3 : Ix, I3 = pu I2 120 69 (I2 120 59) → ∀ I4 : Ix, I4 = pu I3 120 70 1 → Q I4 L) ∧ (¬ 6 ≤ v1 → vp_in v1 6 ∧ vp_in v1 6 ∧ ∀ I5 : Ix, I5 = pu I 154 v1.toNatClampNeg (I 147 v1.toNatClampNeg) → vp_in v1 6 ∧ vp_in v1 6 ∧ ∀ I6 : Ix, I6 = pu I5 155 v1.toNatClampNeg (I5 148 v1.toNatClampNeg) → P64 (v1 + 1) I6 L)
def wpX12_put_h64 (Q : Ix → Lx → Prop) (v1 : Int32) (I : Ix) (L : Lx) : Prop := Lfp (X := Int32 × Ix × Lx) (fun P z => wpX12_put_l64 Q (fun v1 I L => P (v1, I, L)) z.1 z.2.1 z.2.2) (v1, I, L)
theorem wpX12_put_h64_fold {Q : Ix → Lx → Prop} {v1 : Int32} {I : Ix} {L : Lx} (h : wpX12_put_l64 Q (wpX12_put_h64 Q) v1 I L) : wpX12_put_h64 Q v1 I L := Lfp.fold h
def wpX12_put_l2 (Q : Ix → Lx → Prop) (P2 : Int32 → Ix → Lx → Prop) (v1 : Int32) (I : Ix) (L : Lx) : Prop := (10 ≤ v1 → wpX12_put_h64 Q 0 I L) ∧ (¬ 10 ≤ v1 → vp_in v1 10 ∧ vp_in v1 10 ∧ ∀ I1 : Ix, I1 = pu I 151 v1.toNatClampNeg (I 143 v1.toNatClampNeg) → vp_in v1 10 ∧ vp_in v1 10 ∧ ∀ I2 : Ix, I2 = pu I1 152 v1.toNatClampNeg (I1 144 v1.toNatClampNeg) → vp_in v1 10 ∧ vp_in v1 10 ∧ ∀ I3 : Ix, I3 = pu I2 153 v1.toNatClampNeg (I2 145 v1.toNatClampNeg) → vp_in v1 10 ∧ vp_in v1 10 ∧ ∀ I4 : Ix, I4 = pu I3 156 v1.toNatClampNeg ((I3 149 v1.toNatClampNeg) &&& 1) → P2 (v1 + 1) I4 L)
def wpX12_put_h2 (Q : Ix → Lx → Prop) (v1 : Int32) (I : Ix) (L : Lx) : Prop := Lfp (X := Int32 × Ix × Lx) (fun P z => wpX12_put_l2 Q (fun v1 I L => P (v1, I, L)) z.1 z.2.1 z.2.2) (v1, I, L)
theorem wpX12_put_h2_fold {Q : Ix → Lx → Prop} {v1 : Int32} {I : Ix} {L : Lx} (h : wpX12_put_l2 Q (wpX12_put_h2 Q) v1 I L) : wpX12_put_h2 Q v1 I L := Lfp.fold h
def wpX12_put (I : Ix) (L : Lx) (Q : Ix → Lx → Prop) : Prop := wpX12_put_h2 Q 0 I L
set_option maxRecDepth 10000 in
theorem okX12_put_l64 {G : Gx} {Q : Ix → Lx → Prop} {P64 : Int32 → Ix → Lx → Prop} (hP64 : ∀ (v1 : Int32) (I : Ix) (L : Lx), P64 v1 I L → Ef G MX12_put (qV Q) 64 [(0, .ref 120), (1, .int v1)] [] I L) {v1 : Int32} {I : Ix} {L : Lx} (h : wpX12_put_l64 Q P64 v1 I L) : Ef G MX12_put (qV Q) 64 [(0, .ref 120), (1, .int v1)] [] I L := by
  unfold wpX12_put_l64 at h
  refine Ev.iload_n (k := 1) (pc' := 65) dX12_put_64 rfl rfl rfl ?_
  refine Ev.bipush (pc' := 67) dX12_put_65 rfl kb_6 ?_
  refine Ev.icmp_ge (pc' := 70) (tgt := 100) dX12_put_67 rfl rfl (fun hc => ?_) (fun hc => ?_)
  · have h := h.1 hc
    refine Ev.aload_n (k := 0) (pc' := 101) dX12_put_100 rfl rfl rfl ?_
    refine Ev.aload_n (k := 0) (pc' := 102) dX12_put_101 rfl rfl rfl ?_
    refine Ev.getI (pc' := 105) dX12_put_102 rfl fa_RX12_464 ob_120 fk_12_57 ?_
    refine Ev.putI (pc' := 108) dX12_put_105 rfl fa_RX12_470 ob_120 fk_12_67 rfl rfl (fun I1 eI1 => ?_)
    have h := h I1 eI1
    refine Ev.aload_n (k := 0) (pc' := 109) dX12_put_108 rfl rfl rfl ?_
    refine Ev.aload_n (k := 0) (pc' := 110) dX12_put_109 rfl rfl rfl ?_
    refine Ev.getI (pc' := 113) dX12_put_110 rfl fa_RX12_103 ob_120 fk_12_58 ?_
    refine Ev.putI (pc' := 116) dX12_put_113 rfl fa_RX12_473 ob_120 fk_12_68 rfl rfl (fun I2 eI2 => ?_)
    have h := h I2 eI2
    refine Ev.aload_n (k := 0) (pc' := 117) dX12_put_116 rfl rfl rfl ?_
    refine Ev.aload_n (k := 0) (pc' := 118) dX12_put_117 rfl rfl rfl ?_
    refine Ev.getI (pc' := 121) dX12_put_118 rfl fa_RX12_467 ob_120 fk_12_59 ?_
    refine Ev.putI (pc' := 124) dX12_put_121 rfl fa_RX12_476 ob_120 fk_12_69 rfl rfl (fun I3 eI3 => ?_)
    have h := h I3 eI3
    refine Ev.aload_n (k := 0) (pc' := 125) dX12_put_124 rfl rfl rfl ?_
    refine Ev.iconst (pc' := 126) dX12_put_125 rfl ki_1 ?_
    refine Ev.putI (pc' := 129) dX12_put_126 rfl fa_RX12_479 ob_120 fk_12_70 rfl rfl (fun I4 eI4 => ?_)
    have h := h I4 eI4
    exact Ef.vret dX12_put_129 rfl h
  · have h := h.2 hc
    refine Ev.aload_n (k := 0) (pc' := 71) dX12_put_70 rfl rfl rfl ?_
    refine Ev.getR (pc' := 74) dX12_put_71 rfl fa_RX12_118 ob_120 fk_12_64 rf_120_64 ?_
    refine Ev.iload_n (k := 1) (pc' := 75) dX12_put_74 rfl rfl rfl ?_
    refine Ev.aload_n (k := 0) (pc' := 76) dX12_put_75 rfl rfl rfl ?_
    refine Ev.getR (pc' := 79) dX12_put_76 rfl fa_RX12_93 ob_120 fk_12_54 rf_120_54 ?_
    refine Ev.iload_n (k := 1) (pc' := 80) dX12_put_79 rfl rfl rfl ?_
    refine Ev.iaload (j := _) (pc' := 81) dX12_put_80 rfl ar_147 h.1 rfl ?_
    have h := h.2
    refine Ev.iastore (j := _) (pc' := 82) dX12_put_81 rfl ar_154 h.1 rfl (fun I5 eI5 => ?_)
    have h := h.2 I5 eI5
    refine Ev.aload_n (k := 0) (pc' := 83) dX12_put_82 rfl rfl rfl ?_
    refine Ev.getR (pc' := 86) dX12_put_83 rfl fa_RX12_121 ob_120 fk_12_65 rf_120_65 ?_
    refine Ev.iload_n (k := 1) (pc' := 87) dX12_put_86 rfl rfl rfl ?_
    refine Ev.aload_n (k := 0) (pc' := 88) dX12_put_87 rfl rfl rfl ?_
    refine Ev.getR (pc' := 91) dX12_put_88 rfl fa_RX12_96 ob_120 fk_12_55 rf_120_55 ?_
    refine Ev.iload_n (k := 1) (pc' := 92) dX12_put_91 rfl rfl rfl ?_
    refine Ev.iaload (j := _) (pc' := 93) dX12_put_92 rfl ar_148 h.1 rfl ?_
    have h := h.2
    refine Ev.iastore (j := _) (pc' := 94) dX12_put_93 rfl ar_155 h.1 rfl (fun I6 eI6 => ?_)
    have h := h.2 I6 eI6
    refine Ev.iinc (k := 1) (v := _) (ls' := [(1, .int _), (0, .ref _)]) (pc' := 97) dX12_put_94 rfl rfl (congrArg (_ + ·) ki_1) (Nat.le_of_ble_eq_true rfl) rfl ?_
    refine Ev.goto (tgt := 64) dX12_put_97 rfl ?_
    exact Ev.sub [1, 0] rfl (hP64 _ _ _ h)
set_option maxRecDepth 10000 in
theorem okX12_put_h64 {G : Gx} {Q : Ix → Lx → Prop} {v1 : Int32} {I : Ix} {L : Lx} (h : wpX12_put_h64 Q v1 I L) : Ef G MX12_put (qV Q) 64 [(0, .ref 120), (1, .int v1)] [] I L := by
  unfold wpX12_put_h64 at h
  refine Lfp.ind (P := fun z => Ef G MX12_put (qV Q) 64 [(0, .ref 120), (1, .int z.1)] [] z.2.1 z.2.2) ?_ h
  intro z P' hP' h
  obtain ⟨v1, I, L⟩ := z
  exact okX12_put_l64 (fun v1 I L h9 => hP' (v1, I, L) h9) h
set_option maxRecDepth 10000 in
theorem okX12_put_l2 {G : Gx} {Q : Ix → Lx → Prop} {P2 : Int32 → Ix → Lx → Prop} (hP2 : ∀ (v1 : Int32) (I : Ix) (L : Lx), P2 v1 I L → Ef G MX12_put (qV Q) 2 [(0, .ref 120), (1, .int v1)] [] I L) {v1 : Int32} {I : Ix} {L : Lx} (h : wpX12_put_l2 Q P2 v1 I L) : Ef G MX12_put (qV Q) 2 [(0, .ref 120), (1, .int v1)] [] I L := by
  unfold wpX12_put_l2 at h
  refine Ev.iload_n (k := 1) (pc' := 3) dX12_put_2 rfl rfl rfl ?_
  refine Ev.bipush (pc' := 5) dX12_put_3 rfl kb_10 ?_
  refine Ev.icmp_ge (pc' := 8) (tgt := 62) dX12_put_5 rfl rfl (fun hc => ?_) (fun hc => ?_)
  · have h := h.1 hc
    refine Ev.iconst (pc' := 63) dX12_put_62 rfl ki_0 ?_
    refine Ev.istore_n (ls' := [(1, .int _), (0, .ref _)]) (pc' := 64) dX12_put_63 rfl rfl (Nat.le_of_ble_eq_true rfl) rfl ?_
    exact Ev.sub [1, 0] rfl (okX12_put_h64 h)
  · have h := h.2 hc
    refine Ev.aload_n (k := 0) (pc' := 9) dX12_put_8 rfl rfl rfl ?_
    refine Ev.getR (pc' := 12) dX12_put_9 rfl fa_RX12_109 ob_120 fk_12_61 rf_120_61 ?_
    refine Ev.iload_n (k := 1) (pc' := 13) dX12_put_12 rfl rfl rfl ?_
    refine Ev.aload_n (k := 0) (pc' := 14) dX12_put_13 rfl rfl rfl ?_
    refine Ev.getR (pc' := 17) dX12_put_14 rfl fa_RX12_81 ob_120 fk_12_50 rf_120_50 ?_
    refine Ev.iload_n (k := 1) (pc' := 18) dX12_put_17 rfl rfl rfl ?_
    refine Ev.iaload (j := _) (pc' := 19) dX12_put_18 rfl ar_143 h.1 rfl ?_
    have h := h.2
    refine Ev.iastore (j := _) (pc' := 20) dX12_put_19 rfl ar_151 h.1 rfl (fun I1 eI1 => ?_)
    have h := h.2 I1 eI1
    refine Ev.aload_n (k := 0) (pc' := 21) dX12_put_20 rfl rfl rfl ?_
    refine Ev.getR (pc' := 24) dX12_put_21 rfl fa_RX12_112 ob_120 fk_12_62 rf_120_62 ?_
    refine Ev.iload_n (k := 1) (pc' := 25) dX12_put_24 rfl rfl rfl ?_
    refine Ev.aload_n (k := 0) (pc' := 26) dX12_put_25 rfl rfl rfl ?_
    refine Ev.getR (pc' := 29) dX12_put_26 rfl fa_RX12_84 ob_120 fk_12_51 rf_120_51 ?_
    refine Ev.iload_n (k := 1) (pc' := 30) dX12_put_29 rfl rfl rfl ?_
    refine Ev.iaload (j := _) (pc' := 31) dX12_put_30 rfl ar_144 h.1 rfl ?_
    have h := h.2
    refine Ev.iastore (j := _) (pc' := 32) dX12_put_31 rfl ar_152 h.1 rfl (fun I2 eI2 => ?_)
    have h := h.2 I2 eI2
    refine Ev.aload_n (k := 0) (pc' := 33) dX12_put_32 rfl rfl rfl ?_
    refine Ev.getR (pc' := 36) dX12_put_33 rfl fa_RX12_115 ob_120 fk_12_63 rf_120_63 ?_
    refine Ev.iload_n (k := 1) (pc' := 37) dX12_put_36 rfl rfl rfl ?_
    refine Ev.aload_n (k := 0) (pc' := 38) dX12_put_37 rfl rfl rfl ?_
    refine Ev.getR (pc' := 41) dX12_put_38 rfl fa_RX12_87 ob_120 fk_12_52 rf_120_52 ?_
    refine Ev.iload_n (k := 1) (pc' := 42) dX12_put_41 rfl rfl rfl ?_
    refine Ev.iaload (j := _) (pc' := 43) dX12_put_42 rfl ar_145 h.1 rfl ?_
    have h := h.2
    refine Ev.iastore (j := _) (pc' := 44) dX12_put_43 rfl ar_153 h.1 rfl (fun I3 eI3 => ?_)
    have h := h.2 I3 eI3
    refine Ev.aload_n (k := 0) (pc' := 45) dX12_put_44 rfl rfl rfl ?_
    refine Ev.getR (pc' := 48) dX12_put_45 rfl fa_RX12_124 ob_120 fk_12_66 rf_120_66 ?_
    refine Ev.iload_n (k := 1) (pc' := 49) dX12_put_48 rfl rfl rfl ?_
    refine Ev.aload_n (k := 0) (pc' := 50) dX12_put_49 rfl rfl rfl ?_
    refine Ev.getR (pc' := 53) dX12_put_50 rfl fa_RX12_99 ob_120 fk_12_56 rf_120_56 ?_
    refine Ev.iload_n (k := 1) (pc' := 54) dX12_put_53 rfl rfl rfl ?_
    refine Ev.zaload (j := _) (pc' := 55) dX12_put_54 rfl ar_149 h.1 rfl ?_
    have h := h.2
    refine Ev.zastore (j := _) (pc' := 56) dX12_put_55 rfl ar_156 h.1 rfl rfl (fun I4 eI4 => ?_)
    have h := h.2 I4 eI4
    refine Ev.iinc (k := 1) (v := _) (ls' := [(1, .int _), (0, .ref _)]) (pc' := 59) dX12_put_56 rfl rfl (congrArg (_ + ·) ki_1) (Nat.le_of_ble_eq_true rfl) rfl ?_
    refine Ev.goto (tgt := 2) dX12_put_59 rfl ?_
    exact Ev.sub [1, 0] rfl (hP2 _ _ _ h)
set_option maxRecDepth 10000 in
theorem okX12_put_h2 {G : Gx} {Q : Ix → Lx → Prop} {v1 : Int32} {I : Ix} {L : Lx} (h : wpX12_put_h2 Q v1 I L) : Ef G MX12_put (qV Q) 2 [(0, .ref 120), (1, .int v1)] [] I L := by
  unfold wpX12_put_h2 at h
  refine Lfp.ind (P := fun z => Ef G MX12_put (qV Q) 2 [(0, .ref 120), (1, .int z.1)] [] z.2.1 z.2.2) ?_ h
  intro z P' hP' h
  obtain ⟨v1, I, L⟩ := z
  exact okX12_put_l2 (fun v1 I L h9 => hP' (v1, I, L) h9) h
set_option maxRecDepth 10000 in
theorem okX12_put {G : Gx} {I : Ix} {L : Lx} {Q : Ix → Lx → Prop} (h : wpX12_put I L Q) : Mf G MX12_put [.ref 120] I L (qV Q) := by
  unfold wpX12_put at h
  refine Mf.of pn_RX12 (Nat.le_of_ble_eq_true rfl) ?_
  refine Ev.iconst (pc' := 1) dX12_put_0 rfl ki_0 ?_
  refine Ev.istore_n (ls' := [(1, .int _), (0, .ref _)]) (pc' := 2) dX12_put_1 rfl rfl (Nat.le_of_ble_eq_true rfl) rfl ?_
  exact Ev.sub [1, 0] rfl (okX12_put_h2 h)
def wpX12_seekThen_b79 (Q : Ix → Lx → Prop) (t1 : Int32) (I : Ix) (L : Lx) : Prop := ∀ I1 : Ix, I1 = pu I 120 79 t1 → wpX12_bring I1 L (fun I2 L3 => Q I2 L3)
def wpX12_seekThen (a1 : Int32) (a2 : Int32) (I : Ix) (L : Lx) (Q : Ix → Lx → Prop) : Prop := wpX12_put I L (fun I1 L2 => ∀ I3 : Ix, I3 = pu I1 120 57 ((I1 120 57) + 1) → wpX12_useAndMend I3 L2 (fun I4 L5 => vp_in a1 10 ∧ isB (I4 149 a1.toNatClampNeg) ∧ (∀ I6 : Ix, I6 = pu I4 120 80 (I4 149 a1.toNatClampNeg) → ∀ I7 : Ix, I7 = pu I6 120 76 a1 → ∀ I8 : Ix, I8 = pu I7 120 77 0 → wpX12_doNoons (I8 120 46) a2 I8 L5 (fun I9 L10 => ∀ I11 : Ix, I11 = pu I9 120 76 (-1) → vp_in a1 10 ∧ ∀ I12 : Ix, I12 = pu I11 120 78 (I11 143 a1.toNatClampNeg) → (¬ (I12 120 46) = 2 → wpX12_seekThen_b79 Q 0 I12 L10) ∧ ((I12 120 46) = 2 → wpX12_seekThen_b79 Q (I12 120 77) I12 L10)))))
set_option maxRecDepth 10000 in
theorem okX12_seekThen_b79 {G : Gx} {Q : Ix → Lx → Prop} {t1 : Int32} {I : Ix} {L : Lx} (h : wpX12_seekThen_b79 Q t1 I L) : Ef G MX12_seekThen (qV Q) 79 [(0, .ref 120)] [.int t1, .ref 120] I L := by
  unfold wpX12_seekThen_b79 at h
  refine Ev.putI (pc' := 82) dX12_seekThen_79 rfl fa_RX12_584 ob_120 fk_12_79 rfl rfl (fun I1 eI1 => ?_)
  have h := h I1 eI1
  refine Ev.aload_n (k := 0) (pc' := 83) dX12_seekThen_82 rfl rfl rfl ?_
  refine Ef.callVV [] [] (pc' := 86) dX12_seekThen_83 rfl cv_RX12_587_X12_bring ⟨Nat.le_of_ble_eq_true rfl, Nat.le_of_ble_eq_true rfl⟩ ob_120 rfl rfl rfl (Nat.le_of_ble_eq_true rfl) (okX12_bring h) (fun I2 L3 h => ?_)
  exact Ef.vret dX12_seekThen_86 rfl h
set_option maxRecDepth 10000 in
theorem okX12_seekThen {G : Gx} {a1 : Int32} {a2 : Int32} {I : Ix} {L : Lx} {Q : Ix → Lx → Prop} (h : wpX12_seekThen a1 a2 I L Q) : Mf G MX12_seekThen [.ref 120, .int a1, .int a2] I L (qV Q) := by
  unfold wpX12_seekThen at h
  refine Mf.of pn_RX12 (Nat.le_of_ble_eq_true rfl) ?_
  refine Ev.aload_n (k := 0) (pc' := 1) dX12_seekThen_0 rfl rfl rfl ?_
  refine Ef.callVV [] [] (pc' := 4) dX12_seekThen_1 rfl cv_RX12_575_X12_put ⟨Nat.le_of_ble_eq_true rfl, Nat.le_of_ble_eq_true rfl⟩ ob_120 rfl rfl rfl (Nat.le_of_ble_eq_true rfl) (okX12_put h) (fun I1 L2 h => ?_)
  refine Ev.aload_n (k := 0) (pc' := 5) dX12_seekThen_4 rfl rfl rfl ?_
  refine Ev.dup (pc' := 6) dX12_seekThen_5 rfl rfl ?_
  refine Ev.getI (pc' := 9) dX12_seekThen_6 rfl fa_RX12_464 ob_120 fk_12_57 ?_
  refine Ev.iconst (pc' := 10) dX12_seekThen_9 rfl ki_1 ?_
  refine Ev.iadd (pc' := 11) dX12_seekThen_10 rfl ?_
  refine Ev.putI (pc' := 14) dX12_seekThen_11 rfl fa_RX12_464 ob_120 fk_12_57 rfl rfl (fun I3 eI3 => ?_)
  have h := h I3 eI3
  refine Ev.aload_n (k := 0) (pc' := 15) dX12_seekThen_14 rfl rfl rfl ?_
  refine Ef.callVV [] [] (pc' := 18) dX12_seekThen_15 rfl cv_RX12_552_X12_useAndMend ⟨Nat.le_of_ble_eq_true rfl, Nat.le_of_ble_eq_true rfl⟩ ob_120 rfl rfl rfl (Nat.le_of_ble_eq_true rfl) (okX12_useAndMend h) (fun I4 L5 h => ?_)
  refine Ev.aload_n (k := 0) (pc' := 19) dX12_seekThen_18 rfl rfl rfl ?_
  refine Ev.aload_n (k := 0) (pc' := 20) dX12_seekThen_19 rfl rfl rfl ?_
  refine Ev.getR (pc' := 23) dX12_seekThen_20 rfl fa_RX12_99 ob_120 fk_12_56 rf_120_56 ?_
  refine Ev.iload_n (k := 1) (pc' := 24) dX12_seekThen_23 rfl rfl rfl ?_
  refine Ev.zaload (j := _) (pc' := 25) dX12_seekThen_24 rfl ar_149 h.1 rfl ?_
  have h := h.2
  refine Ev.putI (pc' := 28) dX12_seekThen_25 rfl fa_RX12_578 ob_120 fk_12_80 (isB_n h.1) (isB_f h.1) (fun I6 eI6 => ?_)
  have h := h.2 I6 eI6
  refine Ev.aload_n (k := 0) (pc' := 29) dX12_seekThen_28 rfl rfl rfl ?_
  refine Ev.iload_n (k := 1) (pc' := 30) dX12_seekThen_29 rfl rfl rfl ?_
  refine Ev.putI (pc' := 33) dX12_seekThen_30 rfl fa_RX12_139 ob_120 fk_12_76 rfl rfl (fun I7 eI7 => ?_)
  have h := h I7 eI7
  refine Ev.aload_n (k := 0) (pc' := 34) dX12_seekThen_33 rfl rfl rfl ?_
  refine Ev.iconst (pc' := 35) dX12_seekThen_34 rfl ki_0 ?_
  refine Ev.putI (pc' := 38) dX12_seekThen_35 rfl fa_RX12_536 ob_120 fk_12_77 rfl rfl (fun I8 eI8 => ?_)
  have h := h I8 eI8
  refine Ev.aload_n (k := 0) (pc' := 39) dX12_seekThen_38 rfl rfl rfl ?_
  refine Ev.aload_n (k := 0) (pc' := 40) dX12_seekThen_39 rfl rfl rfl ?_
  refine Ev.getI (pc' := 43) dX12_seekThen_40 rfl fa_RX12_443 ob_120 fk_12_46 ?_
  refine Ev.iload_n (k := 2) (pc' := 44) dX12_seekThen_43 rfl rfl rfl ?_
  refine Ef.callVV [.int _, .int _] [] (pc' := 47) dX12_seekThen_44 rfl cv_RX12_555_X12_doNoons ⟨Nat.le_of_ble_eq_true rfl, Nat.le_of_ble_eq_true rfl⟩ ob_120 rfl rfl rfl (Nat.le_of_ble_eq_true rfl) (okX12_doNoons h) (fun I9 L10 h => ?_)
  refine Ev.aload_n (k := 0) (pc' := 48) dX12_seekThen_47 rfl rfl rfl ?_
  refine Ev.iconst (pc' := 49) dX12_seekThen_48 rfl ki_m1 ?_
  refine Ev.putI (pc' := 52) dX12_seekThen_49 rfl fa_RX12_139 ob_120 fk_12_76 rfl rfl (fun I11 eI11 => ?_)
  have h := h I11 eI11
  refine Ev.aload_n (k := 0) (pc' := 53) dX12_seekThen_52 rfl rfl rfl ?_
  refine Ev.aload_n (k := 0) (pc' := 54) dX12_seekThen_53 rfl rfl rfl ?_
  refine Ev.getR (pc' := 57) dX12_seekThen_54 rfl fa_RX12_81 ob_120 fk_12_50 rf_120_50 ?_
  refine Ev.iload_n (k := 1) (pc' := 58) dX12_seekThen_57 rfl rfl rfl ?_
  refine Ev.iaload (j := _) (pc' := 59) dX12_seekThen_58 rfl ar_143 h.1 rfl ?_
  have h := h.2
  refine Ev.putI (pc' := 62) dX12_seekThen_59 rfl fa_RX12_581 ob_120 fk_12_78 rfl rfl (fun I12 eI12 => ?_)
  have h := h I12 eI12
  refine Ev.aload_n (k := 0) (pc' := 63) dX12_seekThen_62 rfl rfl rfl ?_
  refine Ev.aload_n (k := 0) (pc' := 64) dX12_seekThen_63 rfl rfl rfl ?_
  refine Ev.getI (pc' := 67) dX12_seekThen_64 rfl fa_RX12_443 ob_120 fk_12_46 ?_
  refine Ev.iconst (pc' := 68) dX12_seekThen_67 rfl ki_2 ?_
  refine Ev.icmp_ne (pc' := 71) (tgt := 78) dX12_seekThen_68 rfl rfl (fun hc => ?_) (fun hc => ?_)
  · have h := h.1 hc
    refine Ev.iconst (pc' := 79) dX12_seekThen_78 rfl ki_0 ?_
    exact Ev.sub [0] rfl (okX12_seekThen_b79 h)
  · have h := h.2 hc
    refine Ev.aload_n (k := 0) (pc' := 72) dX12_seekThen_71 rfl rfl rfl ?_
    refine Ev.getI (pc' := 75) dX12_seekThen_72 rfl fa_RX12_536 ob_120 fk_12_77 ?_
    refine Ev.goto (tgt := 79) dX12_seekThen_75 rfl ?_
    exact Ev.sub [0] rfl (okX12_seekThen_b79 h)
def wpX12_sixtieths (a1 : Int32) (I : Ix) (L : Lx) (Q : Int32 → Ix → Lx → Prop) : Prop := (¬ (I 120 79) = 0 → (a1 < 0 → Q 0 I L) ∧ (¬ a1 < 0 → (¬ ((jshr (I 120 79) a1) &&& 1) = 1 → Q 0 I L) ∧ (((jshr (I 120 79) a1) &&& 1) = 1 → wpX12_ones (I 120 79) I L (fun r3 I1 L2 => ¬ r3 = 0 ∧ Q (60 / r3) I1 L2)))) ∧ ((I 120 79) = 0 → (¬ (I 120 78) = a1 → Q 0 I L) ∧ ((I 120 78) = a1 → Q 60 I L))
set_option maxRecDepth 10000 in
theorem okX12_sixtieths {G : Gx} {a1 : Int32} {I : Ix} {L : Lx} {Q : Int32 → Ix → Lx → Prop} (h : wpX12_sixtieths a1 I L Q) : Mf G MX12_sixtieths [.ref 120, .int a1] I L (qI Q) := by
  unfold wpX12_sixtieths at h
  refine Mf.of pn_RX12 (Nat.le_of_ble_eq_true rfl) ?_
  refine Ev.aload_n (k := 0) (pc' := 1) dX12_sixtieths_0 rfl rfl rfl ?_
  refine Ev.getI (pc' := 4) dX12_sixtieths_1 rfl fa_RX12_584 ob_120 fk_12_79 ?_
  refine Ev.if_ne (pc' := 7) (tgt := 22) dX12_sixtieths_4 rfl rfl (fun hc => ?_) (fun hc => ?_)
  · have h := h.1 hc
    refine Ev.iload_n (k := 1) (pc' := 23) dX12_sixtieths_22 rfl rfl rfl ?_
    refine Ev.if_lt (pc' := 26) (tgt := 51) dX12_sixtieths_23 rfl rfl (fun hc => ?_) (fun hc => ?_)
    · have h := h.1 hc
      refine Ev.iconst (pc' := 52) dX12_sixtieths_51 rfl ki_0 ?_
      exact Ef.iret dX12_sixtieths_52 rfl h
    · have h := h.2 hc
      refine Ev.aload_n (k := 0) (pc' := 27) dX12_sixtieths_26 rfl rfl rfl ?_
      refine Ev.getI (pc' := 30) dX12_sixtieths_27 rfl fa_RX12_584 ob_120 fk_12_79 ?_
      refine Ev.iload_n (k := 1) (pc' := 31) dX12_sixtieths_30 rfl rfl rfl ?_
      refine Ev.ishr (pc' := 32) dX12_sixtieths_31 rfl ?_
      refine Ev.iconst (pc' := 33) dX12_sixtieths_32 rfl ki_1 ?_
      refine Ev.iand (pc' := 34) dX12_sixtieths_33 rfl ?_
      refine Ev.iconst (pc' := 35) dX12_sixtieths_34 rfl ki_1 ?_
      refine Ev.icmp_ne (pc' := 38) (tgt := 51) dX12_sixtieths_35 rfl rfl (fun hc => ?_) (fun hc => ?_)
      · have h := h.1 hc
        refine Ev.iconst (pc' := 52) dX12_sixtieths_51 rfl ki_0 ?_
        exact Ef.iret dX12_sixtieths_52 rfl h
      · have h := h.2 hc
        refine Ev.bipush (pc' := 40) dX12_sixtieths_38 rfl kb_60 ?_
        refine Ev.aload_n (k := 0) (pc' := 41) dX12_sixtieths_40 rfl rfl rfl ?_
        refine Ev.getI (pc' := 44) dX12_sixtieths_41 rfl fa_RX12_584 ob_120 fk_12_79 ?_
        refine Ef.callSI [.int _] [.int _] (pc' := 47) dX12_sixtieths_44 rfl cv_RX12_521_X12_ones ⟨Nat.le_of_ble_eq_true rfl, Nat.le_of_ble_eq_true rfl⟩ rfl rfl (Nat.le_of_ble_eq_true rfl) (okX12_ones h) (fun r3 I1 L2 h => ?_)
        refine Ev.idiv (pc' := 48) dX12_sixtieths_47 rfl h.1 ?_
        have h := h.2
        refine Ev.goto (tgt := 52) dX12_sixtieths_48 rfl ?_
        exact Ef.iret dX12_sixtieths_52 rfl h
  · have h := h.2 hc
    refine Ev.aload_n (k := 0) (pc' := 8) dX12_sixtieths_7 rfl rfl rfl ?_
    refine Ev.getI (pc' := 11) dX12_sixtieths_8 rfl fa_RX12_581 ob_120 fk_12_78 ?_
    refine Ev.iload_n (k := 1) (pc' := 12) dX12_sixtieths_11 rfl rfl rfl ?_
    refine Ev.icmp_ne (pc' := 15) (tgt := 20) dX12_sixtieths_12 rfl rfl (fun hc => ?_) (fun hc => ?_)
    · have h := h.1 hc
      refine Ev.iconst (pc' := 21) dX12_sixtieths_20 rfl ki_0 ?_
      exact Ef.iret dX12_sixtieths_21 rfl h
    · have h := h.2 hc
      refine Ev.bipush (pc' := 17) dX12_sixtieths_15 rfl kb_60 ?_
      refine Ev.goto (tgt := 21) dX12_sixtieths_17 rfl ?_
      exact Ef.iret dX12_sixtieths_21 rfl h
def wpX12_chanceIn (a1 : Int32) (a2 : Int32) (I : Ix) (L : Lx) (Q : Int32 → Ix → Lx → Prop) : Prop := wpX12_seekThen a1 0 I L (fun I1 L2 => ((I1 120 80) = 0 → wpX12_sixtieths a2 I1 L2 (fun r5 I3 L4 => wpX12_seekThen a1 1 I3 L4 (fun I6 L7 => wpX12_sixtieths a2 I6 L7 (fun r10 I8 L9 => Q (((I6 120 47) * r10) + ((100 - (I8 120 47)) * r5)) I8 L9)))) ∧ (¬ (I1 120 80) = 0 → Q (-1) I1 L2))
set_option maxRecDepth 10000 in
theorem okX12_chanceIn {G : Gx} {a1 : Int32} {a2 : Int32} {I : Ix} {L : Lx} {Q : Int32 → Ix → Lx → Prop} (h : wpX12_chanceIn a1 a2 I L Q) : Mf G MX12_chanceIn [.ref 120, .int a1, .int a2] I L (qI Q) := by
  unfold wpX12_chanceIn at h
  refine Mf.of pn_RX12 (Nat.le_of_ble_eq_true rfl) ?_
  refine Ev.aload_n (k := 0) (pc' := 1) dX12_chanceIn_0 rfl rfl rfl ?_
  refine Ev.iload_n (k := 1) (pc' := 2) dX12_chanceIn_1 rfl rfl rfl ?_
  refine Ev.iconst (pc' := 3) dX12_chanceIn_2 rfl ki_0 ?_
  refine Ef.callVV [.int _, .int _] [] (pc' := 6) dX12_chanceIn_3 rfl cv_RX12_590_X12_seekThen ⟨Nat.le_of_ble_eq_true rfl, Nat.le_of_ble_eq_true rfl⟩ ob_120 rfl rfl rfl (Nat.le_of_ble_eq_true rfl) (okX12_seekThen h) (fun I1 L2 h => ?_)
  refine Ev.aload_n (k := 0) (pc' := 7) dX12_chanceIn_6 rfl rfl rfl ?_
  refine Ev.getI (pc' := 10) dX12_chanceIn_7 rfl fa_RX12_578 ob_120 fk_12_80 ?_
  refine Ev.if_eq (pc' := 13) (tgt := 15) dX12_chanceIn_10 rfl rfl (fun hc => ?_) (fun hc => ?_)
  · have h := h.1 hc
    refine Ev.aload_n (k := 0) (pc' := 16) dX12_chanceIn_15 rfl rfl rfl ?_
    refine Ev.iload_n (k := 2) (pc' := 17) dX12_chanceIn_16 rfl rfl rfl ?_
    refine Ef.callVI [.int _] [] (pc' := 20) dX12_chanceIn_17 rfl cv_RX12_593_X12_sixtieths ⟨Nat.le_of_ble_eq_true rfl, Nat.le_of_ble_eq_true rfl⟩ ob_120 rfl rfl rfl (Nat.le_of_ble_eq_true rfl) (okX12_sixtieths h) (fun r5 I3 L4 h => ?_)
    refine Ev.istore_n (ls' := [(3, .int _), (0, .ref _), (1, .int _), (2, .int _)]) (pc' := 21) dX12_chanceIn_20 rfl rfl (Nat.le_of_ble_eq_true rfl) rfl ?_
    refine Ev.aload_n (k := 1) (pc' := 22) dX12_chanceIn_21 rfl rfl rfl ?_
    refine Ev.iload_n (k := 2) (pc' := 23) dX12_chanceIn_22 rfl rfl rfl ?_
    refine Ev.iconst (pc' := 24) dX12_chanceIn_23 rfl ki_1 ?_
    refine Ef.callVV [.int _, .int _] [] (pc' := 27) dX12_chanceIn_24 rfl cv_RX12_590_X12_seekThen ⟨Nat.le_of_ble_eq_true rfl, Nat.le_of_ble_eq_true rfl⟩ ob_120 rfl rfl rfl (Nat.le_of_ble_eq_true rfl) (okX12_seekThen h) (fun I6 L7 h => ?_)
    refine Ev.aload_n (k := 1) (pc' := 28) dX12_chanceIn_27 rfl rfl rfl ?_
    refine Ev.getI (pc' := 31) dX12_chanceIn_28 rfl fa_RX12_446 ob_120 fk_12_47 ?_
    refine Ev.aload_n (k := 1) (pc' := 32) dX12_chanceIn_31 rfl rfl rfl ?_
    refine Ev.iload_n (k := 3) (pc' := 33) dX12_chanceIn_32 rfl rfl rfl ?_
    refine Ef.callVI [.int _] [.int _] (pc' := 36) dX12_chanceIn_33 rfl cv_RX12_593_X12_sixtieths ⟨Nat.le_of_ble_eq_true rfl, Nat.le_of_ble_eq_true rfl⟩ ob_120 rfl rfl rfl (Nat.le_of_ble_eq_true rfl) (okX12_sixtieths h) (fun r10 I8 L9 h => ?_)
    refine Ev.imul (pc' := 37) dX12_chanceIn_36 rfl ?_
    refine Ev.bipush (pc' := 39) dX12_chanceIn_37 rfl kb_100 ?_
    refine Ev.aload_n (k := 1) (pc' := 40) dX12_chanceIn_39 rfl rfl rfl ?_
    refine Ev.getI (pc' := 43) dX12_chanceIn_40 rfl fa_RX12_446 ob_120 fk_12_47 ?_
    refine Ev.isub (pc' := 44) dX12_chanceIn_43 rfl ?_
    refine Ev.iload_n (k := 0) (pc' := 45) dX12_chanceIn_44 rfl rfl rfl ?_
    refine Ev.imul (pc' := 46) dX12_chanceIn_45 rfl ?_
    refine Ev.iadd (pc' := 47) dX12_chanceIn_46 rfl ?_
    exact Ef.iret dX12_chanceIn_47 rfl h
  · have h := h.2 hc
    refine Ev.iconst (pc' := 14) dX12_chanceIn_13 rfl ki_m1 ?_
    exact Ef.iret dX12_chanceIn_14 rfl h
def wpX12_common_l6 (Q : Int64 → Ix → Lx → Prop) (P6 : Int64 → Int64 → Ix → Lx → Prop) (v4 : Int64) (v6 : Int64) (I : Ix) (L : Lx) : Prop := (v6 ≤ 0 → Q v4 I L) ∧ (¬ v6 ≤ 0 → ¬ v6 = 0 ∧ P6 v6 (jlrem v4 v6) I L)
def wpX12_common_h6 (Q : Int64 → Ix → Lx → Prop) (v4 : Int64) (v6 : Int64) (I : Ix) (L : Lx) : Prop := Lfp (X := Int64 × Int64 × Ix × Lx) (fun P z => wpX12_common_l6 Q (fun v4 v6 I L => P (v4, v6, I, L)) z.1 z.2.1 z.2.2.1 z.2.2.2) (v4, v6, I, L)
theorem wpX12_common_h6_fold {Q : Int64 → Ix → Lx → Prop} {v4 : Int64} {v6 : Int64} {I : Ix} {L : Lx} (h : wpX12_common_l6 Q (wpX12_common_h6 Q) v4 v6 I L) : wpX12_common_h6 Q v4 v6 I L := Lfp.fold h
def wpX12_common (a0 : Int64) (a2 : Int64) (I : Ix) (L : Lx) (Q : Int64 → Ix → Lx → Prop) : Prop := wpX12_common_h6 Q a0 a2 I L
set_option maxRecDepth 10000 in
theorem okX12_common_l6 {G : Gx} {Q : Int64 → Ix → Lx → Prop} {P6 : Int64 → Int64 → Ix → Lx → Prop} (hP6 : ∀ (v4 : Int64) (v6 : Int64) (I : Ix) (L : Lx), P6 v4 v6 I L → Ef G MX12_common (qL Q) 6 [(4, .long v4), (6, .long v6)] [] I L) {v4 : Int64} {v6 : Int64} {I : Ix} {L : Lx} (h : wpX12_common_l6 Q P6 v4 v6 I L) : Ef G MX12_common (qL Q) 6 [(4, .long v4), (6, .long v6)] [] I L := by
  unfold wpX12_common_l6 at h
  refine Ev.lload (k := 1) (pc' := 8) dX12_common_6 rfl rfl ?_
  refine Ev.lconst (v := 0) (pc' := 9) dX12_common_8 rfl rfl ?_
  refine Ef.lc_le (pc1 := 10) (pc' := 13) (tgt := 31) dX12_common_9 rfl dX12_common_10 rfl rfl (fun hc => ?_) (fun hc => ?_)
  · have h := h.1 hc
    refine Ev.lload (k := 0) (pc' := 33) dX12_common_31 rfl rfl ?_
    exact Ef.lret dX12_common_33 rfl h
  · have h := h.2 hc
    refine Ev.lload (k := 0) (pc' := 15) dX12_common_13 rfl rfl ?_
    refine Ev.lload (k := 1) (pc' := 17) dX12_common_15 rfl rfl ?_
    refine Ev.lrem (pc' := 18) dX12_common_17 rfl h.1 ?_
    have h := h.2
    refine Ev.lstore (ls' := [(8, .long _), (4, .long _), (6, .long _)]) (pc' := 20) dX12_common_18 rfl (Nat.le_of_ble_eq_true rfl) rfl ?_
    refine Ev.lload (k := 2) (pc' := 22) dX12_common_20 rfl rfl ?_
    refine Ev.lstore (ls' := [(4, .long _), (8, .long _), (6, .long _)]) (pc' := 24) dX12_common_22 rfl (Nat.le_of_ble_eq_true rfl) rfl ?_
    refine Ev.lload (k := 1) (pc' := 26) dX12_common_24 rfl rfl ?_
    refine Ev.lstore (ls' := [(6, .long _), (4, .long _), (8, .long _)]) (pc' := 28) dX12_common_26 rfl (Nat.le_of_ble_eq_true rfl) rfl ?_
    refine Ev.goto (tgt := 6) dX12_common_28 rfl ?_
    exact Ev.sub [1, 0] rfl (hP6 _ _ _ _ h)
set_option maxRecDepth 10000 in
theorem okX12_common_h6 {G : Gx} {Q : Int64 → Ix → Lx → Prop} {v4 : Int64} {v6 : Int64} {I : Ix} {L : Lx} (h : wpX12_common_h6 Q v4 v6 I L) : Ef G MX12_common (qL Q) 6 [(4, .long v4), (6, .long v6)] [] I L := by
  unfold wpX12_common_h6 at h
  refine Lfp.ind (P := fun z => Ef G MX12_common (qL Q) 6 [(4, .long z.1), (6, .long z.2.1)] [] z.2.2.1 z.2.2.2) ?_ h
  intro z P' hP' h
  obtain ⟨v4, v6, I, L⟩ := z
  exact okX12_common_l6 (fun v4 v6 I L h9 => hP' (v4, v6, I, L) h9) h
set_option maxRecDepth 10000 in
theorem okX12_common {G : Gx} {a0 : Int64} {a2 : Int64} {I : Ix} {L : Lx} {Q : Int64 → Ix → Lx → Prop} (h : wpX12_common a0 a2 I L Q) : Mf G MX12_common [.long a0, .long a2] I L (qL Q) := by
  unfold wpX12_common at h
  refine Mf.of pn_RX12 (Nat.le_of_ble_eq_true rfl) ?_
  refine Ev.lload_n (k := 0) (pc' := 1) dX12_common_0 rfl rfl rfl ?_
  refine Ev.lstore (ls' := [(4, .long _), (0, .long _), (2, .long _)]) (pc' := 3) dX12_common_1 rfl (Nat.le_of_ble_eq_true rfl) rfl ?_
  refine Ev.lload_n (k := 2) (pc' := 4) dX12_common_3 rfl rfl rfl ?_
  refine Ev.lstore (ls' := [(6, .long _), (4, .long _), (0, .long _), (2, .long _)]) (pc' := 6) dX12_common_4 rfl (Nat.le_of_ble_eq_true rfl) rfl ?_
  exact Ev.sub [1, 0] rfl (okX12_common_h6 h)
def wpX12_chance_b21 (Q : Int32 → Ix → Lx → Prop) (v1 : Int32) (v2 : Int32) (v3 : Int32) (I : Ix) (L : Lx) : Prop := (v3 < 0 → Q (-1) I L) ∧ (¬ v3 < 0 → (v3 ≤ 1 → wpX12_chanceIn v1 v2 I L (fun r3 I1 L2 => (0 ≤ r3 → wpX12_common 6000 (r3.toInt64) I1 L2 (fun r6 I4 L5 => (¬ v3 = 0 → ¬ (r6.toInt32) = 0 ∧ Q (6000 / (r6.toInt32)) I4 L5) ∧ (v3 = 0 → ¬ (r6.toInt32) = 0 ∧ Q (r3 / (r6.toInt32)) I4 L5))) ∧ (¬ 0 ≤ r3 → Q (-1) I1 L2))) ∧ (¬ v3 ≤ 1 → Q (-1) I L))
def wpX12_chance (a1 : Int32) (a2 : Int32) (a3 : Int32) (I : Ix) (L : Lx) (Q : Int32 → Ix → Lx → Prop) : Prop := wpX12_isThing a1 I L (fun r3 I1 L2 => (r3 = false → Q (-1) I1 L2) ∧ (r3 = true → (a2 = (-1) → wpX12_chance_b21 Q a1 a2 a3 I1 L2) ∧ (¬ a2 = (-1) → wpX12_isPerson a2 I1 L2 (fun r6 I4 L5 => (r6 = false → Q (-1) I4 L5) ∧ (r6 = true → wpX12_chance_b21 Q a1 a2 a3 I4 L5)))))
set_option maxRecDepth 10000 in
theorem okX12_chance_b21 {G : Gx} {Q : Int32 → Ix → Lx → Prop} {v1 : Int32} {v2 : Int32} {v3 : Int32} {I : Ix} {L : Lx} (h : wpX12_chance_b21 Q v1 v2 v3 I L) : Ef G MX12_chance (qI Q) 21 [(0, .ref 120), (1, .int v1), (2, .int v2), (3, .int v3)] [] I L := by
  unfold wpX12_chance_b21 at h
  refine Ev.iload_n (k := 3) (pc' := 22) dX12_chance_21 rfl rfl rfl ?_
  refine Ev.if_lt (pc' := 25) (tgt := 30) dX12_chance_22 rfl rfl (fun hc => ?_) (fun hc => ?_)
  · have h := h.1 hc
    refine Ev.iconst (pc' := 31) dX12_chance_30 rfl ki_m1 ?_
    exact Ef.iret dX12_chance_31 rfl h
  · have h := h.2 hc
    refine Ev.iload_n (k := 3) (pc' := 26) dX12_chance_25 rfl rfl rfl ?_
    refine Ev.iconst (pc' := 27) dX12_chance_26 rfl ki_1 ?_
    refine Ev.icmp_le (pc' := 30) (tgt := 32) dX12_chance_27 rfl rfl (fun hc => ?_) (fun hc => ?_)
    · have h := h.1 hc
      refine Ev.aload_n (k := 0) (pc' := 33) dX12_chance_32 rfl rfl rfl ?_
      refine Ev.iload_n (k := 1) (pc' := 34) dX12_chance_33 rfl rfl rfl ?_
      refine Ev.iload_n (k := 2) (pc' := 35) dX12_chance_34 rfl rfl rfl ?_
      refine Ef.callVI [.int _, .int _] [] (pc' := 38) dX12_chance_35 rfl cv_RX12_596_X12_chanceIn ⟨Nat.le_of_ble_eq_true rfl, Nat.le_of_ble_eq_true rfl⟩ ob_120 rfl rfl rfl (Nat.le_of_ble_eq_true rfl) (okX12_chanceIn h) (fun r3 I1 L2 h => ?_)
      refine Ev.istore (ls' := [(4, .int _), (0, .ref _), (1, .int _), (2, .int _), (3, .int _)]) (pc' := 40) dX12_chance_38 rfl (Nat.le_of_ble_eq_true rfl) rfl ?_
      refine Ev.iload (k := 0) (pc' := 42) dX12_chance_40 rfl rfl ?_
      refine Ev.if_ge (pc' := 45) (tgt := 47) dX12_chance_42 rfl rfl (fun hc => ?_) (fun hc => ?_)
      · have h := h.1 hc
        refine Ev.ldc2 (pc' := 50) dX12_chance_47 rfl ll_RX12_599 ?_
        refine Ev.iload (k := 0) (pc' := 52) dX12_chance_50 rfl rfl ?_
        refine Ev.i2l (pc' := 53) dX12_chance_52 rfl ?_
        refine Ef.callSL [.long _, .long _] [] (pc' := 56) dX12_chance_53 rfl cv_RX12_601_X12_common ⟨Nat.le_of_ble_eq_true rfl, Nat.le_of_ble_eq_true rfl⟩ rfl rfl (Nat.le_of_ble_eq_true rfl) (okX12_common h) (fun r6 I4 L5 h => ?_)
        refine Ev.l2i (pc' := 57) dX12_chance_56 rfl ?_
        refine Ev.istore (ls' := [(5, .int _), (4, .int _), (0, .ref _), (1, .int _), (2, .int _), (3, .int _)]) (pc' := 59) dX12_chance_57 rfl (Nat.le_of_ble_eq_true rfl) rfl ?_
        refine Ev.iload_n (k := 5) (pc' := 60) dX12_chance_59 rfl rfl rfl ?_
        refine Ev.if_ne (pc' := 63) (tgt := 71) dX12_chance_60 rfl rfl (fun hc => ?_) (fun hc => ?_)
        · have h := h.1 hc
          refine Ev.sipush (pc' := 74) dX12_chance_71 rfl ks_6000 ?_
          refine Ev.iload (k := 0) (pc' := 76) dX12_chance_74 rfl rfl ?_
          refine Ev.idiv (pc' := 77) dX12_chance_76 rfl h.1 ?_
          have h := h.2
          exact Ef.iret dX12_chance_77 rfl h
        · have h := h.2 hc
          refine Ev.iload (k := 1) (pc' := 65) dX12_chance_63 rfl rfl ?_
          refine Ev.iload (k := 0) (pc' := 67) dX12_chance_65 rfl rfl ?_
          refine Ev.idiv (pc' := 68) dX12_chance_67 rfl h.1 ?_
          have h := h.2
          refine Ev.goto (tgt := 77) dX12_chance_68 rfl ?_
          exact Ef.iret dX12_chance_77 rfl h
      · have h := h.2 hc
        refine Ev.iconst (pc' := 46) dX12_chance_45 rfl ki_m1 ?_
        exact Ef.iret dX12_chance_46 rfl h
    · have h := h.2 hc
      refine Ev.iconst (pc' := 31) dX12_chance_30 rfl ki_m1 ?_
      exact Ef.iret dX12_chance_31 rfl h
set_option maxRecDepth 10000 in
theorem okX12_chance {G : Gx} {a1 : Int32} {a2 : Int32} {a3 : Int32} {I : Ix} {L : Lx} {Q : Int32 → Ix → Lx → Prop} (h : wpX12_chance a1 a2 a3 I L Q) : Mf G MX12_chance [.ref 120, .int a1, .int a2, .int a3] I L (qI Q) := by
  unfold wpX12_chance at h
  refine Mf.of pn_RX12 (Nat.le_of_ble_eq_true rfl) ?_
  refine Ev.aload_n (k := 0) (pc' := 1) dX12_chance_0 rfl rfl rfl ?_
  refine Ev.iload_n (k := 1) (pc' := 2) dX12_chance_1 rfl rfl rfl ?_
  refine Ef.callVZ [.int _] [] (pc' := 5) dX12_chance_2 rfl cv_RX12_565_X12_isThing ⟨Nat.le_of_ble_eq_true rfl, Nat.le_of_ble_eq_true rfl⟩ ob_120 rfl rfl rfl (Nat.le_of_ble_eq_true rfl) (okX12_isThing h) (fun r3 I1 L2 h => ?_)
  refine Ef.ifz_eq (pc' := 8) (tgt := 30) dX12_chance_5 rfl rfl (fun hc => ?_) (fun hc => ?_)
  · have h := h.1 hc
    refine Ev.iconst (pc' := 31) dX12_chance_30 rfl ki_m1 ?_
    exact Ef.iret dX12_chance_31 rfl h
  · have h := h.2 hc
    refine Ev.iload_n (k := 2) (pc' := 9) dX12_chance_8 rfl rfl rfl ?_
    refine Ev.iconst (pc' := 10) dX12_chance_9 rfl ki_m1 ?_
    refine Ev.icmp_eq (pc' := 13) (tgt := 21) dX12_chance_10 rfl rfl (fun hc => ?_) (fun hc => ?_)
    · have h := h.1 hc
      exact okX12_chance_b21 h
    · have h := h.2 hc
      refine Ev.aload_n (k := 0) (pc' := 14) dX12_chance_13 rfl rfl rfl ?_
      refine Ev.iload_n (k := 2) (pc' := 15) dX12_chance_14 rfl rfl rfl ?_
      refine Ef.callVZ [.int _] [] (pc' := 18) dX12_chance_15 rfl cv_RX12_568_X12_isPerson ⟨Nat.le_of_ble_eq_true rfl, Nat.le_of_ble_eq_true rfl⟩ ob_120 rfl rfl rfl (Nat.le_of_ble_eq_true rfl) (okX12_isPerson h) (fun r6 I4 L5 h => ?_)
      refine Ef.ifz_eq (pc' := 21) (tgt := 30) dX12_chance_18 rfl rfl (fun hc => ?_) (fun hc => ?_)
      · have h := h.1 hc
        refine Ev.iconst (pc' := 31) dX12_chance_30 rfl ki_m1 ?_
        exact Ef.iret dX12_chance_31 rfl h
      · have h := h.2 hc
        exact okX12_chance_b21 h
def wpX12_keeps_b81 (Q : Int32 → Ix → Lx → Prop) (v1 : Int32) (v2 : Int32) (v3 : Int32) (I : Ix) (L : Lx) : Prop := vp_in v1 10 ∧ ∀ I1 : Ix, I1 = pu I 146 v1.toNatClampNeg v2 → Q v3 I1 L
def wpX12_keeps_l31 (Q : Int32 → Ix → Lx → Prop) (P31 : Int32 → Int32 → Int32 → Int32 → Ix → Lx → Prop) (v1 : Int32) (v2 : Int32) (v3 : Int32) (v4 : Int32) (I : Ix) (L : Lx) : Prop := (v2 < v4 → wpX12_keeps_b81 Q v1 v2 v3 I L) ∧ (¬ v2 < v4 → (0 ≤ v3 → wpX12_keeps_b81 Q v1 v2 v3 I L) ∧ (¬ 0 ≤ v3 → vp_in v1 10 ∧ ∀ I1 : Ix, I1 = pu I 146 v1.toNatClampNeg (v2 - v4) → vp_in v1 10 ∧ wpX12_chanceIn v1 (I1 143 v1.toNatClampNeg) I1 L (fun r4 I2 L3 => (¬ r4 = 6000 → P31 v1 v2 (-1) (v4 + 1) I2 L3) ∧ (r4 = 6000 → P31 v1 v2 v4 (v4 + 1) I2 L3))))
def wpX12_keeps_h31 (Q : Int32 → Ix → Lx → Prop) (v1 : Int32) (v2 : Int32) (v3 : Int32) (v4 : Int32) (I : Ix) (L : Lx) : Prop := Lfp (X := Int32 × Int32 × Int32 × Int32 × Ix × Lx) (fun P z => wpX12_keeps_l31 Q (fun v1 v2 v3 v4 I L => P (v1, v2, v3, v4, I, L)) z.1 z.2.1 z.2.2.1 z.2.2.2.1 z.2.2.2.2.1 z.2.2.2.2.2) (v1, v2, v3, v4, I, L)
theorem wpX12_keeps_h31_fold {Q : Int32 → Ix → Lx → Prop} {v1 : Int32} {v2 : Int32} {v3 : Int32} {v4 : Int32} {I : Ix} {L : Lx} (h : wpX12_keeps_l31 Q (wpX12_keeps_h31 Q) v1 v2 v3 v4 I L) : wpX12_keeps_h31 Q v1 v2 v3 v4 I L := Lfp.fold h
def wpX12_keeps (a1 : Int32) (I : Ix) (L : Lx) (Q : Int32 → Ix → Lx → Prop) : Prop := wpX12_isThing a1 I L (fun r3 I1 L2 => (r3 = false → Q (-1) I1 L2) ∧ (r3 = true → vp_in a1 10 ∧ (0 ≤ (I1 143 a1.toNatClampNeg) → vp_in a1 10 ∧ wpX12_keeps_h31 Q a1 (I1 146 a1.toNatClampNeg) (-1) 0 I1 L2) ∧ (¬ 0 ≤ (I1 143 a1.toNatClampNeg) → Q (-1) I1 L2)))
set_option maxRecDepth 10000 in
theorem okX12_keeps_b81 {G : Gx} {Q : Int32 → Ix → Lx → Prop} {v1 : Int32} {v2 : Int32} {v3 : Int32} {I : Ix} {L : Lx} (h : wpX12_keeps_b81 Q v1 v2 v3 I L) : Ef G MX12_keeps (qI Q) 81 [(0, .ref 120), (1, .int v1), (2, .int v2), (3, .int v3)] [] I L := by
  unfold wpX12_keeps_b81 at h
  refine Ev.aload_n (k := 0) (pc' := 82) dX12_keeps_81 rfl rfl rfl ?_
  refine Ev.getR (pc' := 85) dX12_keeps_82 rfl fa_RX12_90 ob_120 fk_12_53 rf_120_53 ?_
  refine Ev.iload_n (k := 1) (pc' := 86) dX12_keeps_85 rfl rfl rfl ?_
  refine Ev.iload_n (k := 2) (pc' := 87) dX12_keeps_86 rfl rfl rfl ?_
  refine Ev.iastore (j := _) (pc' := 88) dX12_keeps_87 rfl ar_146 h.1 rfl (fun I1 eI1 => ?_)
  have h := h.2 I1 eI1
  refine Ev.iload_n (k := 3) (pc' := 89) dX12_keeps_88 rfl rfl rfl ?_
  exact Ef.iret dX12_keeps_89 rfl h
set_option maxRecDepth 10000 in
theorem okX12_keeps_l31 {G : Gx} {Q : Int32 → Ix → Lx → Prop} {P31 : Int32 → Int32 → Int32 → Int32 → Ix → Lx → Prop} (hP31 : ∀ (v1 : Int32) (v2 : Int32) (v3 : Int32) (v4 : Int32) (I : Ix) (L : Lx), P31 v1 v2 v3 v4 I L → Ef G MX12_keeps (qI Q) 31 [(0, .ref 120), (1, .int v1), (2, .int v2), (3, .int v3), (4, .int v4)] [] I L) {v1 : Int32} {v2 : Int32} {v3 : Int32} {v4 : Int32} {I : Ix} {L : Lx} (h : wpX12_keeps_l31 Q P31 v1 v2 v3 v4 I L) : Ef G MX12_keeps (qI Q) 31 [(0, .ref 120), (1, .int v1), (2, .int v2), (3, .int v3), (4, .int v4)] [] I L := by
  unfold wpX12_keeps_l31 at h
  refine Ev.iload (k := 4) (pc' := 33) dX12_keeps_31 rfl rfl ?_
  refine Ev.iload_n (k := 2) (pc' := 34) dX12_keeps_33 rfl rfl rfl ?_
  refine Ev.icmp_gt (pc' := 37) (tgt := 81) dX12_keeps_34 rfl rfl (fun hc => ?_) (fun hc => ?_)
  · have h := h.1 hc
    exact Ev.sub [0, 1, 2, 3] rfl (okX12_keeps_b81 h)
  · have h := h.2 hc
    refine Ev.iload_n (k := 3) (pc' := 38) dX12_keeps_37 rfl rfl rfl ?_
    refine Ev.if_ge (pc' := 41) (tgt := 81) dX12_keeps_38 rfl rfl (fun hc => ?_) (fun hc => ?_)
    · have h := h.1 hc
      exact Ev.sub [0, 1, 2, 3] rfl (okX12_keeps_b81 h)
    · have h := h.2 hc
      refine Ev.aload_n (k := 0) (pc' := 42) dX12_keeps_41 rfl rfl rfl ?_
      refine Ev.getR (pc' := 45) dX12_keeps_42 rfl fa_RX12_90 ob_120 fk_12_53 rf_120_53 ?_
      refine Ev.iload_n (k := 1) (pc' := 46) dX12_keeps_45 rfl rfl rfl ?_
      refine Ev.iload_n (k := 2) (pc' := 47) dX12_keeps_46 rfl rfl rfl ?_
      refine Ev.iload (k := 4) (pc' := 49) dX12_keeps_47 rfl rfl ?_
      refine Ev.isub (pc' := 50) dX12_keeps_49 rfl ?_
      refine Ev.iastore (j := _) (pc' := 51) dX12_keeps_50 rfl ar_146 h.1 rfl (fun I1 eI1 => ?_)
      have h := h.2 I1 eI1
      refine Ev.aload_n (k := 0) (pc' := 52) dX12_keeps_51 rfl rfl rfl ?_
      refine Ev.iload_n (k := 1) (pc' := 53) dX12_keeps_52 rfl rfl rfl ?_
      refine Ev.aload_n (k := 0) (pc' := 54) dX12_keeps_53 rfl rfl rfl ?_
      refine Ev.getR (pc' := 57) dX12_keeps_54 rfl fa_RX12_81 ob_120 fk_12_50 rf_120_50 ?_
      refine Ev.iload_n (k := 1) (pc' := 58) dX12_keeps_57 rfl rfl rfl ?_
      refine Ev.iaload (j := _) (pc' := 59) dX12_keeps_58 rfl ar_143 h.1 rfl ?_
      have h := h.2
      refine Ef.callVI [.int _, .int _] [] (pc' := 62) dX12_keeps_59 rfl cv_RX12_596_X12_chanceIn ⟨Nat.le_of_ble_eq_true rfl, Nat.le_of_ble_eq_true rfl⟩ ob_120 rfl rfl rfl (Nat.le_of_ble_eq_true rfl) (okX12_chanceIn h) (fun r4 I2 L3 h => ?_)
      refine Ev.sipush (pc' := 65) dX12_keeps_62 rfl ks_6000 ?_
      refine Ev.icmp_ne (pc' := 68) (tgt := 73) dX12_keeps_65 rfl rfl (fun hc => ?_) (fun hc => ?_)
      · have h := h.1 hc
        refine Ev.iconst (pc' := 74) dX12_keeps_73 rfl ki_m1 ?_
        refine Ev.istore_n (ls' := [(3, .int _), (0, .ref _), (1, .int _), (2, .int _), (4, .int _)]) (pc' := 75) dX12_keeps_74 rfl rfl (Nat.le_of_ble_eq_true rfl) rfl ?_
        refine Ev.iinc (k := 4) (v := _) (ls' := [(4, .int _), (3, .int _), (0, .ref _), (1, .int _), (2, .int _)]) (pc' := 78) dX12_keeps_75 rfl rfl (congrArg (_ + ·) ki_1) (Nat.le_of_ble_eq_true rfl) rfl ?_
        refine Ev.goto (tgt := 31) dX12_keeps_78 rfl ?_
        exact Ev.sub [2, 3, 4, 1, 0] rfl (hP31 _ _ _ _ _ _ h)
      · have h := h.2 hc
        refine Ev.iload (k := 4) (pc' := 70) dX12_keeps_68 rfl rfl ?_
        refine Ev.goto (tgt := 74) dX12_keeps_70 rfl ?_
        refine Ev.istore_n (ls' := [(3, .int _), (0, .ref _), (1, .int _), (2, .int _), (4, .int _)]) (pc' := 75) dX12_keeps_74 rfl rfl (Nat.le_of_ble_eq_true rfl) rfl ?_
        refine Ev.iinc (k := 4) (v := _) (ls' := [(4, .int _), (3, .int _), (0, .ref _), (1, .int _), (2, .int _)]) (pc' := 78) dX12_keeps_75 rfl rfl (congrArg (_ + ·) ki_1) (Nat.le_of_ble_eq_true rfl) rfl ?_
        refine Ev.goto (tgt := 31) dX12_keeps_78 rfl ?_
        exact Ev.sub [2, 3, 4, 1, 0] rfl (hP31 _ _ _ _ _ _ h)
set_option maxRecDepth 10000 in
theorem okX12_keeps_h31 {G : Gx} {Q : Int32 → Ix → Lx → Prop} {v1 : Int32} {v2 : Int32} {v3 : Int32} {v4 : Int32} {I : Ix} {L : Lx} (h : wpX12_keeps_h31 Q v1 v2 v3 v4 I L) : Ef G MX12_keeps (qI Q) 31 [(0, .ref 120), (1, .int v1), (2, .int v2), (3, .int v3), (4, .int v4)] [] I L := by
  unfold wpX12_keeps_h31 at h
  refine Lfp.ind (P := fun z => Ef G MX12_keeps (qI Q) 31 [(0, .ref 120), (1, .int z.1), (2, .int z.2.1), (3, .int z.2.2.1), (4, .int z.2.2.2.1)] [] z.2.2.2.2.1 z.2.2.2.2.2) ?_ h
  intro z P' hP' h
  obtain ⟨v1, v2, v3, v4, I, L⟩ := z
  exact okX12_keeps_l31 (fun v1 v2 v3 v4 I L h9 => hP' (v1, v2, v3, v4, I, L) h9) h
set_option maxRecDepth 10000 in
theorem okX12_keeps {G : Gx} {a1 : Int32} {I : Ix} {L : Lx} {Q : Int32 → Ix → Lx → Prop} (h : wpX12_keeps a1 I L Q) : Mf G MX12_keeps [.ref 120, .int a1] I L (qI Q) := by
  unfold wpX12_keeps at h
  refine Mf.of pn_RX12 (Nat.le_of_ble_eq_true rfl) ?_
  refine Ev.aload_n (k := 0) (pc' := 1) dX12_keeps_0 rfl rfl rfl ?_
  refine Ev.iload_n (k := 1) (pc' := 2) dX12_keeps_1 rfl rfl rfl ?_
  refine Ef.callVZ [.int _] [] (pc' := 5) dX12_keeps_2 rfl cv_RX12_565_X12_isThing ⟨Nat.le_of_ble_eq_true rfl, Nat.le_of_ble_eq_true rfl⟩ ob_120 rfl rfl rfl (Nat.le_of_ble_eq_true rfl) (okX12_isThing h) (fun r3 I1 L2 h => ?_)
  refine Ef.ifz_eq (pc' := 8) (tgt := 17) dX12_keeps_5 rfl rfl (fun hc => ?_) (fun hc => ?_)
  · have h := h.1 hc
    refine Ev.iconst (pc' := 18) dX12_keeps_17 rfl ki_m1 ?_
    exact Ef.iret dX12_keeps_18 rfl h
  · have h := h.2 hc
    refine Ev.aload_n (k := 0) (pc' := 9) dX12_keeps_8 rfl rfl rfl ?_
    refine Ev.getR (pc' := 12) dX12_keeps_9 rfl fa_RX12_81 ob_120 fk_12_50 rf_120_50 ?_
    refine Ev.iload_n (k := 1) (pc' := 13) dX12_keeps_12 rfl rfl rfl ?_
    refine Ev.iaload (j := _) (pc' := 14) dX12_keeps_13 rfl ar_143 h.1 rfl ?_
    have h := h.2
    refine Ev.if_ge (pc' := 17) (tgt := 19) dX12_keeps_14 rfl rfl (fun hc => ?_) (fun hc => ?_)
    · have h := h.1 hc
      refine Ev.aload_n (k := 0) (pc' := 20) dX12_keeps_19 rfl rfl rfl ?_
      refine Ev.getR (pc' := 23) dX12_keeps_20 rfl fa_RX12_90 ob_120 fk_12_53 rf_120_53 ?_
      refine Ev.iload_n (k := 1) (pc' := 24) dX12_keeps_23 rfl rfl rfl ?_
      refine Ev.iaload (j := _) (pc' := 25) dX12_keeps_24 rfl ar_146 h.1 rfl ?_
      have h := h.2
      refine Ev.istore_n (ls' := [(2, .int _), (0, .ref _), (1, .int _)]) (pc' := 26) dX12_keeps_25 rfl rfl (Nat.le_of_ble_eq_true rfl) rfl ?_
      refine Ev.iconst (pc' := 27) dX12_keeps_26 rfl ki_m1 ?_
      refine Ev.istore_n (ls' := [(3, .int _), (2, .int _), (0, .ref _), (1, .int _)]) (pc' := 28) dX12_keeps_27 rfl rfl (Nat.le_of_ble_eq_true rfl) rfl ?_
      refine Ev.iconst (pc' := 29) dX12_keeps_28 rfl ki_0 ?_
      refine Ev.istore (ls' := [(4, .int _), (3, .int _), (2, .int _), (0, .ref _), (1, .int _)]) (pc' := 31) dX12_keeps_29 rfl (Nat.le_of_ble_eq_true rfl) rfl ?_
      exact Ev.sub [3, 4, 2, 1, 0] rfl (okX12_keeps_h31 h)
    · have h := h.2 hc
      refine Ev.iconst (pc' := 18) dX12_keeps_17 rfl ki_m1 ?_
      exact Ef.iret dX12_keeps_18 rfl h
def wpX12_isTooMany_b34 (Q : Bool → Ix → Lx → Prop) (v1 : Int32) (I : Ix) (L : Lx) : Prop := (v1 ≤ 20000 → Q false I L) ∧ (¬ v1 ≤ 20000 → Q true I L)
def wpX12_isTooMany_l4 (Q : Bool → Ix → Lx → Prop) (P4 : Int32 → Int32 → Ix → Lx → Prop) (v1 : Int32) (v2 : Int32) (I : Ix) (L : Lx) : Prop := ((I 120 45) ≤ v2 → wpX12_isTooMany_b34 Q v1 I L) ∧ (¬ (I 120 45) ≤ v2 → (20000 < v1 → wpX12_isTooMany_b34 Q v1 I L) ∧ (¬ 20000 < v1 → P4 (v1 * ((I 120 44) + 1)) (v2 + 1) I L))
def wpX12_isTooMany_h4 (Q : Bool → Ix → Lx → Prop) (v1 : Int32) (v2 : Int32) (I : Ix) (L : Lx) : Prop := Lfp (X := Int32 × Int32 × Ix × Lx) (fun P z => wpX12_isTooMany_l4 Q (fun v1 v2 I L => P (v1, v2, I, L)) z.1 z.2.1 z.2.2.1 z.2.2.2) (v1, v2, I, L)
theorem wpX12_isTooMany_h4_fold {Q : Bool → Ix → Lx → Prop} {v1 : Int32} {v2 : Int32} {I : Ix} {L : Lx} (h : wpX12_isTooMany_l4 Q (wpX12_isTooMany_h4 Q) v1 v2 I L) : wpX12_isTooMany_h4 Q v1 v2 I L := Lfp.fold h
def wpX12_isTooMany (I : Ix) (L : Lx) (Q : Bool → Ix → Lx → Prop) : Prop := wpX12_isTooMany_h4 Q 1 0 I L
set_option maxRecDepth 10000 in
theorem okX12_isTooMany_b34 {G : Gx} {Q : Bool → Ix → Lx → Prop} {v1 : Int32} {I : Ix} {L : Lx} (h : wpX12_isTooMany_b34 Q v1 I L) : Ef G MX12_isTooMany (qZ Q) 34 [(1, .int v1)] [] I L := by
  unfold wpX12_isTooMany_b34 at h
  refine Ev.iload_n (k := 0) (pc' := 35) dX12_isTooMany_34 rfl rfl rfl ?_
  refine Ev.sipush (pc' := 38) dX12_isTooMany_35 rfl ks_20000 ?_
  refine Ev.icmp_le (pc' := 41) (tgt := 45) dX12_isTooMany_38 rfl rfl (fun hc => ?_) (fun hc => ?_)
  · have h := h.1 hc
    refine Ev.iconst (pc' := 46) dX12_isTooMany_45 rfl ki_0 ?_
    exact Ef.zret (b := false) dX12_isTooMany_46 rfl h
  · have h := h.2 hc
    refine Ev.iconst (pc' := 42) dX12_isTooMany_41 rfl ki_1 ?_
    refine Ev.goto (tgt := 46) dX12_isTooMany_42 rfl ?_
    exact Ef.zret (b := true) dX12_isTooMany_46 rfl h
set_option maxRecDepth 10000 in
theorem okX12_isTooMany_l4 {G : Gx} {Q : Bool → Ix → Lx → Prop} {P4 : Int32 → Int32 → Ix → Lx → Prop} (hP4 : ∀ (v1 : Int32) (v2 : Int32) (I : Ix) (L : Lx), P4 v1 v2 I L → Ef G MX12_isTooMany (qZ Q) 4 [(0, .ref 120), (1, .int v1), (2, .int v2)] [] I L) {v1 : Int32} {v2 : Int32} {I : Ix} {L : Lx} (h : wpX12_isTooMany_l4 Q P4 v1 v2 I L) : Ef G MX12_isTooMany (qZ Q) 4 [(0, .ref 120), (1, .int v1), (2, .int v2)] [] I L := by
  unfold wpX12_isTooMany_l4 at h
  refine Ev.iload_n (k := 2) (pc' := 5) dX12_isTooMany_4 rfl rfl rfl ?_
  refine Ev.aload_n (k := 0) (pc' := 6) dX12_isTooMany_5 rfl rfl rfl ?_
  refine Ev.getI (pc' := 9) dX12_isTooMany_6 rfl fa_RX12_440 ob_120 fk_12_45 ?_
  refine Ev.icmp_ge (pc' := 12) (tgt := 34) dX12_isTooMany_9 rfl rfl (fun hc => ?_) (fun hc => ?_)
  · have h := h.1 hc
    exact Ev.sub [1] rfl (okX12_isTooMany_b34 h)
  · have h := h.2 hc
    refine Ev.iload_n (k := 1) (pc' := 13) dX12_isTooMany_12 rfl rfl rfl ?_
    refine Ev.sipush (pc' := 16) dX12_isTooMany_13 rfl ks_20000 ?_
    refine Ev.icmp_gt (pc' := 19) (tgt := 34) dX12_isTooMany_16 rfl rfl (fun hc => ?_) (fun hc => ?_)
    · have h := h.1 hc
      exact Ev.sub [1] rfl (okX12_isTooMany_b34 h)
    · have h := h.2 hc
      refine Ev.iload_n (k := 1) (pc' := 20) dX12_isTooMany_19 rfl rfl rfl ?_
      refine Ev.aload_n (k := 0) (pc' := 21) dX12_isTooMany_20 rfl rfl rfl ?_
      refine Ev.getI (pc' := 24) dX12_isTooMany_21 rfl fa_RX12_437 ob_120 fk_12_44 ?_
      refine Ev.iconst (pc' := 25) dX12_isTooMany_24 rfl ki_1 ?_
      refine Ev.iadd (pc' := 26) dX12_isTooMany_25 rfl ?_
      refine Ev.imul (pc' := 27) dX12_isTooMany_26 rfl ?_
      refine Ev.istore_n (ls' := [(1, .int _), (0, .ref _), (2, .int _)]) (pc' := 28) dX12_isTooMany_27 rfl rfl (Nat.le_of_ble_eq_true rfl) rfl ?_
      refine Ev.iinc (k := 2) (v := _) (ls' := [(2, .int _), (1, .int _), (0, .ref _)]) (pc' := 31) dX12_isTooMany_28 rfl rfl (congrArg (_ + ·) ki_1) (Nat.le_of_ble_eq_true rfl) rfl ?_
      refine Ev.goto (tgt := 4) dX12_isTooMany_31 rfl ?_
      exact Ev.sub [2, 1, 0] rfl (hP4 _ _ _ _ h)
set_option maxRecDepth 10000 in
theorem okX12_isTooMany_h4 {G : Gx} {Q : Bool → Ix → Lx → Prop} {v1 : Int32} {v2 : Int32} {I : Ix} {L : Lx} (h : wpX12_isTooMany_h4 Q v1 v2 I L) : Ef G MX12_isTooMany (qZ Q) 4 [(0, .ref 120), (1, .int v1), (2, .int v2)] [] I L := by
  unfold wpX12_isTooMany_h4 at h
  refine Lfp.ind (P := fun z => Ef G MX12_isTooMany (qZ Q) 4 [(0, .ref 120), (1, .int z.1), (2, .int z.2.1)] [] z.2.2.1 z.2.2.2) ?_ h
  intro z P' hP' h
  obtain ⟨v1, v2, I, L⟩ := z
  exact okX12_isTooMany_l4 (fun v1 v2 I L h9 => hP' (v1, v2, I, L) h9) h
set_option maxRecDepth 10000 in
theorem okX12_isTooMany {G : Gx} {I : Ix} {L : Lx} {Q : Bool → Ix → Lx → Prop} (h : wpX12_isTooMany I L Q) : Mf G MX12_isTooMany [.ref 120] I L (qZ Q) := by
  unfold wpX12_isTooMany at h
  refine Mf.of pn_RX12 (Nat.le_of_ble_eq_true rfl) ?_
  refine Ev.iconst (pc' := 1) dX12_isTooMany_0 rfl ki_1 ?_
  refine Ev.istore_n (ls' := [(1, .int _), (0, .ref _)]) (pc' := 2) dX12_isTooMany_1 rfl rfl (Nat.le_of_ble_eq_true rfl) rfl ?_
  refine Ev.iconst (pc' := 3) dX12_isTooMany_2 rfl ki_0 ?_
  refine Ev.istore_n (ls' := [(2, .int _), (1, .int _), (0, .ref _)]) (pc' := 4) dX12_isTooMany_3 rfl rfl (Nat.le_of_ble_eq_true rfl) rfl ?_
  exact Ev.sub [2, 1, 0] rfl (okX12_isTooMany_h4 h)
def wpX12_lostOf (a1 : Int32) (I : Ix) (L : Lx) (Q : Int32 → Ix → Lx → Prop) : Prop := wpX12_standersOf a1 I L (fun r3 I1 L2 => (¬ r3 = 0 → wpX12_takersOf a1 I1 L2 (fun r6 I4 L5 => (¬ r6 = 0 → wpX12_ones r3 I4 L5 (fun r9 I7 L8 => Q (r9 - 1) I7 L8)) ∧ (r6 = 0 → wpX12_ones r3 I4 L5 (fun r12 I10 L11 => vp_in a1 10 ∧ ((I10 143 a1.toNatClampNeg) < 0 → Q (r12 - 0) I10 L11) ∧ (¬ (I10 143 a1.toNatClampNeg) < 0 → vp_in a1 10 ∧ (¬ ((jshr r3 (I10 143 a1.toNatClampNeg)) &&& 1) = 1 → Q (r12 - 0) I10 L11) ∧ (((jshr r3 (I10 143 a1.toNatClampNeg)) &&& 1) = 1 → Q (r12 - 1) I10 L11)))))) ∧ (r3 = 0 → Q 0 I1 L2))
set_option maxRecDepth 10000 in
theorem okX12_lostOf {G : Gx} {a1 : Int32} {I : Ix} {L : Lx} {Q : Int32 → Ix → Lx → Prop} (h : wpX12_lostOf a1 I L Q) : Mf G MX12_lostOf [.ref 120, .int a1] I L (qI Q) := by
  unfold wpX12_lostOf at h
  refine Mf.of pn_RX12 (Nat.le_of_ble_eq_true rfl) ?_
  refine Ev.aload_n (k := 0) (pc' := 1) dX12_lostOf_0 rfl rfl rfl ?_
  refine Ev.iload_n (k := 1) (pc' := 2) dX12_lostOf_1 rfl rfl rfl ?_
  refine Ef.callVI [.int _] [] (pc' := 5) dX12_lostOf_2 rfl cv_RX12_518_X12_standersOf ⟨Nat.le_of_ble_eq_true rfl, Nat.le_of_ble_eq_true rfl⟩ ob_120 rfl rfl rfl (Nat.le_of_ble_eq_true rfl) (okX12_standersOf h) (fun r3 I1 L2 h => ?_)
  refine Ev.istore_n (ls' := [(2, .int _), (0, .ref _), (1, .int _)]) (pc' := 6) dX12_lostOf_5 rfl rfl (Nat.le_of_ble_eq_true rfl) rfl ?_
  refine Ev.iload_n (k := 0) (pc' := 7) dX12_lostOf_6 rfl rfl rfl ?_
  refine Ev.if_ne (pc' := 10) (tgt := 12) dX12_lostOf_7 rfl rfl (fun hc => ?_) (fun hc => ?_)
  · have h := h.1 hc
    refine Ev.aload_n (k := 1) (pc' := 13) dX12_lostOf_12 rfl rfl rfl ?_
    refine Ev.iload_n (k := 2) (pc' := 14) dX12_lostOf_13 rfl rfl rfl ?_
    refine Ef.callVI [.int _] [] (pc' := 17) dX12_lostOf_14 rfl cv_RX12_524_X12_takersOf ⟨Nat.le_of_ble_eq_true rfl, Nat.le_of_ble_eq_true rfl⟩ ob_120 rfl rfl rfl (Nat.le_of_ble_eq_true rfl) (okX12_takersOf h) (fun r6 I4 L5 h => ?_)
    refine Ev.istore_n (ls' := [(3, .int _), (2, .int _), (0, .ref _), (1, .int _)]) (pc' := 18) dX12_lostOf_17 rfl rfl (Nat.le_of_ble_eq_true rfl) rfl ?_
    refine Ev.iload_n (k := 0) (pc' := 19) dX12_lostOf_18 rfl rfl rfl ?_
    refine Ev.if_ne (pc' := 22) (tgt := 56) dX12_lostOf_19 rfl rfl (fun hc => ?_) (fun hc => ?_)
    · have h := h.1 hc
      refine Ev.iload_n (k := 1) (pc' := 57) dX12_lostOf_56 rfl rfl rfl ?_
      refine Ef.callSI [.int _] [] (pc' := 60) dX12_lostOf_57 rfl cv_RX12_521_X12_ones ⟨Nat.le_of_ble_eq_true rfl, Nat.le_of_ble_eq_true rfl⟩ rfl rfl (Nat.le_of_ble_eq_true rfl) (okX12_ones h) (fun r9 I7 L8 h => ?_)
      refine Ev.iconst (pc' := 61) dX12_lostOf_60 rfl ki_1 ?_
      refine Ev.isub (pc' := 62) dX12_lostOf_61 rfl ?_
      exact Ef.iret dX12_lostOf_62 rfl h
    · have h := h.2 hc
      refine Ev.iload_n (k := 1) (pc' := 23) dX12_lostOf_22 rfl rfl rfl ?_
      refine Ef.callSI [.int _] [] (pc' := 26) dX12_lostOf_23 rfl cv_RX12_521_X12_ones ⟨Nat.le_of_ble_eq_true rfl, Nat.le_of_ble_eq_true rfl⟩ rfl rfl (Nat.le_of_ble_eq_true rfl) (okX12_ones h) (fun r12 I10 L11 h => ?_)
      refine Ev.aload_n (k := 2) (pc' := 27) dX12_lostOf_26 rfl rfl rfl ?_
      refine Ev.getR (pc' := 30) dX12_lostOf_27 rfl fa_RX12_81 ob_120 fk_12_50 rf_120_50 ?_
      refine Ev.iload_n (k := 3) (pc' := 31) dX12_lostOf_30 rfl rfl rfl ?_
      refine Ev.iaload (j := _) (pc' := 32) dX12_lostOf_31 rfl ar_143 h.1 rfl ?_
      have h := h.2
      refine Ev.if_lt (pc' := 35) (tgt := 53) dX12_lostOf_32 rfl rfl (fun hc => ?_) (fun hc => ?_)
      · have h := h.1 hc
        refine Ev.iconst (pc' := 54) dX12_lostOf_53 rfl ki_0 ?_
        refine Ev.isub (pc' := 55) dX12_lostOf_54 rfl ?_
        exact Ef.iret dX12_lostOf_55 rfl h
      · have h := h.2 hc
        refine Ev.iload_n (k := 1) (pc' := 36) dX12_lostOf_35 rfl rfl rfl ?_
        refine Ev.aload_n (k := 2) (pc' := 37) dX12_lostOf_36 rfl rfl rfl ?_
        refine Ev.getR (pc' := 40) dX12_lostOf_37 rfl fa_RX12_81 ob_120 fk_12_50 rf_120_50 ?_
        refine Ev.iload_n (k := 3) (pc' := 41) dX12_lostOf_40 rfl rfl rfl ?_
        refine Ev.iaload (j := _) (pc' := 42) dX12_lostOf_41 rfl ar_143 h.1 rfl ?_
        have h := h.2
        refine Ev.ishr (pc' := 43) dX12_lostOf_42 rfl ?_
        refine Ev.iconst (pc' := 44) dX12_lostOf_43 rfl ki_1 ?_
        refine Ev.iand (pc' := 45) dX12_lostOf_44 rfl ?_
        refine Ev.iconst (pc' := 46) dX12_lostOf_45 rfl ki_1 ?_
        refine Ev.icmp_ne (pc' := 49) (tgt := 53) dX12_lostOf_46 rfl rfl (fun hc => ?_) (fun hc => ?_)
        · have h := h.1 hc
          refine Ev.iconst (pc' := 54) dX12_lostOf_53 rfl ki_0 ?_
          refine Ev.isub (pc' := 55) dX12_lostOf_54 rfl ?_
          exact Ef.iret dX12_lostOf_55 rfl h
        · have h := h.2 hc
          refine Ev.iconst (pc' := 50) dX12_lostOf_49 rfl ki_1 ?_
          refine Ev.goto (tgt := 54) dX12_lostOf_50 rfl ?_
          refine Ev.isub (pc' := 55) dX12_lostOf_54 rfl ?_
          exact Ef.iret dX12_lostOf_55 rfl h
  · have h := h.2 hc
    refine Ev.iconst (pc' := 11) dX12_lostOf_10 rfl ki_0 ?_
    exact Ef.iret dX12_lostOf_11 rfl h
def wpX12_payOf (a1 : Int32) (I : Ix) (L : Lx) (Q : Int32 → Ix → Lx → Prop) : Prop := vp_in a1 6 ∧ (0 ≤ (I 159 a1.toNatClampNeg) → wpX12_takersOf (I 159 a1.toNatClampNeg) I L (fun r3 I1 L2 => (¬ ((jshr r3 a1) &&& 1) = 0 → vp_in (I 159 a1.toNatClampNeg) 10 ∧ vp_in (I 159 a1.toNatClampNeg) 10 ∧ (¬ (I1 120 46) = 2 → wpX12_firstBy r3 (I1 120 46) I1 L2 (fun r6 I4 L5 => (¬ r6 = a1 → Q 0 I4 L5) ∧ (r6 = a1 → Q (((I1 146 (I 159 a1.toNatClampNeg).toNatClampNeg) * (I1 144 (I 159 a1.toNatClampNeg).toNatClampNeg)) / 100) I4 L5))) ∧ ((I1 120 46) = 2 → wpX12_ones r3 I1 L2 (fun r9 I7 L8 => ¬ r9 = 0 ∧ Q ((((I1 146 (I 159 a1.toNatClampNeg).toNatClampNeg) * (I1 144 (I 159 a1.toNatClampNeg).toNatClampNeg)) / 100) / r9) I7 L8))) ∧ (((jshr r3 a1) &&& 1) = 0 → Q 0 I1 L2))) ∧ (¬ 0 ≤ (I 159 a1.toNatClampNeg) → Q 0 I L)
set_option maxRecDepth 10000 in
theorem okX12_payOf {G : Gx} {a1 : Int32} {I : Ix} {L : Lx} {Q : Int32 → Ix → Lx → Prop} (h : wpX12_payOf a1 I L Q) : Mf G MX12_payOf [.ref 120, .int a1] I L (qI Q) := by
  unfold wpX12_payOf at h
  refine Mf.of pn_RX12 (Nat.le_of_ble_eq_true rfl) ?_
  refine Ev.aload_n (k := 0) (pc' := 1) dX12_payOf_0 rfl rfl rfl ?_
  refine Ev.getR (pc' := 4) dX12_payOf_1 rfl fa_RX12_133 ob_120 fk_12_73 rf_120_73 ?_
  refine Ev.iload_n (k := 1) (pc' := 5) dX12_payOf_4 rfl rfl rfl ?_
  refine Ev.iaload (j := _) (pc' := 6) dX12_payOf_5 rfl ar_159 h.1 rfl ?_
  have h := h.2
  refine Ev.istore_n (ls' := [(2, .int _), (0, .ref _), (1, .int _)]) (pc' := 7) dX12_payOf_6 rfl rfl (Nat.le_of_ble_eq_true rfl) rfl ?_
  refine Ev.iload_n (k := 0) (pc' := 8) dX12_payOf_7 rfl rfl rfl ?_
  refine Ev.if_ge (pc' := 11) (tgt := 13) dX12_payOf_8 rfl rfl (fun hc => ?_) (fun hc => ?_)
  · have h := h.1 hc
    refine Ev.aload_n (k := 1) (pc' := 14) dX12_payOf_13 rfl rfl rfl ?_
    refine Ev.iload_n (k := 0) (pc' := 15) dX12_payOf_14 rfl rfl rfl ?_
    refine Ef.callVI [.int _] [] (pc' := 18) dX12_payOf_15 rfl cv_RX12_524_X12_takersOf ⟨Nat.le_of_ble_eq_true rfl, Nat.le_of_ble_eq_true rfl⟩ ob_120 rfl rfl rfl (Nat.le_of_ble_eq_true rfl) (okX12_takersOf h) (fun r3 I1 L2 h => ?_)
    refine Ev.istore_n (ls' := [(3, .int _), (2, .int _), (0, .ref _), (1, .int _)]) (pc' := 19) dX12_payOf_18 rfl rfl (Nat.le_of_ble_eq_true rfl) rfl ?_
    refine Ev.iload_n (k := 0) (pc' := 20) dX12_payOf_19 rfl rfl rfl ?_
    refine Ev.iload_n (k := 3) (pc' := 21) dX12_payOf_20 rfl rfl rfl ?_
    refine Ev.ishr (pc' := 22) dX12_payOf_21 rfl ?_
    refine Ev.iconst (pc' := 23) dX12_payOf_22 rfl ki_1 ?_
    refine Ev.iand (pc' := 24) dX12_payOf_23 rfl ?_
    refine Ev.if_ne (pc' := 27) (tgt := 29) dX12_payOf_24 rfl rfl (fun hc => ?_) (fun hc => ?_)
    · have h := h.1 hc
      refine Ev.aload_n (k := 2) (pc' := 30) dX12_payOf_29 rfl rfl rfl ?_
      refine Ev.getR (pc' := 33) dX12_payOf_30 rfl fa_RX12_90 ob_120 fk_12_53 rf_120_53 ?_
      refine Ev.iload_n (k := 1) (pc' := 34) dX12_payOf_33 rfl rfl rfl ?_
      refine Ev.iaload (j := _) (pc' := 35) dX12_payOf_34 rfl ar_146 h.1 rfl ?_
      have h := h.2
      refine Ev.aload_n (k := 2) (pc' := 36) dX12_payOf_35 rfl rfl rfl ?_
      refine Ev.getR (pc' := 39) dX12_payOf_36 rfl fa_RX12_84 ob_120 fk_12_51 rf_120_51 ?_
      refine Ev.iload_n (k := 1) (pc' := 40) dX12_payOf_39 rfl rfl rfl ?_
      refine Ev.iaload (j := _) (pc' := 41) dX12_payOf_40 rfl ar_144 h.1 rfl ?_
      have h := h.2
      refine Ev.imul (pc' := 42) dX12_payOf_41 rfl ?_
      refine Ev.bipush (pc' := 44) dX12_payOf_42 rfl kb_100 ?_
      refine Ev.idiv (pc' := 45) dX12_payOf_44 rfl (by decide) ?_
      refine Ev.istore (ls' := [(4, .int _), (3, .int _), (2, .int _), (0, .ref _), (1, .int _)]) (pc' := 47) dX12_payOf_45 rfl (Nat.le_of_ble_eq_true rfl) rfl ?_
      refine Ev.aload_n (k := 3) (pc' := 48) dX12_payOf_47 rfl rfl rfl ?_
      refine Ev.getI (pc' := 51) dX12_payOf_48 rfl fa_RX12_443 ob_120 fk_12_46 ?_
      refine Ev.iconst (pc' := 52) dX12_payOf_51 rfl ki_2 ?_
      refine Ev.icmp_ne (pc' := 55) (tgt := 63) dX12_payOf_52 rfl rfl (fun hc => ?_) (fun hc => ?_)
      · have h := h.1 hc
        refine Ev.aload_n (k := 3) (pc' := 64) dX12_payOf_63 rfl rfl rfl ?_
        refine Ev.iload_n (k := 1) (pc' := 65) dX12_payOf_64 rfl rfl rfl ?_
        refine Ev.aload_n (k := 3) (pc' := 66) dX12_payOf_65 rfl rfl rfl ?_
        refine Ev.getI (pc' := 69) dX12_payOf_66 rfl fa_RX12_443 ob_120 fk_12_46 ?_
        refine Ef.callVI [.int _, .int _] [] (pc' := 72) dX12_payOf_69 rfl cv_RX12_527_X12_firstBy ⟨Nat.le_of_ble_eq_true rfl, Nat.le_of_ble_eq_true rfl⟩ ob_120 rfl rfl rfl (Nat.le_of_ble_eq_true rfl) (okX12_firstBy h) (fun r6 I4 L5 h => ?_)
        refine Ev.iload_n (k := 4) (pc' := 73) dX12_payOf_72 rfl rfl rfl ?_
        refine Ev.icmp_ne (pc' := 76) (tgt := 81) dX12_payOf_73 rfl rfl (fun hc => ?_) (fun hc => ?_)
        · have h := h.1 hc
          refine Ev.iconst (pc' := 82) dX12_payOf_81 rfl ki_0 ?_
          exact Ef.iret dX12_payOf_82 rfl h
        · have h := h.2 hc
          refine Ev.iload (k := 0) (pc' := 78) dX12_payOf_76 rfl rfl ?_
          refine Ev.goto (tgt := 82) dX12_payOf_78 rfl ?_
          exact Ef.iret dX12_payOf_82 rfl h
      · have h := h.2 hc
        refine Ev.iload (k := 0) (pc' := 57) dX12_payOf_55 rfl rfl ?_
        refine Ev.iload_n (k := 1) (pc' := 58) dX12_payOf_57 rfl rfl rfl ?_
        refine Ef.callSI [.int _] [.int _] (pc' := 61) dX12_payOf_58 rfl cv_RX12_521_X12_ones ⟨Nat.le_of_ble_eq_true rfl, Nat.le_of_ble_eq_true rfl⟩ rfl rfl (Nat.le_of_ble_eq_true rfl) (okX12_ones h) (fun r9 I7 L8 h => ?_)
        refine Ev.idiv (pc' := 62) dX12_payOf_61 rfl h.1 ?_
        have h := h.2
        exact Ef.iret dX12_payOf_62 rfl h
    · have h := h.2 hc
      refine Ev.iconst (pc' := 28) dX12_payOf_27 rfl ki_0 ?_
      exact Ef.iret dX12_payOf_28 rfl h
  · have h := h.2 hc
    refine Ev.iconst (pc' := 12) dX12_payOf_11 rfl ki_0 ?_
    exact Ef.iret dX12_payOf_12 rfl h
def wpX12_choose_b57 (Q : Ix → Lx → Prop) (t1 : Int32) (t2 : Int32) (I : Ix) (L : Lx) : Prop := vp_in t1 6 ∧ ∀ I1 : Ix, I1 = pu I 160 t1.toNatClampNeg t2 → Q I1 L
def wpX12_choose_b18 (Q : Ix → Lx → Prop) (v1 : Int32) (t1 : Int32) (t2 : Int32) (I : Ix) (L : Lx) : Prop := vp_in t1 6 ∧ ∀ I1 : Ix, I1 = pu I 159 t1.toNatClampNeg t2 → vp_in v1 6 ∧ (0 ≤ (I1 159 v1.toNatClampNeg) → vp_in v1 6 ∧ vp_in v1 6 ∧ wpX12_placeOf (I1 159 v1.toNatClampNeg) I1 L (fun r4 I2 L3 => wpX12_farOf (I1 147 v1.toNatClampNeg) r4 I2 L3 (fun r7 I5 L6 => wpX12_choose_b57 Q v1 r7 I5 L6))) ∧ (¬ 0 ≤ (I1 159 v1.toNatClampNeg) → wpX12_choose_b57 Q v1 0 I1 L)
def wpX12_choose (a1 : Int32) (a2 : Int32) (I : Ix) (L : Lx) (Q : Ix → Lx → Prop) : Prop := (¬ a2 = (I 120 44) → wpX12_choose_b18 Q a1 a1 a2 I L) ∧ (a2 = (I 120 44) → wpX12_choose_b18 Q a1 a1 (-1) I L)
set_option maxRecDepth 10000 in
theorem okX12_choose_b57 {G : Gx} {Q : Ix → Lx → Prop} {t1 : Int32} {t2 : Int32} {I : Ix} {L : Lx} (h : wpX12_choose_b57 Q t1 t2 I L) : Ef G MX12_choose (qV Q) 57 [] [.int t2, .int t1, .ref 160] I L := by
  unfold wpX12_choose_b57 at h
  refine Ev.iastore (j := _) (pc' := 58) dX12_choose_57 rfl ar_160 h.1 rfl (fun I1 eI1 => ?_)
  have h := h.2 I1 eI1
  exact Ef.vret dX12_choose_58 rfl h
set_option maxRecDepth 10000 in
theorem okX12_choose_b18 {G : Gx} {Q : Ix → Lx → Prop} {v1 : Int32} {t1 : Int32} {t2 : Int32} {I : Ix} {L : Lx} (h : wpX12_choose_b18 Q v1 t1 t2 I L) : Ef G MX12_choose (qV Q) 18 [(0, .ref 120), (1, .int v1)] [.int t2, .int t1, .ref 159] I L := by
  unfold wpX12_choose_b18 at h
  refine Ev.iastore (j := _) (pc' := 19) dX12_choose_18 rfl ar_159 h.1 rfl (fun I1 eI1 => ?_)
  have h := h.2 I1 eI1
  refine Ev.aload_n (k := 0) (pc' := 20) dX12_choose_19 rfl rfl rfl ?_
  refine Ev.getR (pc' := 23) dX12_choose_20 rfl fa_RX12_136 ob_120 fk_12_74 rf_120_74 ?_
  refine Ev.iload_n (k := 1) (pc' := 24) dX12_choose_23 rfl rfl rfl ?_
  refine Ev.aload_n (k := 0) (pc' := 25) dX12_choose_24 rfl rfl rfl ?_
  refine Ev.getR (pc' := 28) dX12_choose_25 rfl fa_RX12_133 ob_120 fk_12_73 rf_120_73 ?_
  refine Ev.iload_n (k := 1) (pc' := 29) dX12_choose_28 rfl rfl rfl ?_
  refine Ev.iaload (j := _) (pc' := 30) dX12_choose_29 rfl ar_159 h.1 rfl ?_
  have h := h.2
  refine Ev.if_ge (pc' := 33) (tgt := 37) dX12_choose_30 rfl rfl (fun hc => ?_) (fun hc => ?_)
  · have h := h.1 hc
    refine Ev.aload_n (k := 0) (pc' := 38) dX12_choose_37 rfl rfl rfl ?_
    refine Ev.aload_n (k := 0) (pc' := 39) dX12_choose_38 rfl rfl rfl ?_
    refine Ev.getR (pc' := 42) dX12_choose_39 rfl fa_RX12_93 ob_120 fk_12_54 rf_120_54 ?_
    refine Ev.iload_n (k := 1) (pc' := 43) dX12_choose_42 rfl rfl rfl ?_
    refine Ev.iaload (j := _) (pc' := 44) dX12_choose_43 rfl ar_147 h.1 rfl ?_
    have h := h.2
    refine Ev.aload_n (k := 0) (pc' := 45) dX12_choose_44 rfl rfl rfl ?_
    refine Ev.aload_n (k := 0) (pc' := 46) dX12_choose_45 rfl rfl rfl ?_
    refine Ev.getR (pc' := 49) dX12_choose_46 rfl fa_RX12_133 ob_120 fk_12_73 rf_120_73 ?_
    refine Ev.iload_n (k := 1) (pc' := 50) dX12_choose_49 rfl rfl rfl ?_
    refine Ev.iaload (j := _) (pc' := 51) dX12_choose_50 rfl ar_159 h.1 rfl ?_
    have h := h.2
    refine Ef.callVI [.int _] [.int _, .ref _, .int _, .ref _] (pc' := 54) dX12_choose_51 rfl cv_RX12_502_X12_placeOf ⟨Nat.le_of_ble_eq_true rfl, Nat.le_of_ble_eq_true rfl⟩ ob_120 rfl rfl rfl (Nat.le_of_ble_eq_true rfl) (okX12_placeOf h) (fun r4 I2 L3 h => ?_)
    refine Ef.callVI [.int _, .int _] [.int _, .ref _] (pc' := 57) dX12_choose_54 rfl cv_RX12_461_X12_farOf ⟨Nat.le_of_ble_eq_true rfl, Nat.le_of_ble_eq_true rfl⟩ ob_120 rfl rfl rfl (Nat.le_of_ble_eq_true rfl) (okX12_farOf h) (fun r7 I5 L6 h => ?_)
    exact Ev.sub [] rfl (okX12_choose_b57 h)
  · have h := h.2 hc
    refine Ev.iconst (pc' := 34) dX12_choose_33 rfl ki_0 ?_
    refine Ev.goto (tgt := 57) dX12_choose_34 rfl ?_
    exact Ev.sub [] rfl (okX12_choose_b57 h)
set_option maxRecDepth 10000 in
theorem okX12_choose {G : Gx} {a1 : Int32} {a2 : Int32} {I : Ix} {L : Lx} {Q : Ix → Lx → Prop} (h : wpX12_choose a1 a2 I L Q) : Mf G MX12_choose [.ref 120, .int a1, .int a2] I L (qV Q) := by
  unfold wpX12_choose at h
  refine Mf.of pn_RX12 (Nat.le_of_ble_eq_true rfl) ?_
  refine Ev.aload_n (k := 0) (pc' := 1) dX12_choose_0 rfl rfl rfl ?_
  refine Ev.getR (pc' := 4) dX12_choose_1 rfl fa_RX12_133 ob_120 fk_12_73 rf_120_73 ?_
  refine Ev.iload_n (k := 1) (pc' := 5) dX12_choose_4 rfl rfl rfl ?_
  refine Ev.iload_n (k := 2) (pc' := 6) dX12_choose_5 rfl rfl rfl ?_
  refine Ev.aload_n (k := 0) (pc' := 7) dX12_choose_6 rfl rfl rfl ?_
  refine Ev.getI (pc' := 10) dX12_choose_7 rfl fa_RX12_437 ob_120 fk_12_44 ?_
  refine Ev.icmp_ne (pc' := 13) (tgt := 17) dX12_choose_10 rfl rfl (fun hc => ?_) (fun hc => ?_)
  · have h := h.1 hc
    refine Ev.iload_n (k := 2) (pc' := 18) dX12_choose_17 rfl rfl rfl ?_
    exact Ev.sub [0, 1] rfl (okX12_choose_b18 h)
  · have h := h.2 hc
    refine Ev.iconst (pc' := 14) dX12_choose_13 rfl ki_m1 ?_
    refine Ev.goto (tgt := 18) dX12_choose_14 rfl ?_
    exact Ev.sub [0, 1] rfl (okX12_choose_b18 h)
def wpX12_mayStand_b48 (Q : Bool → Ix → Lx → Prop) (I : Ix) (L : Lx) : Prop := Q true I L
def wpX12_mayStand (a1 : Int32) (a2 : Int32) (I : Ix) (L : Lx) (Q : Bool → Ix → Lx → Prop) : Prop := (a2 = (I 120 44) → wpX12_mayStand_b48 Q I L) ∧ (¬ a2 = (I 120 44) → vp_in a2 10 ∧ (¬ (I 149 a2.toNatClampNeg) = 0 → Q false I L) ∧ ((I 149 a2.toNatClampNeg) = 0 → vp_in a1 6 ∧ wpX12_placeOf a2 I L (fun r3 I1 L2 => wpX12_farOf (I 147 a1.toNatClampNeg) r3 I1 L2 (fun r6 I4 L5 => wpX12_placeOf a2 I4 L5 (fun r9 I7 L8 => vp_in r9 8 ∧ ((60 + (I7 138 r9.toNatClampNeg)) < r6 → Q false I7 L8) ∧ (¬ (60 + (I7 138 r9.toNatClampNeg)) < r6 → wpX12_mayStand_b48 Q I7 L8))))))
set_option maxRecDepth 10000 in
theorem okX12_mayStand_b48 {G : Gx} {Q : Bool → Ix → Lx → Prop} {I : Ix} {L : Lx} (h : wpX12_mayStand_b48 Q I L) : Ef G MX12_mayStand (qZ Q) 48 [] [] I L := by
  unfold wpX12_mayStand_b48 at h
  refine Ev.iconst (pc' := 49) dX12_mayStand_48 rfl ki_1 ?_
  refine Ev.goto (tgt := 53) dX12_mayStand_49 rfl ?_
  exact Ef.zret (b := true) dX12_mayStand_53 rfl h
set_option maxRecDepth 10000 in
theorem okX12_mayStand {G : Gx} {a1 : Int32} {a2 : Int32} {I : Ix} {L : Lx} {Q : Bool → Ix → Lx → Prop} (h : wpX12_mayStand a1 a2 I L Q) : Mf G MX12_mayStand [.ref 120, .int a1, .int a2] I L (qZ Q) := by
  unfold wpX12_mayStand at h
  refine Mf.of pn_RX12 (Nat.le_of_ble_eq_true rfl) ?_
  refine Ev.iload_n (k := 2) (pc' := 1) dX12_mayStand_0 rfl rfl rfl ?_
  refine Ev.aload_n (k := 0) (pc' := 2) dX12_mayStand_1 rfl rfl rfl ?_
  refine Ev.getI (pc' := 5) dX12_mayStand_2 rfl fa_RX12_437 ob_120 fk_12_44 ?_
  refine Ev.icmp_eq (pc' := 8) (tgt := 48) dX12_mayStand_5 rfl rfl (fun hc => ?_) (fun hc => ?_)
  · have h := h.1 hc
    exact Ev.sub [] rfl (okX12_mayStand_b48 h)
  · have h := h.2 hc
    refine Ev.aload_n (k := 0) (pc' := 9) dX12_mayStand_8 rfl rfl rfl ?_
    refine Ev.getR (pc' := 12) dX12_mayStand_9 rfl fa_RX12_99 ob_120 fk_12_56 rf_120_56 ?_
    refine Ev.iload_n (k := 2) (pc' := 13) dX12_mayStand_12 rfl rfl rfl ?_
    refine Ev.zaload (j := _) (pc' := 14) dX12_mayStand_13 rfl ar_149 h.1 rfl ?_
    have h := h.2
    refine Ev.if_ne (pc' := 17) (tgt := 52) dX12_mayStand_14 rfl rfl (fun hc => ?_) (fun hc => ?_)
    · have h := h.1 hc
      refine Ev.iconst (pc' := 53) dX12_mayStand_52 rfl ki_0 ?_
      exact Ef.zret (b := false) dX12_mayStand_53 rfl h
    · have h := h.2 hc
      refine Ev.aload_n (k := 0) (pc' := 18) dX12_mayStand_17 rfl rfl rfl ?_
      refine Ev.aload_n (k := 0) (pc' := 19) dX12_mayStand_18 rfl rfl rfl ?_
      refine Ev.getR (pc' := 22) dX12_mayStand_19 rfl fa_RX12_93 ob_120 fk_12_54 rf_120_54 ?_
      refine Ev.iload_n (k := 1) (pc' := 23) dX12_mayStand_22 rfl rfl rfl ?_
      refine Ev.iaload (j := _) (pc' := 24) dX12_mayStand_23 rfl ar_147 h.1 rfl ?_
      have h := h.2
      refine Ev.aload_n (k := 0) (pc' := 25) dX12_mayStand_24 rfl rfl rfl ?_
      refine Ev.iload_n (k := 2) (pc' := 26) dX12_mayStand_25 rfl rfl rfl ?_
      refine Ef.callVI [.int _] [.int _, .ref _] (pc' := 29) dX12_mayStand_26 rfl cv_RX12_502_X12_placeOf ⟨Nat.le_of_ble_eq_true rfl, Nat.le_of_ble_eq_true rfl⟩ ob_120 rfl rfl rfl (Nat.le_of_ble_eq_true rfl) (okX12_placeOf h) (fun r3 I1 L2 h => ?_)
      refine Ef.callVI [.int _, .int _] [] (pc' := 32) dX12_mayStand_29 rfl cv_RX12_461_X12_farOf ⟨Nat.le_of_ble_eq_true rfl, Nat.le_of_ble_eq_true rfl⟩ ob_120 rfl rfl rfl (Nat.le_of_ble_eq_true rfl) (okX12_farOf h) (fun r6 I4 L5 h => ?_)
      refine Ev.bipush (pc' := 34) dX12_mayStand_32 rfl kb_60 ?_
      refine Ev.aload_n (k := 0) (pc' := 35) dX12_mayStand_34 rfl rfl rfl ?_
      refine Ev.getR (pc' := 38) dX12_mayStand_35 rfl fa_RX12_66 ob_120 fk_12_31 rf_120_31 ?_
      refine Ev.aload_n (k := 0) (pc' := 39) dX12_mayStand_38 rfl rfl rfl ?_
      refine Ev.iload_n (k := 2) (pc' := 40) dX12_mayStand_39 rfl rfl rfl ?_
      refine Ef.callVI [.int _] [.ref _, .int _, .int _] (pc' := 43) dX12_mayStand_40 rfl cv_RX12_502_X12_placeOf ⟨Nat.le_of_ble_eq_true rfl, Nat.le_of_ble_eq_true rfl⟩ ob_120 rfl rfl rfl (Nat.le_of_ble_eq_true rfl) (okX12_placeOf h) (fun r9 I7 L8 h => ?_)
      refine Ev.iaload (j := _) (pc' := 44) dX12_mayStand_43 rfl ar_138 h.1 rfl ?_
      have h := h.2
      refine Ev.iadd (pc' := 45) dX12_mayStand_44 rfl ?_
      refine Ev.icmp_gt (pc' := 48) (tgt := 52) dX12_mayStand_45 rfl rfl (fun hc => ?_) (fun hc => ?_)
      · have h := h.1 hc
        refine Ev.iconst (pc' := 53) dX12_mayStand_52 rfl ki_0 ?_
        exact Ef.zret (b := false) dX12_mayStand_53 rfl h
      · have h := h.2 hc
        exact Ev.sub [] rfl (okX12_mayStand_b48 h)
def wpX12_layRow_b57 (Q : Bool → Ix → Lx → Prop) (P12 : Int32 → Int32 → Int32 → Ix → Lx → Prop) (v2 : Int32) (v4 : Int32) (t0 : Int32) (I : Ix) (L : Lx) : Prop := ¬ ((I 120 44) + 1) = 0 ∧ P12 (v2 / ((I 120 44) + 1)) t0 (v4 + (-1)) I L
def wpX12_layRow_b56 (Q : Bool → Ix → Lx → Prop) (P12 : Int32 → Int32 → Int32 → Ix → Lx → Prop) (v2 : Int32) (v4 : Int32) (I : Ix) (L : Lx) : Prop := wpX12_layRow_b57 Q P12 v2 v4 0 I L
def wpX12_layRow_l12 (Q : Bool → Ix → Lx → Prop) (P12 : Int32 → Int32 → Int32 → Ix → Lx → Prop) (v2 : Int32) (v3 : Int32) (v4 : Int32) (I : Ix) (L : Lx) : Prop := (v4 < 0 → ∃ b, v3 = b2i b ∧ Q b I L) ∧ (¬ v4 < 0 → ¬ ((I 120 44) + 1) = 0 ∧ wpX12_choose v4 (jrem v2 ((I 120 44) + 1)) I L (fun I1 L2 => (v3 = 0 → wpX12_layRow_b56 Q P12 v2 v4 I1 L2) ∧ (¬ v3 = 0 → ¬ ((I1 120 44) + 1) = 0 ∧ wpX12_mayStand v4 (jrem v2 ((I1 120 44) + 1)) I1 L2 (fun r5 I3 L4 => (r5 = false → wpX12_layRow_b56 Q P12 v2 v4 I3 L4) ∧ (r5 = true → wpX12_layRow_b57 Q P12 v2 v4 1 I3 L4)))))
def wpX12_layRow_h12 (Q : Bool → Ix → Lx → Prop) (v2 : Int32) (v3 : Int32) (v4 : Int32) (I : Ix) (L : Lx) : Prop := Lfp (X := Int32 × Int32 × Int32 × Ix × Lx) (fun P z => wpX12_layRow_l12 Q (fun v2 v3 v4 I L => P (v2, v3, v4, I, L)) z.1 z.2.1 z.2.2.1 z.2.2.2.1 z.2.2.2.2) (v2, v3, v4, I, L)
theorem wpX12_layRow_h12_fold {Q : Bool → Ix → Lx → Prop} {v2 : Int32} {v3 : Int32} {v4 : Int32} {I : Ix} {L : Lx} (h : wpX12_layRow_l12 Q (wpX12_layRow_h12 Q) v2 v3 v4 I L) : wpX12_layRow_h12 Q v2 v3 v4 I L := Lfp.fold h
def wpX12_layRow (a1 : Int32) (I : Ix) (L : Lx) (Q : Bool → Ix → Lx → Prop) : Prop := wpX12_layRow_h12 Q a1 1 ((I 120 45) - 1) I L
set_option maxRecDepth 10000 in
theorem okX12_layRow_b57 {G : Gx} {Q : Bool → Ix → Lx → Prop} {P12 : Int32 → Int32 → Int32 → Ix → Lx → Prop} (hP12 : ∀ (v2 : Int32) (v3 : Int32) (v4 : Int32) (I : Ix) (L : Lx), P12 v2 v3 v4 I L → Ef G MX12_layRow (qZ Q) 12 [(0, .ref 120), (2, .int v2), (3, .int v3), (4, .int v4)] [] I L) {v2 : Int32} {v4 : Int32} {t0 : Int32} {I : Ix} {L : Lx} (h : wpX12_layRow_b57 Q P12 v2 v4 t0 I L) : Ef G MX12_layRow (qZ Q) 57 [(0, .ref 120), (2, .int v2), (4, .int v4)] [.int t0] I L := by
  unfold wpX12_layRow_b57 at h
  refine Ev.istore_n (ls' := [(3, .int _), (0, .ref _), (2, .int _), (4, .int _)]) (pc' := 58) dX12_layRow_57 rfl rfl (Nat.le_of_ble_eq_true rfl) rfl ?_
  refine Ev.iload_n (k := 2) (pc' := 59) dX12_layRow_58 rfl rfl rfl ?_
  refine Ev.aload_n (k := 1) (pc' := 60) dX12_layRow_59 rfl rfl rfl ?_
  refine Ev.getI (pc' := 63) dX12_layRow_60 rfl fa_RX12_437 ob_120 fk_12_44 ?_
  refine Ev.iconst (pc' := 64) dX12_layRow_63 rfl ki_1 ?_
  refine Ev.iadd (pc' := 65) dX12_layRow_64 rfl ?_
  refine Ev.idiv (pc' := 66) dX12_layRow_65 rfl h.1 ?_
  have h := h.2
  refine Ev.istore_n (ls' := [(2, .int _), (3, .int _), (0, .ref _), (4, .int _)]) (pc' := 67) dX12_layRow_66 rfl rfl (Nat.le_of_ble_eq_true rfl) rfl ?_
  refine Ev.iinc (k := 3) (v := _) (ls' := [(4, .int _), (2, .int _), (3, .int _), (0, .ref _)]) (pc' := 70) dX12_layRow_67 rfl rfl (congrArg (_ + ·) ki_m1) (Nat.le_of_ble_eq_true rfl) rfl ?_
  refine Ev.goto (tgt := 12) dX12_layRow_70 rfl ?_
  exact Ev.sub [3, 1, 2, 0] rfl (hP12 _ _ _ _ _ h)
set_option maxRecDepth 10000 in
theorem okX12_layRow_b56 {G : Gx} {Q : Bool → Ix → Lx → Prop} {P12 : Int32 → Int32 → Int32 → Ix → Lx → Prop} (hP12 : ∀ (v2 : Int32) (v3 : Int32) (v4 : Int32) (I : Ix) (L : Lx), P12 v2 v3 v4 I L → Ef G MX12_layRow (qZ Q) 12 [(0, .ref 120), (2, .int v2), (3, .int v3), (4, .int v4)] [] I L) {v2 : Int32} {v4 : Int32} {I : Ix} {L : Lx} (h : wpX12_layRow_b56 Q P12 v2 v4 I L) : Ef G MX12_layRow (qZ Q) 56 [(0, .ref 120), (2, .int v2), (4, .int v4)] [] I L := by
  unfold wpX12_layRow_b56 at h
  refine Ev.iconst (pc' := 57) dX12_layRow_56 rfl ki_0 ?_
  exact okX12_layRow_b57 hP12 h
set_option maxRecDepth 10000 in
theorem okX12_layRow_l12 {G : Gx} {Q : Bool → Ix → Lx → Prop} {P12 : Int32 → Int32 → Int32 → Ix → Lx → Prop} (hP12 : ∀ (v2 : Int32) (v3 : Int32) (v4 : Int32) (I : Ix) (L : Lx), P12 v2 v3 v4 I L → Ef G MX12_layRow (qZ Q) 12 [(0, .ref 120), (2, .int v2), (3, .int v3), (4, .int v4)] [] I L) {v2 : Int32} {v3 : Int32} {v4 : Int32} {I : Ix} {L : Lx} (h : wpX12_layRow_l12 Q P12 v2 v3 v4 I L) : Ef G MX12_layRow (qZ Q) 12 [(0, .ref 120), (2, .int v2), (3, .int v3), (4, .int v4)] [] I L := by
  unfold wpX12_layRow_l12 at h
  refine Ev.iload (k := 3) (pc' := 14) dX12_layRow_12 rfl rfl ?_
  refine Ev.if_lt (pc' := 17) (tgt := 73) dX12_layRow_14 rfl rfl (fun hc => ?_) (fun hc => ?_)
  · have h := h.1 hc
    refine Ev.iload_n (k := 2) (pc' := 74) dX12_layRow_73 rfl rfl rfl ?_
    exact Ef.zretx dX12_layRow_74 rfl h
  · have h := h.2 hc
    refine Ev.aload_n (k := 0) (pc' := 18) dX12_layRow_17 rfl rfl rfl ?_
    refine Ev.iload (k := 3) (pc' := 20) dX12_layRow_18 rfl rfl ?_
    refine Ev.iload_n (k := 1) (pc' := 21) dX12_layRow_20 rfl rfl rfl ?_
    refine Ev.aload_n (k := 0) (pc' := 22) dX12_layRow_21 rfl rfl rfl ?_
    refine Ev.getI (pc' := 25) dX12_layRow_22 rfl fa_RX12_437 ob_120 fk_12_44 ?_
    refine Ev.iconst (pc' := 26) dX12_layRow_25 rfl ki_1 ?_
    refine Ev.iadd (pc' := 27) dX12_layRow_26 rfl ?_
    refine Ev.irem (pc' := 28) dX12_layRow_27 rfl h.1 ?_
    have h := h.2
    refine Ef.callVV [.int _, .int _] [] (pc' := 31) dX12_layRow_28 rfl cv_RX12_612_X12_choose ⟨Nat.le_of_ble_eq_true rfl, Nat.le_of_ble_eq_true rfl⟩ ob_120 rfl rfl rfl (Nat.le_of_ble_eq_true rfl) (okX12_choose h) (fun I1 L2 h => ?_)
    refine Ev.iload_n (k := 2) (pc' := 32) dX12_layRow_31 rfl rfl rfl ?_
    refine Ev.if_eq (pc' := 35) (tgt := 56) dX12_layRow_32 rfl rfl (fun hc => ?_) (fun hc => ?_)
    · have h := h.1 hc
      exact Ev.sub [0, 1, 3] rfl (okX12_layRow_b56 hP12 h)
    · have h := h.2 hc
      refine Ev.aload_n (k := 0) (pc' := 36) dX12_layRow_35 rfl rfl rfl ?_
      refine Ev.iload (k := 3) (pc' := 38) dX12_layRow_36 rfl rfl ?_
      refine Ev.iload_n (k := 1) (pc' := 39) dX12_layRow_38 rfl rfl rfl ?_
      refine Ev.aload_n (k := 0) (pc' := 40) dX12_layRow_39 rfl rfl rfl ?_
      refine Ev.getI (pc' := 43) dX12_layRow_40 rfl fa_RX12_437 ob_120 fk_12_44 ?_
      refine Ev.iconst (pc' := 44) dX12_layRow_43 rfl ki_1 ?_
      refine Ev.iadd (pc' := 45) dX12_layRow_44 rfl ?_
      refine Ev.irem (pc' := 46) dX12_layRow_45 rfl h.1 ?_
      have h := h.2
      refine Ef.callVZ [.int _, .int _] [] (pc' := 49) dX12_layRow_46 rfl cv_RX12_608_X12_mayStand ⟨Nat.le_of_ble_eq_true rfl, Nat.le_of_ble_eq_true rfl⟩ ob_120 rfl rfl rfl (Nat.le_of_ble_eq_true rfl) (okX12_mayStand h) (fun r5 I3 L4 h => ?_)
      refine Ef.ifz_eq (pc' := 52) (tgt := 56) dX12_layRow_49 rfl rfl (fun hc => ?_) (fun hc => ?_)
      · have h := h.1 hc
        exact Ev.sub [0, 1, 3] rfl (okX12_layRow_b56 hP12 h)
      · have h := h.2 hc
        refine Ev.iconst (pc' := 53) dX12_layRow_52 rfl ki_1 ?_
        refine Ev.goto (tgt := 57) dX12_layRow_53 rfl ?_
        exact Ev.sub [0, 1, 3] rfl (okX12_layRow_b57 hP12 h)
set_option maxRecDepth 10000 in
theorem okX12_layRow_h12 {G : Gx} {Q : Bool → Ix → Lx → Prop} {v2 : Int32} {v3 : Int32} {v4 : Int32} {I : Ix} {L : Lx} (h : wpX12_layRow_h12 Q v2 v3 v4 I L) : Ef G MX12_layRow (qZ Q) 12 [(0, .ref 120), (2, .int v2), (3, .int v3), (4, .int v4)] [] I L := by
  unfold wpX12_layRow_h12 at h
  refine Lfp.ind (P := fun z => Ef G MX12_layRow (qZ Q) 12 [(0, .ref 120), (2, .int z.1), (3, .int z.2.1), (4, .int z.2.2.1)] [] z.2.2.2.1 z.2.2.2.2) ?_ h
  intro z P' hP' h
  obtain ⟨v2, v3, v4, I, L⟩ := z
  exact okX12_layRow_l12 (fun v2 v3 v4 I L h9 => hP' (v2, v3, v4, I, L) h9) h
set_option maxRecDepth 10000 in
theorem okX12_layRow {G : Gx} {a1 : Int32} {I : Ix} {L : Lx} {Q : Bool → Ix → Lx → Prop} (h : wpX12_layRow a1 I L Q) : Mf G MX12_layRow [.ref 120, .int a1] I L (qZ Q) := by
  unfold wpX12_layRow at h
  refine Mf.of pn_RX12 (Nat.le_of_ble_eq_true rfl) ?_
  refine Ev.iload_n (k := 1) (pc' := 1) dX12_layRow_0 rfl rfl rfl ?_
  refine Ev.istore_n (ls' := [(2, .int _), (0, .ref _), (1, .int _)]) (pc' := 2) dX12_layRow_1 rfl rfl (Nat.le_of_ble_eq_true rfl) rfl ?_
  refine Ev.iconst (pc' := 3) dX12_layRow_2 rfl ki_1 ?_
  refine Ev.istore_n (ls' := [(3, .int _), (2, .int _), (0, .ref _), (1, .int _)]) (pc' := 4) dX12_layRow_3 rfl rfl (Nat.le_of_ble_eq_true rfl) rfl ?_
  refine Ev.aload_n (k := 2) (pc' := 5) dX12_layRow_4 rfl rfl rfl ?_
  refine Ev.getI (pc' := 8) dX12_layRow_5 rfl fa_RX12_440 ob_120 fk_12_45 ?_
  refine Ev.iconst (pc' := 9) dX12_layRow_8 rfl ki_1 ?_
  refine Ev.isub (pc' := 10) dX12_layRow_9 rfl ?_
  refine Ev.istore (ls' := [(4, .int _), (3, .int _), (2, .int _), (0, .ref _), (1, .int _)]) (pc' := 12) dX12_layRow_10 rfl (Nat.le_of_ble_eq_true rfl) rfl ?_
  exact Ev.sub [3, 2, 1, 0] rfl (okX12_layRow_h12 h)
def wpX12_isAtRest_b101 (Q : Bool → Ix → Lx → Prop) (P2 : Int32 → Ix → Lx → Prop) (v1 : Int32) (v3 : Int32) (v4 : Int32) (I : Ix) (L : Lx) : Prop := wpX12_choose v1 v3 I L (fun I1 L2 => (¬ v4 = 0 → P2 (v1 + 1) I1 L2) ∧ (v4 = 0 → Q false I1 L2))
def wpX12_isAtRest_l45 (Q : Bool → Ix → Lx → Prop) (P2 : Int32 → Ix → Lx → Prop) (P45 : Int32 → Int32 → Int32 → Int32 → Int32 → Ix → Lx → Prop) (v1 : Int32) (v2 : Int32) (v3 : Int32) (v4 : Int32) (v5 : Int32) (I : Ix) (L : Lx) : Prop := ((I 120 44) < v5 → wpX12_isAtRest_b101 Q P2 v1 v3 v4 I L) ∧ (¬ (I 120 44) < v5 → (v4 = 0 → wpX12_isAtRest_b101 Q P2 v1 v3 v4 I L) ∧ (¬ v4 = 0 → wpX12_mayStand v1 v5 I L (fun r3 I1 L2 => (r3 = true → wpX12_choose v1 v5 I1 L2 (fun I4 L5 => wpX12_payOf v1 I4 L5 (fun r8 I6 L7 => (v2 < r8 → P45 v1 v2 v3 0 (v5 + 1) I6 L7) ∧ (¬ v2 < r8 → P45 v1 v2 v3 1 (v5 + 1) I6 L7)))) ∧ (r3 = false → P45 v1 v2 v3 v4 (v5 + 1) I1 L2))))
def wpX12_isAtRest_h45 (Q : Bool → Ix → Lx → Prop) (P2 : Int32 → Ix → Lx → Prop) (v1 : Int32) (v2 : Int32) (v3 : Int32) (v4 : Int32) (v5 : Int32) (I : Ix) (L : Lx) : Prop := Lfp (X := Int32 × Int32 × Int32 × Int32 × Int32 × Ix × Lx) (fun P z => wpX12_isAtRest_l45 Q P2 (fun v1 v2 v3 v4 v5 I L => P (v1, v2, v3, v4, v5, I, L)) z.1 z.2.1 z.2.2.1 z.2.2.2.1 z.2.2.2.2.1 z.2.2.2.2.2.1 z.2.2.2.2.2.2) (v1, v2, v3, v4, v5, I, L)
theorem wpX12_isAtRest_h45_fold {Q : Bool → Ix → Lx → Prop} {P2 : Int32 → Ix → Lx → Prop} {v1 : Int32} {v2 : Int32} {v3 : Int32} {v4 : Int32} {v5 : Int32} {I : Ix} {L : Lx} (h : wpX12_isAtRest_l45 Q P2 (wpX12_isAtRest_h45 Q P2) v1 v2 v3 v4 v5 I L) : wpX12_isAtRest_h45 Q P2 v1 v2 v3 v4 v5 I L := Lfp.fold h
def wpX12_isAtRest_l2 (Q : Bool → Ix → Lx → Prop) (P2 : Int32 → Ix → Lx → Prop) (v1 : Int32) (I : Ix) (L : Lx) : Prop := ((I 120 45) ≤ v1 → Q true I L) ∧ (¬ (I 120 45) ≤ v1 → wpX12_payOf v1 I L (fun r3 I1 L2 => vp_in v1 6 ∧ (0 ≤ (I1 159 v1.toNatClampNeg) → vp_in v1 6 ∧ wpX12_isAtRest_h45 Q P2 v1 r3 (I1 159 v1.toNatClampNeg) 1 0 I1 L2) ∧ (¬ 0 ≤ (I1 159 v1.toNatClampNeg) → wpX12_isAtRest_h45 Q P2 v1 r3 (I1 120 44) 1 0 I1 L2)))
def wpX12_isAtRest_h2 (Q : Bool → Ix → Lx → Prop) (v1 : Int32) (I : Ix) (L : Lx) : Prop := Lfp (X := Int32 × Ix × Lx) (fun P z => wpX12_isAtRest_l2 Q (fun v1 I L => P (v1, I, L)) z.1 z.2.1 z.2.2) (v1, I, L)
theorem wpX12_isAtRest_h2_fold {Q : Bool → Ix → Lx → Prop} {v1 : Int32} {I : Ix} {L : Lx} (h : wpX12_isAtRest_l2 Q (wpX12_isAtRest_h2 Q) v1 I L) : wpX12_isAtRest_h2 Q v1 I L := Lfp.fold h
def wpX12_isAtRest (I : Ix) (L : Lx) (Q : Bool → Ix → Lx → Prop) : Prop := wpX12_isAtRest_h2 Q 0 I L
set_option maxRecDepth 10000 in
theorem okX12_isAtRest_b101 {G : Gx} {Q : Bool → Ix → Lx → Prop} {P2 : Int32 → Ix → Lx → Prop} (hP2 : ∀ (v1 : Int32) (I : Ix) (L : Lx), P2 v1 I L → Ef G MX12_isAtRest (qZ Q) 2 [(0, .ref 120), (1, .int v1)] [] I L) {v1 : Int32} {v3 : Int32} {v4 : Int32} {I : Ix} {L : Lx} (h : wpX12_isAtRest_b101 Q P2 v1 v3 v4 I L) : Ef G MX12_isAtRest (qZ Q) 101 [(0, .ref 120), (1, .int v1), (3, .int v3), (4, .int v4)] [] I L := by
  unfold wpX12_isAtRest_b101 at h
  refine Ev.aload_n (k := 0) (pc' := 102) dX12_isAtRest_101 rfl rfl rfl ?_
  refine Ev.iload_n (k := 1) (pc' := 103) dX12_isAtRest_102 rfl rfl rfl ?_
  refine Ev.iload_n (k := 2) (pc' := 104) dX12_isAtRest_103 rfl rfl rfl ?_
  refine Ef.callVV [.int _, .int _] [] (pc' := 107) dX12_isAtRest_104 rfl cv_RX12_612_X12_choose ⟨Nat.le_of_ble_eq_true rfl, Nat.le_of_ble_eq_true rfl⟩ ob_120 rfl rfl rfl (Nat.le_of_ble_eq_true rfl) (okX12_choose h) (fun I1 L2 h => ?_)
  refine Ev.iload (k := 3) (pc' := 109) dX12_isAtRest_107 rfl rfl ?_
  refine Ev.if_ne (pc' := 112) (tgt := 114) dX12_isAtRest_109 rfl rfl (fun hc => ?_) (fun hc => ?_)
  · have h := h.1 hc
    refine Ev.iinc (k := 1) (v := _) (ls' := [(1, .int _), (0, .ref _), (3, .int _), (4, .int _)]) (pc' := 117) dX12_isAtRest_114 rfl rfl (congrArg (_ + ·) ki_1) (Nat.le_of_ble_eq_true rfl) rfl ?_
    refine Ev.goto (tgt := 2) dX12_isAtRest_117 rfl ?_
    exact Ev.sub [1, 0] rfl (hP2 _ _ _ h)
  · have h := h.2 hc
    refine Ev.iconst (pc' := 113) dX12_isAtRest_112 rfl ki_0 ?_
    exact Ef.zret (b := false) dX12_isAtRest_113 rfl h
set_option maxRecDepth 10000 in
theorem okX12_isAtRest_l45 {G : Gx} {Q : Bool → Ix → Lx → Prop} {P2 : Int32 → Ix → Lx → Prop} {P45 : Int32 → Int32 → Int32 → Int32 → Int32 → Ix → Lx → Prop} (hP2 : ∀ (v1 : Int32) (I : Ix) (L : Lx), P2 v1 I L → Ef G MX12_isAtRest (qZ Q) 2 [(0, .ref 120), (1, .int v1)] [] I L) (hP45 : ∀ (v1 : Int32) (v2 : Int32) (v3 : Int32) (v4 : Int32) (v5 : Int32) (I : Ix) (L : Lx), P45 v1 v2 v3 v4 v5 I L → Ef G MX12_isAtRest (qZ Q) 45 [(0, .ref 120), (1, .int v1), (2, .int v2), (3, .int v3), (4, .int v4), (5, .int v5)] [] I L) {v1 : Int32} {v2 : Int32} {v3 : Int32} {v4 : Int32} {v5 : Int32} {I : Ix} {L : Lx} (h : wpX12_isAtRest_l45 Q P2 P45 v1 v2 v3 v4 v5 I L) : Ef G MX12_isAtRest (qZ Q) 45 [(0, .ref 120), (1, .int v1), (2, .int v2), (3, .int v3), (4, .int v4), (5, .int v5)] [] I L := by
  unfold wpX12_isAtRest_l45 at h
  refine Ev.iload (k := 5) (pc' := 47) dX12_isAtRest_45 rfl rfl ?_
  refine Ev.aload_n (k := 0) (pc' := 48) dX12_isAtRest_47 rfl rfl rfl ?_
  refine Ev.getI (pc' := 51) dX12_isAtRest_48 rfl fa_RX12_437 ob_120 fk_12_44 ?_
  refine Ev.icmp_gt (pc' := 54) (tgt := 101) dX12_isAtRest_51 rfl rfl (fun hc => ?_) (fun hc => ?_)
  · have h := h.1 hc
    exact Ev.sub [0, 1, 3, 4] rfl (okX12_isAtRest_b101 hP2 h)
  · have h := h.2 hc
    refine Ev.iload (k := 4) (pc' := 56) dX12_isAtRest_54 rfl rfl ?_
    refine Ev.if_eq (pc' := 59) (tgt := 101) dX12_isAtRest_56 rfl rfl (fun hc => ?_) (fun hc => ?_)
    · have h := h.1 hc
      exact Ev.sub [0, 1, 3, 4] rfl (okX12_isAtRest_b101 hP2 h)
    · have h := h.2 hc
      refine Ev.aload_n (k := 0) (pc' := 60) dX12_isAtRest_59 rfl rfl rfl ?_
      refine Ev.iload_n (k := 1) (pc' := 61) dX12_isAtRest_60 rfl rfl rfl ?_
      refine Ev.iload (k := 5) (pc' := 63) dX12_isAtRest_61 rfl rfl ?_
      refine Ef.callVZ [.int _, .int _] [] (pc' := 66) dX12_isAtRest_63 rfl cv_RX12_608_X12_mayStand ⟨Nat.le_of_ble_eq_true rfl, Nat.le_of_ble_eq_true rfl⟩ ob_120 rfl rfl rfl (Nat.le_of_ble_eq_true rfl) (okX12_mayStand h) (fun r3 I1 L2 h => ?_)
      refine Ef.ifz_ne (pc' := 69) (tgt := 72) dX12_isAtRest_66 rfl rfl (fun hc => ?_) (fun hc => ?_)
      · have h := h.1 hc
        refine Ev.aload_n (k := 0) (pc' := 73) dX12_isAtRest_72 rfl rfl rfl ?_
        refine Ev.iload_n (k := 1) (pc' := 74) dX12_isAtRest_73 rfl rfl rfl ?_
        refine Ev.iload (k := 5) (pc' := 76) dX12_isAtRest_74 rfl rfl ?_
        refine Ef.callVV [.int _, .int _] [] (pc' := 79) dX12_isAtRest_76 rfl cv_RX12_612_X12_choose ⟨Nat.le_of_ble_eq_true rfl, Nat.le_of_ble_eq_true rfl⟩ ob_120 rfl rfl rfl (Nat.le_of_ble_eq_true rfl) (okX12_choose h) (fun I4 L5 h => ?_)
        refine Ev.aload_n (k := 0) (pc' := 80) dX12_isAtRest_79 rfl rfl rfl ?_
        refine Ev.iload_n (k := 1) (pc' := 81) dX12_isAtRest_80 rfl rfl rfl ?_
        refine Ef.callVI [.int _] [] (pc' := 84) dX12_isAtRest_81 rfl cv_RX12_605_X12_payOf ⟨Nat.le_of_ble_eq_true rfl, Nat.le_of_ble_eq_true rfl⟩ ob_120 rfl rfl rfl (Nat.le_of_ble_eq_true rfl) (okX12_payOf h) (fun r8 I6 L7 h => ?_)
        refine Ev.iload_n (k := 2) (pc' := 85) dX12_isAtRest_84 rfl rfl rfl ?_
        refine Ev.icmp_gt (pc' := 88) (tgt := 92) dX12_isAtRest_85 rfl rfl (fun hc => ?_) (fun hc => ?_)
        · have h := h.1 hc
          refine Ev.iconst (pc' := 93) dX12_isAtRest_92 rfl ki_0 ?_
          refine Ev.istore (ls' := [(4, .int _), (0, .ref _), (1, .int _), (2, .int _), (3, .int _), (5, .int _)]) (pc' := 95) dX12_isAtRest_93 rfl (Nat.le_of_ble_eq_true rfl) rfl ?_
          refine Ev.iinc (k := 5) (v := _) (ls' := [(5, .int _), (4, .int _), (0, .ref _), (1, .int _), (2, .int _), (3, .int _)]) (pc' := 98) dX12_isAtRest_95 rfl rfl (congrArg (_ + ·) ki_1) (Nat.le_of_ble_eq_true rfl) rfl ?_
          refine Ev.goto (tgt := 45) dX12_isAtRest_98 rfl ?_
          exact Ev.sub [2, 3, 4, 5, 1, 0] rfl (hP45 _ _ _ _ _ _ _ h)
        · have h := h.2 hc
          refine Ev.iconst (pc' := 89) dX12_isAtRest_88 rfl ki_1 ?_
          refine Ev.goto (tgt := 93) dX12_isAtRest_89 rfl ?_
          refine Ev.istore (ls' := [(4, .int _), (0, .ref _), (1, .int _), (2, .int _), (3, .int _), (5, .int _)]) (pc' := 95) dX12_isAtRest_93 rfl (Nat.le_of_ble_eq_true rfl) rfl ?_
          refine Ev.iinc (k := 5) (v := _) (ls' := [(5, .int _), (4, .int _), (0, .ref _), (1, .int _), (2, .int _), (3, .int _)]) (pc' := 98) dX12_isAtRest_95 rfl rfl (congrArg (_ + ·) ki_1) (Nat.le_of_ble_eq_true rfl) rfl ?_
          refine Ev.goto (tgt := 45) dX12_isAtRest_98 rfl ?_
          exact Ev.sub [2, 3, 4, 5, 1, 0] rfl (hP45 _ _ _ _ _ _ _ h)
      · have h := h.2 hc
        refine Ev.goto (tgt := 95) dX12_isAtRest_69 rfl ?_
        refine Ev.iinc (k := 5) (v := _) (ls' := [(5, .int _), (0, .ref _), (1, .int _), (2, .int _), (3, .int _), (4, .int _)]) (pc' := 98) dX12_isAtRest_95 rfl rfl (congrArg (_ + ·) ki_1) (Nat.le_of_ble_eq_true rfl) rfl ?_
        refine Ev.goto (tgt := 45) dX12_isAtRest_98 rfl ?_
        exact Ev.sub [1, 2, 3, 4, 5, 0] rfl (hP45 _ _ _ _ _ _ _ h)
set_option maxRecDepth 10000 in
theorem okX12_isAtRest_h45 {G : Gx} {Q : Bool → Ix → Lx → Prop} {P2 : Int32 → Ix → Lx → Prop} (hP2 : ∀ (v1 : Int32) (I : Ix) (L : Lx), P2 v1 I L → Ef G MX12_isAtRest (qZ Q) 2 [(0, .ref 120), (1, .int v1)] [] I L) {v1 : Int32} {v2 : Int32} {v3 : Int32} {v4 : Int32} {v5 : Int32} {I : Ix} {L : Lx} (h : wpX12_isAtRest_h45 Q P2 v1 v2 v3 v4 v5 I L) : Ef G MX12_isAtRest (qZ Q) 45 [(0, .ref 120), (1, .int v1), (2, .int v2), (3, .int v3), (4, .int v4), (5, .int v5)] [] I L := by
  unfold wpX12_isAtRest_h45 at h
  refine Lfp.ind (P := fun z => Ef G MX12_isAtRest (qZ Q) 45 [(0, .ref 120), (1, .int z.1), (2, .int z.2.1), (3, .int z.2.2.1), (4, .int z.2.2.2.1), (5, .int z.2.2.2.2.1)] [] z.2.2.2.2.2.1 z.2.2.2.2.2.2) ?_ h
  intro z P' hP' h
  obtain ⟨v1, v2, v3, v4, v5, I, L⟩ := z
  exact okX12_isAtRest_l45 hP2 (fun v1 v2 v3 v4 v5 I L h9 => hP' (v1, v2, v3, v4, v5, I, L) h9) h
set_option maxRecDepth 10000 in
theorem okX12_isAtRest_l2 {G : Gx} {Q : Bool → Ix → Lx → Prop} {P2 : Int32 → Ix → Lx → Prop} (hP2 : ∀ (v1 : Int32) (I : Ix) (L : Lx), P2 v1 I L → Ef G MX12_isAtRest (qZ Q) 2 [(0, .ref 120), (1, .int v1)] [] I L) {v1 : Int32} {I : Ix} {L : Lx} (h : wpX12_isAtRest_l2 Q P2 v1 I L) : Ef G MX12_isAtRest (qZ Q) 2 [(0, .ref 120), (1, .int v1)] [] I L := by
  unfold wpX12_isAtRest_l2 at h
  refine Ev.iload_n (k := 1) (pc' := 3) dX12_isAtRest_2 rfl rfl rfl ?_
  refine Ev.aload_n (k := 0) (pc' := 4) dX12_isAtRest_3 rfl rfl rfl ?_
  refine Ev.getI (pc' := 7) dX12_isAtRest_4 rfl fa_RX12_440 ob_120 fk_12_45 ?_
  refine Ev.icmp_ge (pc' := 10) (tgt := 120) dX12_isAtRest_7 rfl rfl (fun hc => ?_) (fun hc => ?_)
  · have h := h.1 hc
    refine Ev.iconst (pc' := 121) dX12_isAtRest_120 rfl ki_1 ?_
    exact Ef.zret (b := true) dX12_isAtRest_121 rfl h
  · have h := h.2 hc
    refine Ev.aload_n (k := 0) (pc' := 11) dX12_isAtRest_10 rfl rfl rfl ?_
    refine Ev.iload_n (k := 1) (pc' := 12) dX12_isAtRest_11 rfl rfl rfl ?_
    refine Ef.callVI [.int _] [] (pc' := 15) dX12_isAtRest_12 rfl cv_RX12_605_X12_payOf ⟨Nat.le_of_ble_eq_true rfl, Nat.le_of_ble_eq_true rfl⟩ ob_120 rfl rfl rfl (Nat.le_of_ble_eq_true rfl) (okX12_payOf h) (fun r3 I1 L2 h => ?_)
    refine Ev.istore_n (ls' := [(2, .int _), (0, .ref _), (1, .int _)]) (pc' := 16) dX12_isAtRest_15 rfl rfl (Nat.le_of_ble_eq_true rfl) rfl ?_
    refine Ev.aload_n (k := 1) (pc' := 17) dX12_isAtRest_16 rfl rfl rfl ?_
    refine Ev.getR (pc' := 20) dX12_isAtRest_17 rfl fa_RX12_133 ob_120 fk_12_73 rf_120_73 ?_
    refine Ev.iload_n (k := 2) (pc' := 21) dX12_isAtRest_20 rfl rfl rfl ?_
    refine Ev.iaload (j := _) (pc' := 22) dX12_isAtRest_21 rfl ar_159 h.1 rfl ?_
    have h := h.2
    refine Ev.if_ge (pc' := 25) (tgt := 32) dX12_isAtRest_22 rfl rfl (fun hc => ?_) (fun hc => ?_)
    · have h := h.1 hc
      refine Ev.aload_n (k := 1) (pc' := 33) dX12_isAtRest_32 rfl rfl rfl ?_
      refine Ev.getR (pc' := 36) dX12_isAtRest_33 rfl fa_RX12_133 ob_120 fk_12_73 rf_120_73 ?_
      refine Ev.iload_n (k := 2) (pc' := 37) dX12_isAtRest_36 rfl rfl rfl ?_
      refine Ev.iaload (j := _) (pc' := 38) dX12_isAtRest_37 rfl ar_159 h.1 rfl ?_
      have h := h.2
      refine Ev.istore_n (ls' := [(3, .int _), (2, .int _), (0, .ref _), (1, .int _)]) (pc' := 39) dX12_isAtRest_38 rfl rfl (Nat.le_of_ble_eq_true rfl) rfl ?_
      refine Ev.iconst (pc' := 40) dX12_isAtRest_39 rfl ki_1 ?_
      refine Ev.istore (ls' := [(4, .int _), (3, .int _), (2, .int _), (0, .ref _), (1, .int _)]) (pc' := 42) dX12_isAtRest_40 rfl (Nat.le_of_ble_eq_true rfl) rfl ?_
      refine Ev.iconst (pc' := 43) dX12_isAtRest_42 rfl ki_0 ?_
      refine Ev.istore (ls' := [(5, .int _), (4, .int _), (3, .int _), (2, .int _), (0, .ref _), (1, .int _)]) (pc' := 45) dX12_isAtRest_43 rfl (Nat.le_of_ble_eq_true rfl) rfl ?_
      exact Ev.sub [4, 5, 3, 2, 1, 0] rfl (okX12_isAtRest_h45 hP2 h)
    · have h := h.2 hc
      refine Ev.aload_n (k := 1) (pc' := 26) dX12_isAtRest_25 rfl rfl rfl ?_
      refine Ev.getI (pc' := 29) dX12_isAtRest_26 rfl fa_RX12_437 ob_120 fk_12_44 ?_
      refine Ev.goto (tgt := 38) dX12_isAtRest_29 rfl ?_
      refine Ev.istore_n (ls' := [(3, .int _), (2, .int _), (0, .ref _), (1, .int _)]) (pc' := 39) dX12_isAtRest_38 rfl rfl (Nat.le_of_ble_eq_true rfl) rfl ?_
      refine Ev.iconst (pc' := 40) dX12_isAtRest_39 rfl ki_1 ?_
      refine Ev.istore (ls' := [(4, .int _), (3, .int _), (2, .int _), (0, .ref _), (1, .int _)]) (pc' := 42) dX12_isAtRest_40 rfl (Nat.le_of_ble_eq_true rfl) rfl ?_
      refine Ev.iconst (pc' := 43) dX12_isAtRest_42 rfl ki_0 ?_
      refine Ev.istore (ls' := [(5, .int _), (4, .int _), (3, .int _), (2, .int _), (0, .ref _), (1, .int _)]) (pc' := 45) dX12_isAtRest_43 rfl (Nat.le_of_ble_eq_true rfl) rfl ?_
      exact Ev.sub [4, 5, 3, 2, 1, 0] rfl (okX12_isAtRest_h45 hP2 h)
set_option maxRecDepth 10000 in
theorem okX12_isAtRest_h2 {G : Gx} {Q : Bool → Ix → Lx → Prop} {v1 : Int32} {I : Ix} {L : Lx} (h : wpX12_isAtRest_h2 Q v1 I L) : Ef G MX12_isAtRest (qZ Q) 2 [(0, .ref 120), (1, .int v1)] [] I L := by
  unfold wpX12_isAtRest_h2 at h
  refine Lfp.ind (P := fun z => Ef G MX12_isAtRest (qZ Q) 2 [(0, .ref 120), (1, .int z.1)] [] z.2.1 z.2.2) ?_ h
  intro z P' hP' h
  obtain ⟨v1, I, L⟩ := z
  exact okX12_isAtRest_l2 (fun v1 I L h9 => hP' (v1, I, L) h9) h
set_option maxRecDepth 10000 in
theorem okX12_isAtRest {G : Gx} {I : Ix} {L : Lx} {Q : Bool → Ix → Lx → Prop} (h : wpX12_isAtRest I L Q) : Mf G MX12_isAtRest [.ref 120] I L (qZ Q) := by
  unfold wpX12_isAtRest at h
  refine Mf.of pn_RX12 (Nat.le_of_ble_eq_true rfl) ?_
  refine Ev.iconst (pc' := 1) dX12_isAtRest_0 rfl ki_0 ?_
  refine Ev.istore_n (ls' := [(1, .int _), (0, .ref _)]) (pc' := 2) dX12_isAtRest_1 rfl rfl (Nat.le_of_ble_eq_true rfl) rfl ?_
  exact Ev.sub [1, 0] rfl (okX12_isAtRest_h2 h)
def wpX12_seekRest_b207 (Q : Int32 → Ix → Lx → Prop) (P49 : Int32 → Int32 → Int32 → Int32 → Ix → Lx → Prop) (v1 : Int32) (v2 : Int32) (v3 : Int32) (v4 : Int32) (t1 : Int32) (I : Ix) (L : Lx) : Prop := ∀ I1 : Ix, I1 = pu I 120 83 t1 → P49 v1 v2 v3 (v4 + 1) I1 L
def wpX12_seekRest_b198 (Q : Int32 → Ix → Lx → Prop) (P49 : Int32 → Int32 → Int32 → Int32 → Ix → Lx → Prop) (v1 : Int32) (v2 : Int32) (v3 : Int32) (v4 : Int32) (v6 : Int32) (I : Ix) (L : Lx) : Prop := wpX12_seekRest_b207 Q P49 v1 v2 v3 v4 v6 I L
def wpX12_seekRest_b178 (Q : Int32 → Ix → Lx → Prop) (P49 : Int32 → Int32 → Int32 → Int32 → Ix → Lx → Prop) (v1 : Int32) (v2 : Int32) (v3 : Int32) (v4 : Int32) (v6 : Int32) (t1 : Int32) (I : Ix) (L : Lx) : Prop := ∀ I1 : Ix, I1 = pu I 120 82 t1 → ((I1 120 83) < 0 → wpX12_seekRest_b198 Q P49 v1 v2 v3 v4 v6 I1 L) ∧ (¬ (I1 120 83) < 0 → ((I1 120 83) ≤ v6 → wpX12_seekRest_b207 Q P49 v1 v2 v3 v4 (I1 120 83) I1 L) ∧ (¬ (I1 120 83) ≤ v6 → wpX12_seekRest_b198 Q P49 v1 v2 v3 v4 v6 I1 L))
def wpX12_seekRest_l133 (Q : Int32 → Ix → Lx → Prop) (P49 : Int32 → Int32 → Int32 → Int32 → Ix → Lx → Prop) (P133 : Int32 → Int32 → Int32 → Int32 → Int32 → Int32 → Int32 → Ix → Lx → Prop) (v1 : Int32) (v2 : Int32) (v3 : Int32) (v4 : Int32) (v5 : Int32) (v6 : Int32) (v7 : Int32) (I : Ix) (L : Lx) : Prop := ((I 120 44) ≤ v7 → (v5 ≤ (I 120 82) → wpX12_seekRest_b178 Q P49 v1 v2 v3 v4 v6 (I 120 82) I L) ∧ (¬ v5 ≤ (I 120 82) → wpX12_seekRest_b178 Q P49 v1 v2 v3 v4 v6 v5 I L)) ∧ (¬ (I 120 44) ≤ v7 → wpX12_lostOf v7 I L (fun r3 I1 L2 => P133 v1 v2 v3 v4 v5 (v6 + r3) (v7 + 1) I1 L2))
def wpX12_seekRest_h133 (Q : Int32 → Ix → Lx → Prop) (P49 : Int32 → Int32 → Int32 → Int32 → Ix → Lx → Prop) (v1 : Int32) (v2 : Int32) (v3 : Int32) (v4 : Int32) (v5 : Int32) (v6 : Int32) (v7 : Int32) (I : Ix) (L : Lx) : Prop := Lfp (X := Int32 × Int32 × Int32 × Int32 × Int32 × Int32 × Int32 × Ix × Lx) (fun P z => wpX12_seekRest_l133 Q P49 (fun v1 v2 v3 v4 v5 v6 v7 I L => P (v1, v2, v3, v4, v5, v6, v7, I, L)) z.1 z.2.1 z.2.2.1 z.2.2.2.1 z.2.2.2.2.1 z.2.2.2.2.2.1 z.2.2.2.2.2.2.1 z.2.2.2.2.2.2.2.1 z.2.2.2.2.2.2.2.2) (v1, v2, v3, v4, v5, v6, v7, I, L)
theorem wpX12_seekRest_h133_fold {Q : Int32 → Ix → Lx → Prop} {P49 : Int32 → Int32 → Int32 → Int32 → Ix → Lx → Prop} {v1 : Int32} {v2 : Int32} {v3 : Int32} {v4 : Int32} {v5 : Int32} {v6 : Int32} {v7 : Int32} {I : Ix} {L : Lx} (h : wpX12_seekRest_l133 Q P49 (wpX12_seekRest_h133 Q P49) v1 v2 v3 v4 v5 v6 v7 I L) : wpX12_seekRest_h133 Q P49 v1 v2 v3 v4 v5 v6 v7 I L := Lfp.fold h
def wpX12_seekRest_l104 (Q : Int32 → Ix → Lx → Prop) (P49 : Int32 → Int32 → Int32 → Int32 → Ix → Lx → Prop) (P104 : Int32 → Int32 → Int32 → Int32 → Int32 → Int32 → Int32 → Ix → Lx → Prop) (v1 : Int32) (v2 : Int32) (v3 : Int32) (v4 : Int32) (v5 : Int32) (v6 : Int32) (v7 : Int32) (I : Ix) (L : Lx) : Prop := ((I 120 45) ≤ v7 → wpX12_seekRest_h133 Q P49 v1 v2 v3 v4 v5 v6 0 I L) ∧ (¬ (I 120 45) ≤ v7 → wpX12_payOf v7 I L (fun r3 I1 L2 => P104 v1 v2 v3 v4 (v5 + r3) v6 (v7 + 1) I1 L2))
def wpX12_seekRest_h104 (Q : Int32 → Ix → Lx → Prop) (P49 : Int32 → Int32 → Int32 → Int32 → Ix → Lx → Prop) (v1 : Int32) (v2 : Int32) (v3 : Int32) (v4 : Int32) (v5 : Int32) (v6 : Int32) (v7 : Int32) (I : Ix) (L : Lx) : Prop := Lfp (X := Int32 × Int32 × Int32 × Int32 × Int32 × Int32 × Int32 × Ix × Lx) (fun P z => wpX12_seekRest_l104 Q P49 (fun v1 v2 v3 v4 v5 v6 v7 I L => P (v1, v2, v3, v4, v5, v6, v7, I, L)) z.1 z.2.1 z.2.2.1 z.2.2.2.1 z.2.2.2.2.1 z.2.2.2.2.2.1 z.2.2.2.2.2.2.1 z.2.2.2.2.2.2.2.1 z.2.2.2.2.2.2.2.2) (v1, v2, v3, v4, v5, v6, v7, I, L)
theorem wpX12_seekRest_h104_fold {Q : Int32 → Ix → Lx → Prop} {P49 : Int32 → Int32 → Int32 → Int32 → Ix → Lx → Prop} {v1 : Int32} {v2 : Int32} {v3 : Int32} {v4 : Int32} {v5 : Int32} {v6 : Int32} {v7 : Int32} {I : Ix} {L : Lx} (h : wpX12_seekRest_l104 Q P49 (wpX12_seekRest_h104 Q P49) v1 v2 v3 v4 v5 v6 v7 I L) : wpX12_seekRest_h104 Q P49 v1 v2 v3 v4 v5 v6 v7 I L := Lfp.fold h
def wpX12_seekRest_b85 (Q : Int32 → Ix → Lx → Prop) (P49 : Int32 → Int32 → Int32 → Int32 → Ix → Lx → Prop) (v1 : Int32) (v2 : Int32) (v3 : Int32) (v4 : Int32) (I : Ix) (L : Lx) : Prop := ∀ I1 : Ix, I1 = pu I 120 81 ((I 120 81) + 1) → wpX12_seekRest_h104 Q P49 v1 v2 v3 v4 0 0 0 I1 L
def wpX12_seekRest_l49 (Q : Int32 → Ix → Lx → Prop) (P49 : Int32 → Int32 → Int32 → Int32 → Ix → Lx → Prop) (v1 : Int32) (v2 : Int32) (v3 : Int32) (v4 : Int32) (I : Ix) (L : Lx) : Prop := (v2 ≤ v4 → Q v3 I L) ∧ (¬ v2 ≤ v4 → wpX12_layRow v4 I L (fun r3 I1 L2 => (r3 = false → P49 v1 v2 v3 (v4 + 1) I1 L2) ∧ (r3 = true → wpX12_isAtRest I1 L2 (fun r6 I4 L5 => (r6 = true → (¬ (I4 120 81) = v1 → wpX12_seekRest_b85 Q P49 v1 v2 v3 v4 I4 L5) ∧ ((I4 120 81) = v1 → wpX12_seekRest_b85 Q P49 v1 v2 v4 v4 I4 L5)) ∧ (r6 = false → P49 v1 v2 v3 (v4 + 1) I4 L5)))))
def wpX12_seekRest_h49 (Q : Int32 → Ix → Lx → Prop) (v1 : Int32) (v2 : Int32) (v3 : Int32) (v4 : Int32) (I : Ix) (L : Lx) : Prop := Lfp (X := Int32 × Int32 × Int32 × Int32 × Ix × Lx) (fun P z => wpX12_seekRest_l49 Q (fun v1 v2 v3 v4 I L => P (v1, v2, v3, v4, I, L)) z.1 z.2.1 z.2.2.1 z.2.2.2.1 z.2.2.2.2.1 z.2.2.2.2.2) (v1, v2, v3, v4, I, L)
theorem wpX12_seekRest_h49_fold {Q : Int32 → Ix → Lx → Prop} {v1 : Int32} {v2 : Int32} {v3 : Int32} {v4 : Int32} {I : Ix} {L : Lx} (h : wpX12_seekRest_l49 Q (wpX12_seekRest_h49 Q) v1 v2 v3 v4 I L) : wpX12_seekRest_h49 Q v1 v2 v3 v4 I L := Lfp.fold h
def wpX12_seekRest_l7 (Q : Int32 → Ix → Lx → Prop) (P7 : Int32 → Int32 → Int32 → Int32 → Ix → Lx → Prop) (v1 : Int32) (v2 : Int32) (v3 : Int32) (v4 : Int32) (I : Ix) (L : Lx) : Prop := ((I 120 45) ≤ v4 → ∀ I1 : Ix, I1 = pu I 120 81 0 → ∀ I2 : Ix, I2 = pu I1 120 82 (-1) → ∀ I3 : Ix, I3 = pu I2 120 83 (-1) → wpX12_seekRest_h49 Q v1 v2 v3 0 I3 L) ∧ (¬ (I 120 45) ≤ v4 → P7 v1 (v2 * ((I 120 44) + 1)) v3 (v4 + 1) I L)
def wpX12_seekRest_h7 (Q : Int32 → Ix → Lx → Prop) (v1 : Int32) (v2 : Int32) (v3 : Int32) (v4 : Int32) (I : Ix) (L : Lx) : Prop := Lfp (X := Int32 × Int32 × Int32 × Int32 × Ix × Lx) (fun P z => wpX12_seekRest_l7 Q (fun v1 v2 v3 v4 I L => P (v1, v2, v3, v4, I, L)) z.1 z.2.1 z.2.2.1 z.2.2.2.1 z.2.2.2.2.1 z.2.2.2.2.2) (v1, v2, v3, v4, I, L)
theorem wpX12_seekRest_h7_fold {Q : Int32 → Ix → Lx → Prop} {v1 : Int32} {v2 : Int32} {v3 : Int32} {v4 : Int32} {I : Ix} {L : Lx} (h : wpX12_seekRest_l7 Q (wpX12_seekRest_h7 Q) v1 v2 v3 v4 I L) : wpX12_seekRest_h7 Q v1 v2 v3 v4 I L := Lfp.fold h
def wpX12_seekRest (a1 : Int32) (I : Ix) (L : Lx) (Q : Int32 → Ix → Lx → Prop) : Prop := wpX12_seekRest_h7 Q a1 1 (-1) 0 I L
set_option maxRecDepth 10000 in
theorem okX12_seekRest_b207 {G : Gx} {Q : Int32 → Ix → Lx → Prop} {P49 : Int32 → Int32 → Int32 → Int32 → Ix → Lx → Prop} (hP49 : ∀ (v1 : Int32) (v2 : Int32) (v3 : Int32) (v4 : Int32) (I : Ix) (L : Lx), P49 v1 v2 v3 v4 I L → Ef G MX12_seekRest (qI Q) 49 [(0, .ref 120), (1, .int v1), (2, .int v2), (3, .int v3), (4, .int v4)] [] I L) {v1 : Int32} {v2 : Int32} {v3 : Int32} {v4 : Int32} {t1 : Int32} {I : Ix} {L : Lx} (h : wpX12_seekRest_b207 Q P49 v1 v2 v3 v4 t1 I L) : Ef G MX12_seekRest (qI Q) 207 [(0, .ref 120), (1, .int v1), (2, .int v2), (3, .int v3), (4, .int v4)] [.int t1, .ref 120] I L := by
  unfold wpX12_seekRest_b207 at h
  refine Ev.putI (pc' := 210) dX12_seekRest_207 rfl fa_RX12_621 ob_120 fk_12_83 rfl rfl (fun I1 eI1 => ?_)
  have h := h I1 eI1
  refine Ev.iinc (k := 4) (v := _) (ls' := [(4, .int _), (0, .ref _), (1, .int _), (2, .int _), (3, .int _)]) (pc' := 213) dX12_seekRest_210 rfl rfl (congrArg (_ + ·) ki_1) (Nat.le_of_ble_eq_true rfl) rfl ?_
  refine Ev.goto (tgt := 49) dX12_seekRest_213 rfl ?_
  exact Ev.sub [1, 2, 3, 4, 0] rfl (hP49 _ _ _ _ _ _ h)
set_option maxRecDepth 10000 in
theorem okX12_seekRest_b198 {G : Gx} {Q : Int32 → Ix → Lx → Prop} {P49 : Int32 → Int32 → Int32 → Int32 → Ix → Lx → Prop} (hP49 : ∀ (v1 : Int32) (v2 : Int32) (v3 : Int32) (v4 : Int32) (I : Ix) (L : Lx), P49 v1 v2 v3 v4 I L → Ef G MX12_seekRest (qI Q) 49 [(0, .ref 120), (1, .int v1), (2, .int v2), (3, .int v3), (4, .int v4)] [] I L) {v1 : Int32} {v2 : Int32} {v3 : Int32} {v4 : Int32} {v6 : Int32} {I : Ix} {L : Lx} (h : wpX12_seekRest_b198 Q P49 v1 v2 v3 v4 v6 I L) : Ef G MX12_seekRest (qI Q) 198 [(0, .ref 120), (1, .int v1), (2, .int v2), (3, .int v3), (4, .int v4), (6, .int v6)] [.ref 120] I L := by
  unfold wpX12_seekRest_b198 at h
  refine Ev.iload (k := 5) (pc' := 200) dX12_seekRest_198 rfl rfl ?_
  refine Ev.goto (tgt := 207) dX12_seekRest_200 rfl ?_
  exact Ev.sub [0, 1, 2, 3, 4] rfl (okX12_seekRest_b207 hP49 h)
set_option maxRecDepth 10000 in
theorem okX12_seekRest_b178 {G : Gx} {Q : Int32 → Ix → Lx → Prop} {P49 : Int32 → Int32 → Int32 → Int32 → Ix → Lx → Prop} (hP49 : ∀ (v1 : Int32) (v2 : Int32) (v3 : Int32) (v4 : Int32) (I : Ix) (L : Lx), P49 v1 v2 v3 v4 I L → Ef G MX12_seekRest (qI Q) 49 [(0, .ref 120), (1, .int v1), (2, .int v2), (3, .int v3), (4, .int v4)] [] I L) {v1 : Int32} {v2 : Int32} {v3 : Int32} {v4 : Int32} {v6 : Int32} {t1 : Int32} {I : Ix} {L : Lx} (h : wpX12_seekRest_b178 Q P49 v1 v2 v3 v4 v6 t1 I L) : Ef G MX12_seekRest (qI Q) 178 [(0, .ref 120), (1, .int v1), (2, .int v2), (3, .int v3), (4, .int v4), (6, .int v6)] [.int t1, .ref 120] I L := by
  unfold wpX12_seekRest_b178 at h
  refine Ev.putI (pc' := 181) dX12_seekRest_178 rfl fa_RX12_618 ob_120 fk_12_82 rfl rfl (fun I1 eI1 => ?_)
  have h := h I1 eI1
  refine Ev.aload_n (k := 0) (pc' := 182) dX12_seekRest_181 rfl rfl rfl ?_
  refine Ev.aload_n (k := 0) (pc' := 183) dX12_seekRest_182 rfl rfl rfl ?_
  refine Ev.getI (pc' := 186) dX12_seekRest_183 rfl fa_RX12_621 ob_120 fk_12_83 ?_
  refine Ev.if_lt (pc' := 189) (tgt := 198) dX12_seekRest_186 rfl rfl (fun hc => ?_) (fun hc => ?_)
  · have h := h.1 hc
    exact okX12_seekRest_b198 hP49 h
  · have h := h.2 hc
    refine Ev.iload (k := 5) (pc' := 191) dX12_seekRest_189 rfl rfl ?_
    refine Ev.aload_n (k := 0) (pc' := 192) dX12_seekRest_191 rfl rfl rfl ?_
    refine Ev.getI (pc' := 195) dX12_seekRest_192 rfl fa_RX12_621 ob_120 fk_12_83 ?_
    refine Ev.icmp_ge (pc' := 198) (tgt := 203) dX12_seekRest_195 rfl rfl (fun hc => ?_) (fun hc => ?_)
    · have h := h.1 hc
      refine Ev.aload_n (k := 0) (pc' := 204) dX12_seekRest_203 rfl rfl rfl ?_
      refine Ev.getI (pc' := 207) dX12_seekRest_204 rfl fa_RX12_621 ob_120 fk_12_83 ?_
      exact Ev.sub [0, 1, 2, 3, 4] rfl (okX12_seekRest_b207 hP49 h)
    · have h := h.2 hc
      exact okX12_seekRest_b198 hP49 h
set_option maxRecDepth 10000 in
theorem okX12_seekRest_l133 {G : Gx} {Q : Int32 → Ix → Lx → Prop} {P49 : Int32 → Int32 → Int32 → Int32 → Ix → Lx → Prop} {P133 : Int32 → Int32 → Int32 → Int32 → Int32 → Int32 → Int32 → Ix → Lx → Prop} (hP49 : ∀ (v1 : Int32) (v2 : Int32) (v3 : Int32) (v4 : Int32) (I : Ix) (L : Lx), P49 v1 v2 v3 v4 I L → Ef G MX12_seekRest (qI Q) 49 [(0, .ref 120), (1, .int v1), (2, .int v2), (3, .int v3), (4, .int v4)] [] I L) (hP133 : ∀ (v1 : Int32) (v2 : Int32) (v3 : Int32) (v4 : Int32) (v5 : Int32) (v6 : Int32) (v7 : Int32) (I : Ix) (L : Lx), P133 v1 v2 v3 v4 v5 v6 v7 I L → Ef G MX12_seekRest (qI Q) 133 [(0, .ref 120), (1, .int v1), (2, .int v2), (3, .int v3), (4, .int v4), (5, .int v5), (6, .int v6), (7, .int v7)] [] I L) {v1 : Int32} {v2 : Int32} {v3 : Int32} {v4 : Int32} {v5 : Int32} {v6 : Int32} {v7 : Int32} {I : Ix} {L : Lx} (h : wpX12_seekRest_l133 Q P49 P133 v1 v2 v3 v4 v5 v6 v7 I L) : Ef G MX12_seekRest (qI Q) 133 [(0, .ref 120), (1, .int v1), (2, .int v2), (3, .int v3), (4, .int v4), (5, .int v5), (6, .int v6), (7, .int v7)] [] I L := by
  unfold wpX12_seekRest_l133 at h
  refine Ev.iload (k := 7) (pc' := 135) dX12_seekRest_133 rfl rfl ?_
  refine Ev.aload_n (k := 0) (pc' := 136) dX12_seekRest_135 rfl rfl rfl ?_
  refine Ev.getI (pc' := 139) dX12_seekRest_136 rfl fa_RX12_437 ob_120 fk_12_44 ?_
  refine Ev.icmp_ge (pc' := 142) (tgt := 159) dX12_seekRest_139 rfl rfl (fun hc => ?_) (fun hc => ?_)
  · have h := h.1 hc
    refine Ev.aload_n (k := 0) (pc' := 160) dX12_seekRest_159 rfl rfl rfl ?_
    refine Ev.iload (k := 5) (pc' := 162) dX12_seekRest_160 rfl rfl ?_
    refine Ev.aload_n (k := 0) (pc' := 163) dX12_seekRest_162 rfl rfl rfl ?_
    refine Ev.getI (pc' := 166) dX12_seekRest_163 rfl fa_RX12_618 ob_120 fk_12_82 ?_
    refine Ev.icmp_le (pc' := 169) (tgt := 174) dX12_seekRest_166 rfl rfl (fun hc => ?_) (fun hc => ?_)
    · have h := h.1 hc
      refine Ev.aload_n (k := 0) (pc' := 175) dX12_seekRest_174 rfl rfl rfl ?_
      refine Ev.getI (pc' := 178) dX12_seekRest_175 rfl fa_RX12_618 ob_120 fk_12_82 ?_
      exact Ev.sub [0, 1, 2, 3, 4, 6] rfl (okX12_seekRest_b178 hP49 h)
    · have h := h.2 hc
      refine Ev.iload (k := 5) (pc' := 171) dX12_seekRest_169 rfl rfl ?_
      refine Ev.goto (tgt := 178) dX12_seekRest_171 rfl ?_
      exact Ev.sub [0, 1, 2, 3, 4, 6] rfl (okX12_seekRest_b178 hP49 h)
  · have h := h.2 hc
    refine Ev.iload (k := 6) (pc' := 144) dX12_seekRest_142 rfl rfl ?_
    refine Ev.aload_n (k := 0) (pc' := 145) dX12_seekRest_144 rfl rfl rfl ?_
    refine Ev.iload (k := 7) (pc' := 147) dX12_seekRest_145 rfl rfl ?_
    refine Ef.callVI [.int _] [.int _] (pc' := 150) dX12_seekRest_147 rfl cv_RX12_630_X12_lostOf ⟨Nat.le_of_ble_eq_true rfl, Nat.le_of_ble_eq_true rfl⟩ ob_120 rfl rfl rfl (Nat.le_of_ble_eq_true rfl) (okX12_lostOf h) (fun r3 I1 L2 h => ?_)
    refine Ev.iadd (pc' := 151) dX12_seekRest_150 rfl ?_
    refine Ev.istore (ls' := [(6, .int _), (0, .ref _), (1, .int _), (2, .int _), (3, .int _), (4, .int _), (5, .int _), (7, .int _)]) (pc' := 153) dX12_seekRest_151 rfl (Nat.le_of_ble_eq_true rfl) rfl ?_
    refine Ev.iinc (k := 7) (v := _) (ls' := [(7, .int _), (6, .int _), (0, .ref _), (1, .int _), (2, .int _), (3, .int _), (4, .int _), (5, .int _)]) (pc' := 156) dX12_seekRest_153 rfl rfl (congrArg (_ + ·) ki_1) (Nat.le_of_ble_eq_true rfl) rfl ?_
    refine Ev.goto (tgt := 133) dX12_seekRest_156 rfl ?_
    exact Ev.sub [2, 3, 4, 5, 6, 7, 1, 0] rfl (hP133 _ _ _ _ _ _ _ _ _ h)
set_option maxRecDepth 10000 in
theorem okX12_seekRest_h133 {G : Gx} {Q : Int32 → Ix → Lx → Prop} {P49 : Int32 → Int32 → Int32 → Int32 → Ix → Lx → Prop} (hP49 : ∀ (v1 : Int32) (v2 : Int32) (v3 : Int32) (v4 : Int32) (I : Ix) (L : Lx), P49 v1 v2 v3 v4 I L → Ef G MX12_seekRest (qI Q) 49 [(0, .ref 120), (1, .int v1), (2, .int v2), (3, .int v3), (4, .int v4)] [] I L) {v1 : Int32} {v2 : Int32} {v3 : Int32} {v4 : Int32} {v5 : Int32} {v6 : Int32} {v7 : Int32} {I : Ix} {L : Lx} (h : wpX12_seekRest_h133 Q P49 v1 v2 v3 v4 v5 v6 v7 I L) : Ef G MX12_seekRest (qI Q) 133 [(0, .ref 120), (1, .int v1), (2, .int v2), (3, .int v3), (4, .int v4), (5, .int v5), (6, .int v6), (7, .int v7)] [] I L := by
  unfold wpX12_seekRest_h133 at h
  refine Lfp.ind (P := fun z => Ef G MX12_seekRest (qI Q) 133 [(0, .ref 120), (1, .int z.1), (2, .int z.2.1), (3, .int z.2.2.1), (4, .int z.2.2.2.1), (5, .int z.2.2.2.2.1), (6, .int z.2.2.2.2.2.1), (7, .int z.2.2.2.2.2.2.1)] [] z.2.2.2.2.2.2.2.1 z.2.2.2.2.2.2.2.2) ?_ h
  intro z P' hP' h
  obtain ⟨v1, v2, v3, v4, v5, v6, v7, I, L⟩ := z
  exact okX12_seekRest_l133 hP49 (fun v1 v2 v3 v4 v5 v6 v7 I L h9 => hP' (v1, v2, v3, v4, v5, v6, v7, I, L) h9) h
set_option maxRecDepth 10000 in
theorem okX12_seekRest_l104 {G : Gx} {Q : Int32 → Ix → Lx → Prop} {P49 : Int32 → Int32 → Int32 → Int32 → Ix → Lx → Prop} {P104 : Int32 → Int32 → Int32 → Int32 → Int32 → Int32 → Int32 → Ix → Lx → Prop} (hP49 : ∀ (v1 : Int32) (v2 : Int32) (v3 : Int32) (v4 : Int32) (I : Ix) (L : Lx), P49 v1 v2 v3 v4 I L → Ef G MX12_seekRest (qI Q) 49 [(0, .ref 120), (1, .int v1), (2, .int v2), (3, .int v3), (4, .int v4)] [] I L) (hP104 : ∀ (v1 : Int32) (v2 : Int32) (v3 : Int32) (v4 : Int32) (v5 : Int32) (v6 : Int32) (v7 : Int32) (I : Ix) (L : Lx), P104 v1 v2 v3 v4 v5 v6 v7 I L → Ef G MX12_seekRest (qI Q) 104 [(0, .ref 120), (1, .int v1), (2, .int v2), (3, .int v3), (4, .int v4), (5, .int v5), (6, .int v6), (7, .int v7)] [] I L) {v1 : Int32} {v2 : Int32} {v3 : Int32} {v4 : Int32} {v5 : Int32} {v6 : Int32} {v7 : Int32} {I : Ix} {L : Lx} (h : wpX12_seekRest_l104 Q P49 P104 v1 v2 v3 v4 v5 v6 v7 I L) : Ef G MX12_seekRest (qI Q) 104 [(0, .ref 120), (1, .int v1), (2, .int v2), (3, .int v3), (4, .int v4), (5, .int v5), (6, .int v6), (7, .int v7)] [] I L := by
  unfold wpX12_seekRest_l104 at h
  refine Ev.iload (k := 7) (pc' := 106) dX12_seekRest_104 rfl rfl ?_
  refine Ev.aload_n (k := 0) (pc' := 107) dX12_seekRest_106 rfl rfl rfl ?_
  refine Ev.getI (pc' := 110) dX12_seekRest_107 rfl fa_RX12_440 ob_120 fk_12_45 ?_
  refine Ev.icmp_ge (pc' := 113) (tgt := 130) dX12_seekRest_110 rfl rfl (fun hc => ?_) (fun hc => ?_)
  · have h := h.1 hc
    refine Ev.iconst (pc' := 131) dX12_seekRest_130 rfl ki_0 ?_
    refine Ev.istore (ls' := [(7, .int _), (0, .ref _), (1, .int _), (2, .int _), (3, .int _), (4, .int _), (5, .int _), (6, .int _)]) (pc' := 133) dX12_seekRest_131 rfl (Nat.le_of_ble_eq_true rfl) rfl ?_
    exact Ev.sub [1, 2, 3, 4, 5, 6, 7, 0] rfl (okX12_seekRest_h133 hP49 h)
  · have h := h.2 hc
    refine Ev.iload (k := 5) (pc' := 115) dX12_seekRest_113 rfl rfl ?_
    refine Ev.aload_n (k := 0) (pc' := 116) dX12_seekRest_115 rfl rfl rfl ?_
    refine Ev.iload (k := 7) (pc' := 118) dX12_seekRest_116 rfl rfl ?_
    refine Ef.callVI [.int _] [.int _] (pc' := 121) dX12_seekRest_118 rfl cv_RX12_605_X12_payOf ⟨Nat.le_of_ble_eq_true rfl, Nat.le_of_ble_eq_true rfl⟩ ob_120 rfl rfl rfl (Nat.le_of_ble_eq_true rfl) (okX12_payOf h) (fun r3 I1 L2 h => ?_)
    refine Ev.iadd (pc' := 122) dX12_seekRest_121 rfl ?_
    refine Ev.istore (ls' := [(5, .int _), (0, .ref _), (1, .int _), (2, .int _), (3, .int _), (4, .int _), (6, .int _), (7, .int _)]) (pc' := 124) dX12_seekRest_122 rfl (Nat.le_of_ble_eq_true rfl) rfl ?_
    refine Ev.iinc (k := 7) (v := _) (ls' := [(7, .int _), (5, .int _), (0, .ref _), (1, .int _), (2, .int _), (3, .int _), (4, .int _), (6, .int _)]) (pc' := 127) dX12_seekRest_124 rfl rfl (congrArg (_ + ·) ki_1) (Nat.le_of_ble_eq_true rfl) rfl ?_
    refine Ev.goto (tgt := 104) dX12_seekRest_127 rfl ?_
    exact Ev.sub [2, 3, 4, 5, 6, 1, 7, 0] rfl (hP104 _ _ _ _ _ _ _ _ _ h)
set_option maxRecDepth 10000 in
theorem okX12_seekRest_h104 {G : Gx} {Q : Int32 → Ix → Lx → Prop} {P49 : Int32 → Int32 → Int32 → Int32 → Ix → Lx → Prop} (hP49 : ∀ (v1 : Int32) (v2 : Int32) (v3 : Int32) (v4 : Int32) (I : Ix) (L : Lx), P49 v1 v2 v3 v4 I L → Ef G MX12_seekRest (qI Q) 49 [(0, .ref 120), (1, .int v1), (2, .int v2), (3, .int v3), (4, .int v4)] [] I L) {v1 : Int32} {v2 : Int32} {v3 : Int32} {v4 : Int32} {v5 : Int32} {v6 : Int32} {v7 : Int32} {I : Ix} {L : Lx} (h : wpX12_seekRest_h104 Q P49 v1 v2 v3 v4 v5 v6 v7 I L) : Ef G MX12_seekRest (qI Q) 104 [(0, .ref 120), (1, .int v1), (2, .int v2), (3, .int v3), (4, .int v4), (5, .int v5), (6, .int v6), (7, .int v7)] [] I L := by
  unfold wpX12_seekRest_h104 at h
  refine Lfp.ind (P := fun z => Ef G MX12_seekRest (qI Q) 104 [(0, .ref 120), (1, .int z.1), (2, .int z.2.1), (3, .int z.2.2.1), (4, .int z.2.2.2.1), (5, .int z.2.2.2.2.1), (6, .int z.2.2.2.2.2.1), (7, .int z.2.2.2.2.2.2.1)] [] z.2.2.2.2.2.2.2.1 z.2.2.2.2.2.2.2.2) ?_ h
  intro z P' hP' h
  obtain ⟨v1, v2, v3, v4, v5, v6, v7, I, L⟩ := z
  exact okX12_seekRest_l104 hP49 (fun v1 v2 v3 v4 v5 v6 v7 I L h9 => hP' (v1, v2, v3, v4, v5, v6, v7, I, L) h9) h
set_option maxRecDepth 10000 in
theorem okX12_seekRest_b85 {G : Gx} {Q : Int32 → Ix → Lx → Prop} {P49 : Int32 → Int32 → Int32 → Int32 → Ix → Lx → Prop} (hP49 : ∀ (v1 : Int32) (v2 : Int32) (v3 : Int32) (v4 : Int32) (I : Ix) (L : Lx), P49 v1 v2 v3 v4 I L → Ef G MX12_seekRest (qI Q) 49 [(0, .ref 120), (1, .int v1), (2, .int v2), (3, .int v3), (4, .int v4)] [] I L) {v1 : Int32} {v2 : Int32} {v3 : Int32} {v4 : Int32} {I : Ix} {L : Lx} (h : wpX12_seekRest_b85 Q P49 v1 v2 v3 v4 I L) : Ef G MX12_seekRest (qI Q) 85 [(0, .ref 120), (1, .int v1), (2, .int v2), (3, .int v3), (4, .int v4)] [] I L := by
  unfold wpX12_seekRest_b85 at h
  refine Ev.aload_n (k := 0) (pc' := 86) dX12_seekRest_85 rfl rfl rfl ?_
  refine Ev.dup (pc' := 87) dX12_seekRest_86 rfl rfl ?_
  refine Ev.getI (pc' := 90) dX12_seekRest_87 rfl fa_RX12_615 ob_120 fk_12_81 ?_
  refine Ev.iconst (pc' := 91) dX12_seekRest_90 rfl ki_1 ?_
  refine Ev.iadd (pc' := 92) dX12_seekRest_91 rfl ?_
  refine Ev.putI (pc' := 95) dX12_seekRest_92 rfl fa_RX12_615 ob_120 fk_12_81 rfl rfl (fun I1 eI1 => ?_)
  have h := h I1 eI1
  refine Ev.iconst (pc' := 96) dX12_seekRest_95 rfl ki_0 ?_
  refine Ev.istore (ls' := [(5, .int _), (0, .ref _), (1, .int _), (2, .int _), (3, .int _), (4, .int _)]) (pc' := 98) dX12_seekRest_96 rfl (Nat.le_of_ble_eq_true rfl) rfl ?_
  refine Ev.iconst (pc' := 99) dX12_seekRest_98 rfl ki_0 ?_
  refine Ev.istore (ls' := [(6, .int _), (5, .int _), (0, .ref _), (1, .int _), (2, .int _), (3, .int _), (4, .int _)]) (pc' := 101) dX12_seekRest_99 rfl (Nat.le_of_ble_eq_true rfl) rfl ?_
  refine Ev.iconst (pc' := 102) dX12_seekRest_101 rfl ki_0 ?_
  refine Ev.istore (ls' := [(7, .int _), (6, .int _), (5, .int _), (0, .ref _), (1, .int _), (2, .int _), (3, .int _), (4, .int _)]) (pc' := 104) dX12_seekRest_102 rfl (Nat.le_of_ble_eq_true rfl) rfl ?_
  exact Ev.sub [3, 4, 5, 6, 7, 2, 1, 0] rfl (okX12_seekRest_h104 hP49 h)
set_option maxRecDepth 10000 in
theorem okX12_seekRest_l49 {G : Gx} {Q : Int32 → Ix → Lx → Prop} {P49 : Int32 → Int32 → Int32 → Int32 → Ix → Lx → Prop} (hP49 : ∀ (v1 : Int32) (v2 : Int32) (v3 : Int32) (v4 : Int32) (I : Ix) (L : Lx), P49 v1 v2 v3 v4 I L → Ef G MX12_seekRest (qI Q) 49 [(0, .ref 120), (1, .int v1), (2, .int v2), (3, .int v3), (4, .int v4)] [] I L) {v1 : Int32} {v2 : Int32} {v3 : Int32} {v4 : Int32} {I : Ix} {L : Lx} (h : wpX12_seekRest_l49 Q P49 v1 v2 v3 v4 I L) : Ef G MX12_seekRest (qI Q) 49 [(0, .ref 120), (1, .int v1), (2, .int v2), (3, .int v3), (4, .int v4)] [] I L := by
  unfold wpX12_seekRest_l49 at h
  refine Ev.iload (k := 4) (pc' := 51) dX12_seekRest_49 rfl rfl ?_
  refine Ev.iload_n (k := 2) (pc' := 52) dX12_seekRest_51 rfl rfl rfl ?_
  refine Ev.icmp_ge (pc' := 55) (tgt := 216) dX12_seekRest_52 rfl rfl (fun hc => ?_) (fun hc => ?_)
  · have h := h.1 hc
    refine Ev.iload_n (k := 3) (pc' := 217) dX12_seekRest_216 rfl rfl rfl ?_
    exact Ef.iret dX12_seekRest_217 rfl h
  · have h := h.2 hc
    refine Ev.aload_n (k := 0) (pc' := 56) dX12_seekRest_55 rfl rfl rfl ?_
    refine Ev.iload (k := 4) (pc' := 58) dX12_seekRest_56 rfl rfl ?_
    refine Ef.callVZ [.int _] [] (pc' := 61) dX12_seekRest_58 rfl cv_RX12_624_X12_layRow ⟨Nat.le_of_ble_eq_true rfl, Nat.le_of_ble_eq_true rfl⟩ ob_120 rfl rfl rfl (Nat.le_of_ble_eq_true rfl) (okX12_layRow h) (fun r3 I1 L2 h => ?_)
    refine Ef.ifz_eq (pc' := 64) (tgt := 210) dX12_seekRest_61 rfl rfl (fun hc => ?_) (fun hc => ?_)
    · have h := h.1 hc
      refine Ev.iinc (k := 4) (v := _) (ls' := [(4, .int _), (0, .ref _), (1, .int _), (2, .int _), (3, .int _)]) (pc' := 213) dX12_seekRest_210 rfl rfl (congrArg (_ + ·) ki_1) (Nat.le_of_ble_eq_true rfl) rfl ?_
      refine Ev.goto (tgt := 49) dX12_seekRest_213 rfl ?_
      exact Ev.sub [1, 2, 3, 4, 0] rfl (hP49 _ _ _ _ _ _ h)
    · have h := h.2 hc
      refine Ev.aload_n (k := 0) (pc' := 65) dX12_seekRest_64 rfl rfl rfl ?_
      refine Ef.callVZ [] [] (pc' := 68) dX12_seekRest_65 rfl cv_RX12_627_X12_isAtRest ⟨Nat.le_of_ble_eq_true rfl, Nat.le_of_ble_eq_true rfl⟩ ob_120 rfl rfl rfl (Nat.le_of_ble_eq_true rfl) (okX12_isAtRest h) (fun r6 I4 L5 h => ?_)
      refine Ef.ifz_ne (pc' := 71) (tgt := 74) dX12_seekRest_68 rfl rfl (fun hc => ?_) (fun hc => ?_)
      · have h := h.1 hc
        refine Ev.aload_n (k := 0) (pc' := 75) dX12_seekRest_74 rfl rfl rfl ?_
        refine Ev.getI (pc' := 78) dX12_seekRest_75 rfl fa_RX12_615 ob_120 fk_12_81 ?_
        refine Ev.iload_n (k := 1) (pc' := 79) dX12_seekRest_78 rfl rfl rfl ?_
        refine Ev.icmp_ne (pc' := 82) (tgt := 85) dX12_seekRest_79 rfl rfl (fun hc => ?_) (fun hc => ?_)
        · have h := h.1 hc
          exact okX12_seekRest_b85 hP49 h
        · have h := h.2 hc
          refine Ev.iload (k := 4) (pc' := 84) dX12_seekRest_82 rfl rfl ?_
          refine Ev.istore_n (ls' := [(3, .int _), (0, .ref _), (1, .int _), (2, .int _), (4, .int _)]) (pc' := 85) dX12_seekRest_84 rfl rfl (Nat.le_of_ble_eq_true rfl) rfl ?_
          exact Ev.sub [1, 2, 3, 0, 4] rfl (okX12_seekRest_b85 hP49 h)
      · have h := h.2 hc
        refine Ev.goto (tgt := 210) dX12_seekRest_71 rfl ?_
        refine Ev.iinc (k := 4) (v := _) (ls' := [(4, .int _), (0, .ref _), (1, .int _), (2, .int _), (3, .int _)]) (pc' := 213) dX12_seekRest_210 rfl rfl (congrArg (_ + ·) ki_1) (Nat.le_of_ble_eq_true rfl) rfl ?_
        refine Ev.goto (tgt := 49) dX12_seekRest_213 rfl ?_
        exact Ev.sub [1, 2, 3, 4, 0] rfl (hP49 _ _ _ _ _ _ h)
set_option maxRecDepth 10000 in
theorem okX12_seekRest_h49 {G : Gx} {Q : Int32 → Ix → Lx → Prop} {v1 : Int32} {v2 : Int32} {v3 : Int32} {v4 : Int32} {I : Ix} {L : Lx} (h : wpX12_seekRest_h49 Q v1 v2 v3 v4 I L) : Ef G MX12_seekRest (qI Q) 49 [(0, .ref 120), (1, .int v1), (2, .int v2), (3, .int v3), (4, .int v4)] [] I L := by
  unfold wpX12_seekRest_h49 at h
  refine Lfp.ind (P := fun z => Ef G MX12_seekRest (qI Q) 49 [(0, .ref 120), (1, .int z.1), (2, .int z.2.1), (3, .int z.2.2.1), (4, .int z.2.2.2.1)] [] z.2.2.2.2.1 z.2.2.2.2.2) ?_ h
  intro z P' hP' h
  obtain ⟨v1, v2, v3, v4, I, L⟩ := z
  exact okX12_seekRest_l49 (fun v1 v2 v3 v4 I L h9 => hP' (v1, v2, v3, v4, I, L) h9) h
set_option maxRecDepth 10000 in
theorem okX12_seekRest_l7 {G : Gx} {Q : Int32 → Ix → Lx → Prop} {P7 : Int32 → Int32 → Int32 → Int32 → Ix → Lx → Prop} (hP7 : ∀ (v1 : Int32) (v2 : Int32) (v3 : Int32) (v4 : Int32) (I : Ix) (L : Lx), P7 v1 v2 v3 v4 I L → Ef G MX12_seekRest (qI Q) 7 [(0, .ref 120), (1, .int v1), (2, .int v2), (3, .int v3), (4, .int v4)] [] I L) {v1 : Int32} {v2 : Int32} {v3 : Int32} {v4 : Int32} {I : Ix} {L : Lx} (h : wpX12_seekRest_l7 Q P7 v1 v2 v3 v4 I L) : Ef G MX12_seekRest (qI Q) 7 [(0, .ref 120), (1, .int v1), (2, .int v2), (3, .int v3), (4, .int v4)] [] I L := by
  unfold wpX12_seekRest_l7 at h
  refine Ev.iload (k := 4) (pc' := 9) dX12_seekRest_7 rfl rfl ?_
  refine Ev.aload_n (k := 0) (pc' := 10) dX12_seekRest_9 rfl rfl rfl ?_
  refine Ev.getI (pc' := 13) dX12_seekRest_10 rfl fa_RX12_440 ob_120 fk_12_45 ?_
  refine Ev.icmp_ge (pc' := 16) (tgt := 31) dX12_seekRest_13 rfl rfl (fun hc => ?_) (fun hc => ?_)
  · have h := h.1 hc
    refine Ev.aload_n (k := 0) (pc' := 32) dX12_seekRest_31 rfl rfl rfl ?_
    refine Ev.iconst (pc' := 33) dX12_seekRest_32 rfl ki_0 ?_
    refine Ev.putI (pc' := 36) dX12_seekRest_33 rfl fa_RX12_615 ob_120 fk_12_81 rfl rfl (fun I1 eI1 => ?_)
    have h := h I1 eI1
    refine Ev.aload_n (k := 0) (pc' := 37) dX12_seekRest_36 rfl rfl rfl ?_
    refine Ev.iconst (pc' := 38) dX12_seekRest_37 rfl ki_m1 ?_
    refine Ev.putI (pc' := 41) dX12_seekRest_38 rfl fa_RX12_618 ob_120 fk_12_82 rfl rfl (fun I2 eI2 => ?_)
    have h := h I2 eI2
    refine Ev.aload_n (k := 0) (pc' := 42) dX12_seekRest_41 rfl rfl rfl ?_
    refine Ev.iconst (pc' := 43) dX12_seekRest_42 rfl ki_m1 ?_
    refine Ev.putI (pc' := 46) dX12_seekRest_43 rfl fa_RX12_621 ob_120 fk_12_83 rfl rfl (fun I3 eI3 => ?_)
    have h := h I3 eI3
    refine Ev.iconst (pc' := 47) dX12_seekRest_46 rfl ki_0 ?_
    refine Ev.istore (ls' := [(4, .int _), (0, .ref _), (1, .int _), (2, .int _), (3, .int _)]) (pc' := 49) dX12_seekRest_47 rfl (Nat.le_of_ble_eq_true rfl) rfl ?_
    exact Ev.sub [1, 2, 3, 4, 0] rfl (okX12_seekRest_h49 h)
  · have h := h.2 hc
    refine Ev.iload_n (k := 2) (pc' := 17) dX12_seekRest_16 rfl rfl rfl ?_
    refine Ev.aload_n (k := 0) (pc' := 18) dX12_seekRest_17 rfl rfl rfl ?_
    refine Ev.getI (pc' := 21) dX12_seekRest_18 rfl fa_RX12_437 ob_120 fk_12_44 ?_
    refine Ev.iconst (pc' := 22) dX12_seekRest_21 rfl ki_1 ?_
    refine Ev.iadd (pc' := 23) dX12_seekRest_22 rfl ?_
    refine Ev.imul (pc' := 24) dX12_seekRest_23 rfl ?_
    refine Ev.istore_n (ls' := [(2, .int _), (0, .ref _), (1, .int _), (3, .int _), (4, .int _)]) (pc' := 25) dX12_seekRest_24 rfl rfl (Nat.le_of_ble_eq_true rfl) rfl ?_
    refine Ev.iinc (k := 4) (v := _) (ls' := [(4, .int _), (2, .int _), (0, .ref _), (1, .int _), (3, .int _)]) (pc' := 28) dX12_seekRest_25 rfl rfl (congrArg (_ + ·) ki_1) (Nat.le_of_ble_eq_true rfl) rfl ?_
    refine Ev.goto (tgt := 7) dX12_seekRest_28 rfl ?_
    exact Ev.sub [2, 3, 1, 4, 0] rfl (hP7 _ _ _ _ _ _ h)
set_option maxRecDepth 10000 in
theorem okX12_seekRest_h7 {G : Gx} {Q : Int32 → Ix → Lx → Prop} {v1 : Int32} {v2 : Int32} {v3 : Int32} {v4 : Int32} {I : Ix} {L : Lx} (h : wpX12_seekRest_h7 Q v1 v2 v3 v4 I L) : Ef G MX12_seekRest (qI Q) 7 [(0, .ref 120), (1, .int v1), (2, .int v2), (3, .int v3), (4, .int v4)] [] I L := by
  unfold wpX12_seekRest_h7 at h
  refine Lfp.ind (P := fun z => Ef G MX12_seekRest (qI Q) 7 [(0, .ref 120), (1, .int z.1), (2, .int z.2.1), (3, .int z.2.2.1), (4, .int z.2.2.2.1)] [] z.2.2.2.2.1 z.2.2.2.2.2) ?_ h
  intro z P' hP' h
  obtain ⟨v1, v2, v3, v4, I, L⟩ := z
  exact okX12_seekRest_l7 (fun v1 v2 v3 v4 I L h9 => hP' (v1, v2, v3, v4, I, L) h9) h
set_option maxRecDepth 10000 in
theorem okX12_seekRest {G : Gx} {a1 : Int32} {I : Ix} {L : Lx} {Q : Int32 → Ix → Lx → Prop} (h : wpX12_seekRest a1 I L Q) : Mf G MX12_seekRest [.ref 120, .int a1] I L (qI Q) := by
  unfold wpX12_seekRest at h
  refine Mf.of pn_RX12 (Nat.le_of_ble_eq_true rfl) ?_
  refine Ev.iconst (pc' := 1) dX12_seekRest_0 rfl ki_1 ?_
  refine Ev.istore_n (ls' := [(2, .int _), (0, .ref _), (1, .int _)]) (pc' := 2) dX12_seekRest_1 rfl rfl (Nat.le_of_ble_eq_true rfl) rfl ?_
  refine Ev.iconst (pc' := 3) dX12_seekRest_2 rfl ki_m1 ?_
  refine Ev.istore_n (ls' := [(3, .int _), (2, .int _), (0, .ref _), (1, .int _)]) (pc' := 4) dX12_seekRest_3 rfl rfl (Nat.le_of_ble_eq_true rfl) rfl ?_
  refine Ev.iconst (pc' := 5) dX12_seekRest_4 rfl ki_0 ?_
  refine Ev.istore (ls' := [(4, .int _), (3, .int _), (2, .int _), (0, .ref _), (1, .int _)]) (pc' := 7) dX12_seekRest_5 rfl (Nat.le_of_ble_eq_true rfl) rfl ?_
  exact Ev.sub [3, 4, 2, 1, 0] rfl (okX12_seekRest_h7 h)
def wpX12_rest (a1 : Int32) (I : Ix) (L : Lx) (Q : Int32 → Ix → Lx → Prop) : Prop := (a1 < 0 → Q (-1) I L) ∧ (¬ a1 < 0 → (a1 ≤ 2 → wpX12_isTooMany I L (fun r3 I1 L2 => (r3 = false → wpX12_seekRest (-1) I1 L2 (fun r6 I4 L5 => (¬ a1 = 0 → (r6 < 0 → (¬ a1 = 1 → Q (I4 120 83) I4 L5) ∧ (a1 = 1 → Q (I4 120 82) I4 L5)) ∧ (¬ r6 < 0 → Q (-1) I4 L5)) ∧ (a1 = 0 → Q (I4 120 81) I4 L5))) ∧ (r3 = true → Q (-2) I1 L2))) ∧ (¬ a1 ≤ 2 → Q (-1) I L))
set_option maxRecDepth 10000 in
theorem okX12_rest {G : Gx} {a1 : Int32} {I : Ix} {L : Lx} {Q : Int32 → Ix → Lx → Prop} (h : wpX12_rest a1 I L Q) : Mf G MX12_rest [.ref 120, .int a1] I L (qI Q) := by
  unfold wpX12_rest at h
  refine Mf.of pn_RX12 (Nat.le_of_ble_eq_true rfl) ?_
  refine Ev.iload_n (k := 1) (pc' := 1) dX12_rest_0 rfl rfl rfl ?_
  refine Ev.if_lt (pc' := 4) (tgt := 9) dX12_rest_1 rfl rfl (fun hc => ?_) (fun hc => ?_)
  · have h := h.1 hc
    refine Ev.iconst (pc' := 10) dX12_rest_9 rfl ki_m1 ?_
    exact Ef.iret dX12_rest_10 rfl h
  · have h := h.2 hc
    refine Ev.iload_n (k := 1) (pc' := 5) dX12_rest_4 rfl rfl rfl ?_
    refine Ev.iconst (pc' := 6) dX12_rest_5 rfl ki_2 ?_
    refine Ev.icmp_le (pc' := 9) (tgt := 11) dX12_rest_6 rfl rfl (fun hc => ?_) (fun hc => ?_)
    · have h := h.1 hc
      refine Ev.aload_n (k := 0) (pc' := 12) dX12_rest_11 rfl rfl rfl ?_
      refine Ef.callVZ [] [] (pc' := 15) dX12_rest_12 rfl cv_RX12_633_X12_isTooMany ⟨Nat.le_of_ble_eq_true rfl, Nat.le_of_ble_eq_true rfl⟩ ob_120 rfl rfl rfl (Nat.le_of_ble_eq_true rfl) (okX12_isTooMany h) (fun r3 I1 L2 h => ?_)
      refine Ef.ifz_eq (pc' := 18) (tgt := 21) dX12_rest_15 rfl rfl (fun hc => ?_) (fun hc => ?_)
      · have h := h.1 hc
        refine Ev.aload_n (k := 0) (pc' := 22) dX12_rest_21 rfl rfl rfl ?_
        refine Ev.iconst (pc' := 23) dX12_rest_22 rfl ki_m1 ?_
        refine Ef.callVI [.int _] [] (pc' := 26) dX12_rest_23 rfl cv_RX12_636_X12_seekRest ⟨Nat.le_of_ble_eq_true rfl, Nat.le_of_ble_eq_true rfl⟩ ob_120 rfl rfl rfl (Nat.le_of_ble_eq_true rfl) (okX12_seekRest h) (fun r6 I4 L5 h => ?_)
        refine Ev.istore_n (ls' := [(2, .int _), (0, .ref _), (1, .int _)]) (pc' := 27) dX12_rest_26 rfl rfl (Nat.le_of_ble_eq_true rfl) rfl ?_
        refine Ev.iload_n (k := 2) (pc' := 28) dX12_rest_27 rfl rfl rfl ?_
        refine Ev.if_ne (pc' := 31) (tgt := 38) dX12_rest_28 rfl rfl (fun hc => ?_) (fun hc => ?_)
        · have h := h.1 hc
          refine Ev.iload_n (k := 0) (pc' := 39) dX12_rest_38 rfl rfl rfl ?_
          refine Ev.if_lt (pc' := 42) (tgt := 46) dX12_rest_39 rfl rfl (fun hc => ?_) (fun hc => ?_)
          · have h := h.1 hc
            refine Ev.iload_n (k := 2) (pc' := 47) dX12_rest_46 rfl rfl rfl ?_
            refine Ev.iconst (pc' := 48) dX12_rest_47 rfl ki_1 ?_
            refine Ev.icmp_ne (pc' := 51) (tgt := 58) dX12_rest_48 rfl rfl (fun hc => ?_) (fun hc => ?_)
            · have h := h.1 hc
              refine Ev.aload_n (k := 1) (pc' := 59) dX12_rest_58 rfl rfl rfl ?_
              refine Ev.getI (pc' := 62) dX12_rest_59 rfl fa_RX12_621 ob_120 fk_12_83 ?_
              exact Ef.iret dX12_rest_62 rfl h
            · have h := h.2 hc
              refine Ev.aload_n (k := 1) (pc' := 52) dX12_rest_51 rfl rfl rfl ?_
              refine Ev.getI (pc' := 55) dX12_rest_52 rfl fa_RX12_618 ob_120 fk_12_82 ?_
              refine Ev.goto (tgt := 62) dX12_rest_55 rfl ?_
              exact Ef.iret dX12_rest_62 rfl h
          · have h := h.2 hc
            refine Ev.iconst (pc' := 43) dX12_rest_42 rfl ki_m1 ?_
            refine Ev.goto (tgt := 62) dX12_rest_43 rfl ?_
            exact Ef.iret dX12_rest_62 rfl h
        · have h := h.2 hc
          refine Ev.aload_n (k := 1) (pc' := 32) dX12_rest_31 rfl rfl rfl ?_
          refine Ev.getI (pc' := 35) dX12_rest_32 rfl fa_RX12_615 ob_120 fk_12_81 ?_
          refine Ev.goto (tgt := 62) dX12_rest_35 rfl ?_
          exact Ef.iret dX12_rest_62 rfl h
      · have h := h.2 hc
        refine Ev.bipush (pc' := 20) dX12_rest_18 rfl kb_m2 ?_
        exact Ef.iret dX12_rest_20 rfl h
    · have h := h.2 hc
      refine Ev.iconst (pc' := 10) dX12_rest_9 rfl ki_m1 ?_
      exact Ef.iret dX12_rest_10 rfl h
def wpX12_stands_b31 (Q : Int32 → Ix → Lx → Prop) (v2 : Int32) (t0 : Int32) (I : Ix) (L : Lx) : Prop := (0 ≤ t0 → wpX12_layRow t0 I L (fun r3 I1 L2 => (r3 = false → Q (-3) I1 L2) ∧ (r3 = true → vp_in v2 6 ∧ Q (I1 159 v2.toNatClampNeg) I1 L2))) ∧ (¬ 0 ≤ t0 → Q (-3) I L)
def wpX12_stands_b22 (Q : Int32 → Ix → Lx → Prop) (v2 : Int32) (I : Ix) (L : Lx) : Prop := wpX12_stands_b31 Q v2 (-1) I L
def wpX12_stands (a1 : Int32) (a2 : Int32) (I : Ix) (L : Lx) (Q : Int32 → Ix → Lx → Prop) : Prop := wpX12_isTooMany I L (fun r3 I1 L2 => (r3 = false → (a1 < 0 → wpX12_stands_b22 Q a2 I1 L2) ∧ (¬ a1 < 0 → wpX12_isPerson a2 I1 L2 (fun r6 I4 L5 => (r6 = true → wpX12_seekRest a1 I4 L5 (fun r9 I7 L8 => wpX12_stands_b31 Q a2 r9 I7 L8)) ∧ (r6 = false → wpX12_stands_b22 Q a2 I4 L5)))) ∧ (r3 = true → Q (-2) I1 L2))
set_option maxRecDepth 10000 in
theorem okX12_stands_b31 {G : Gx} {Q : Int32 → Ix → Lx → Prop} {v2 : Int32} {t0 : Int32} {I : Ix} {L : Lx} (h : wpX12_stands_b31 Q v2 t0 I L) : Ef G MX12_stands (qI Q) 31 [(0, .ref 120), (2, .int v2)] [.int t0] I L := by
  unfold wpX12_stands_b31 at h
  refine Ev.istore_n (ls' := [(3, .int _), (0, .ref _), (2, .int _)]) (pc' := 32) dX12_stands_31 rfl rfl (Nat.le_of_ble_eq_true rfl) rfl ?_
  refine Ev.iload_n (k := 0) (pc' := 33) dX12_stands_32 rfl rfl rfl ?_
  refine Ev.if_ge (pc' := 36) (tgt := 39) dX12_stands_33 rfl rfl (fun hc => ?_) (fun hc => ?_)
  · have h := h.1 hc
    refine Ev.aload_n (k := 1) (pc' := 40) dX12_stands_39 rfl rfl rfl ?_
    refine Ev.iload_n (k := 0) (pc' := 41) dX12_stands_40 rfl rfl rfl ?_
    refine Ef.callVZ [.int _] [] (pc' := 44) dX12_stands_41 rfl cv_RX12_624_X12_layRow ⟨Nat.le_of_ble_eq_true rfl, Nat.le_of_ble_eq_true rfl⟩ ob_120 rfl rfl rfl (Nat.le_of_ble_eq_true rfl) (okX12_layRow h) (fun r3 I1 L2 h => ?_)
    refine Ev.istore (ls' := [(4, .int _), (3, .int _), (0, .ref _), (2, .int _)]) (pc' := 46) dX12_stands_44 rfl (Nat.le_of_ble_eq_true rfl) rfl ?_
    refine Ev.iload (k := 0) (pc' := 48) dX12_stands_46 rfl rfl ?_
    refine Ef.ifz_eq (pc' := 51) (tgt := 60) dX12_stands_48 rfl rfl (fun hc => ?_) (fun hc => ?_)
    · have h := h.1 hc
      refine Ev.bipush (pc' := 62) dX12_stands_60 rfl kb_m3 ?_
      exact Ef.iret dX12_stands_62 rfl h
    · have h := h.2 hc
      refine Ev.aload_n (k := 2) (pc' := 52) dX12_stands_51 rfl rfl rfl ?_
      refine Ev.getR (pc' := 55) dX12_stands_52 rfl fa_RX12_133 ob_120 fk_12_73 rf_120_73 ?_
      refine Ev.iload_n (k := 3) (pc' := 56) dX12_stands_55 rfl rfl rfl ?_
      refine Ev.iaload (j := _) (pc' := 57) dX12_stands_56 rfl ar_159 h.1 rfl ?_
      have h := h.2
      refine Ev.goto (tgt := 62) dX12_stands_57 rfl ?_
      exact Ef.iret dX12_stands_62 rfl h
  · have h := h.2 hc
    refine Ev.bipush (pc' := 38) dX12_stands_36 rfl kb_m3 ?_
    exact Ef.iret dX12_stands_38 rfl h
set_option maxRecDepth 10000 in
theorem okX12_stands_b22 {G : Gx} {Q : Int32 → Ix → Lx → Prop} {v2 : Int32} {I : Ix} {L : Lx} (h : wpX12_stands_b22 Q v2 I L) : Ef G MX12_stands (qI Q) 22 [(0, .ref 120), (2, .int v2)] [] I L := by
  unfold wpX12_stands_b22 at h
  refine Ev.iconst (pc' := 23) dX12_stands_22 rfl ki_m1 ?_
  refine Ev.goto (tgt := 31) dX12_stands_23 rfl ?_
  exact okX12_stands_b31 h
set_option maxRecDepth 10000 in
theorem okX12_stands {G : Gx} {a1 : Int32} {a2 : Int32} {I : Ix} {L : Lx} {Q : Int32 → Ix → Lx → Prop} (h : wpX12_stands a1 a2 I L Q) : Mf G MX12_stands [.ref 120, .int a1, .int a2] I L (qI Q) := by
  unfold wpX12_stands at h
  refine Mf.of pn_RX12 (Nat.le_of_ble_eq_true rfl) ?_
  refine Ev.aload_n (k := 0) (pc' := 1) dX12_stands_0 rfl rfl rfl ?_
  refine Ef.callVZ [] [] (pc' := 4) dX12_stands_1 rfl cv_RX12_633_X12_isTooMany ⟨Nat.le_of_ble_eq_true rfl, Nat.le_of_ble_eq_true rfl⟩ ob_120 rfl rfl rfl (Nat.le_of_ble_eq_true rfl) (okX12_isTooMany h) (fun r3 I1 L2 h => ?_)
  refine Ef.ifz_eq (pc' := 7) (tgt := 10) dX12_stands_4 rfl rfl (fun hc => ?_) (fun hc => ?_)
  · have h := h.1 hc
    refine Ev.iload_n (k := 1) (pc' := 11) dX12_stands_10 rfl rfl rfl ?_
    refine Ev.if_lt (pc' := 14) (tgt := 22) dX12_stands_11 rfl rfl (fun hc => ?_) (fun hc => ?_)
    · have h := h.1 hc
      exact Ev.sub [0, 2] rfl (okX12_stands_b22 h)
    · have h := h.2 hc
      refine Ev.aload_n (k := 0) (pc' := 15) dX12_stands_14 rfl rfl rfl ?_
      refine Ev.iload_n (k := 2) (pc' := 16) dX12_stands_15 rfl rfl rfl ?_
      refine Ef.callVZ [.int _] [] (pc' := 19) dX12_stands_16 rfl cv_RX12_568_X12_isPerson ⟨Nat.le_of_ble_eq_true rfl, Nat.le_of_ble_eq_true rfl⟩ ob_120 rfl rfl rfl (Nat.le_of_ble_eq_true rfl) (okX12_isPerson h) (fun r6 I4 L5 h => ?_)
      refine Ef.ifz_ne (pc' := 22) (tgt := 26) dX12_stands_19 rfl rfl (fun hc => ?_) (fun hc => ?_)
      · have h := h.1 hc
        refine Ev.aload_n (k := 0) (pc' := 27) dX12_stands_26 rfl rfl rfl ?_
        refine Ev.iload_n (k := 1) (pc' := 28) dX12_stands_27 rfl rfl rfl ?_
        refine Ef.callVI [.int _] [] (pc' := 31) dX12_stands_28 rfl cv_RX12_636_X12_seekRest ⟨Nat.le_of_ble_eq_true rfl, Nat.le_of_ble_eq_true rfl⟩ ob_120 rfl rfl rfl (Nat.le_of_ble_eq_true rfl) (okX12_seekRest h) (fun r9 I7 L8 h => ?_)
        exact Ev.sub [0, 2] rfl (okX12_stands_b31 h)
      · have h := h.2 hc
        exact Ev.sub [0, 2] rfl (okX12_stands_b22 h)
  · have h := h.2 hc
    refine Ev.bipush (pc' := 9) dX12_stands_7 rfl kb_m2 ?_
    exact Ef.iret dX12_stands_9 rfl h
def wpX12_madeBy_l12 (Q : Int32 → Ix → Lx → Prop) (P12 : Int32 → Int32 → Int32 → Int32 → Ix → Lx → Prop) (v1 : Int32) (v2 : Int32) (v3 : Int32) (v4 : Int32) (I : Ix) (L : Lx) : Prop := (v1 ≤ v4 → wpX12_allMade I L (fun r3 I1 L2 => wpX12_bring I1 L2 (fun I4 L5 => Q (r3 - v3) I4 L5))) ∧ (¬ v1 ≤ v4 → wpX12_doDay v2 I L (fun I6 L7 => P12 v1 v2 v3 (v4 + 1) I6 L7))
def wpX12_madeBy_h12 (Q : Int32 → Ix → Lx → Prop) (v1 : Int32) (v2 : Int32) (v3 : Int32) (v4 : Int32) (I : Ix) (L : Lx) : Prop := Lfp (X := Int32 × Int32 × Int32 × Int32 × Ix × Lx) (fun P z => wpX12_madeBy_l12 Q (fun v1 v2 v3 v4 I L => P (v1, v2, v3, v4, I, L)) z.1 z.2.1 z.2.2.1 z.2.2.2.1 z.2.2.2.2.1 z.2.2.2.2.2) (v1, v2, v3, v4, I, L)
theorem wpX12_madeBy_h12_fold {Q : Int32 → Ix → Lx → Prop} {v1 : Int32} {v2 : Int32} {v3 : Int32} {v4 : Int32} {I : Ix} {L : Lx} (h : wpX12_madeBy_l12 Q (wpX12_madeBy_h12 Q) v1 v2 v3 v4 I L) : wpX12_madeBy_h12 Q v1 v2 v3 v4 I L := Lfp.fold h
def wpX12_madeBy (a1 : Int32) (a2 : Int32) (I : Ix) (L : Lx) (Q : Int32 → Ix → Lx → Prop) : Prop := wpX12_put I L (fun I1 L2 => wpX12_allMade I1 L2 (fun r5 I3 L4 => wpX12_madeBy_h12 Q a1 a2 r5 0 I3 L4))
set_option maxRecDepth 10000 in
theorem okX12_madeBy_l12 {G : Gx} {Q : Int32 → Ix → Lx → Prop} {P12 : Int32 → Int32 → Int32 → Int32 → Ix → Lx → Prop} (hP12 : ∀ (v1 : Int32) (v2 : Int32) (v3 : Int32) (v4 : Int32) (I : Ix) (L : Lx), P12 v1 v2 v3 v4 I L → Ef G MX12_madeBy (qI Q) 12 [(0, .ref 120), (1, .int v1), (2, .int v2), (3, .int v3), (4, .int v4)] [] I L) {v1 : Int32} {v2 : Int32} {v3 : Int32} {v4 : Int32} {I : Ix} {L : Lx} (h : wpX12_madeBy_l12 Q P12 v1 v2 v3 v4 I L) : Ef G MX12_madeBy (qI Q) 12 [(0, .ref 120), (1, .int v1), (2, .int v2), (3, .int v3), (4, .int v4)] [] I L := by
  unfold wpX12_madeBy_l12 at h
  refine Ev.iload (k := 4) (pc' := 14) dX12_madeBy_12 rfl rfl ?_
  refine Ev.iload_n (k := 1) (pc' := 15) dX12_madeBy_14 rfl rfl rfl ?_
  refine Ev.icmp_ge (pc' := 18) (tgt := 29) dX12_madeBy_15 rfl rfl (fun hc => ?_) (fun hc => ?_)
  · have h := h.1 hc
    refine Ev.aload_n (k := 0) (pc' := 30) dX12_madeBy_29 rfl rfl rfl ?_
    refine Ef.callVI [] [] (pc' := 33) dX12_madeBy_30 rfl cv_RX12_559_X12_allMade ⟨Nat.le_of_ble_eq_true rfl, Nat.le_of_ble_eq_true rfl⟩ ob_120 rfl rfl rfl (Nat.le_of_ble_eq_true rfl) (okX12_allMade h) (fun r3 I1 L2 h => ?_)
    refine Ev.iload_n (k := 3) (pc' := 34) dX12_madeBy_33 rfl rfl rfl ?_
    refine Ev.isub (pc' := 35) dX12_madeBy_34 rfl ?_
    refine Ev.istore (ls' := [(4, .int _), (0, .ref _), (1, .int _), (2, .int _), (3, .int _)]) (pc' := 37) dX12_madeBy_35 rfl (Nat.le_of_ble_eq_true rfl) rfl ?_
    refine Ev.aload_n (k := 1) (pc' := 38) dX12_madeBy_37 rfl rfl rfl ?_
    refine Ef.callVV [] [] (pc' := 41) dX12_madeBy_38 rfl cv_RX12_587_X12_bring ⟨Nat.le_of_ble_eq_true rfl, Nat.le_of_ble_eq_true rfl⟩ ob_120 rfl rfl rfl (Nat.le_of_ble_eq_true rfl) (okX12_bring h) (fun I4 L5 h => ?_)
    refine Ev.iload (k := 0) (pc' := 43) dX12_madeBy_41 rfl rfl ?_
    exact Ef.iret dX12_madeBy_43 rfl h
  · have h := h.2 hc
    refine Ev.aload_n (k := 0) (pc' := 19) dX12_madeBy_18 rfl rfl rfl ?_
    refine Ev.iload_n (k := 2) (pc' := 20) dX12_madeBy_19 rfl rfl rfl ?_
    refine Ef.callVV [.int _] [] (pc' := 23) dX12_madeBy_20 rfl cv_RX12_562_X12_doDay ⟨Nat.le_of_ble_eq_true rfl, Nat.le_of_ble_eq_true rfl⟩ ob_120 rfl rfl rfl (Nat.le_of_ble_eq_true rfl) (okX12_doDay h) (fun I6 L7 h => ?_)
    refine Ev.iinc (k := 4) (v := _) (ls' := [(4, .int _), (0, .ref _), (1, .int _), (2, .int _), (3, .int _)]) (pc' := 26) dX12_madeBy_23 rfl rfl (congrArg (_ + ·) ki_1) (Nat.le_of_ble_eq_true rfl) rfl ?_
    refine Ev.goto (tgt := 12) dX12_madeBy_26 rfl ?_
    exact Ev.sub [1, 2, 3, 4, 0] rfl (hP12 _ _ _ _ _ _ h)
set_option maxRecDepth 10000 in
theorem okX12_madeBy_h12 {G : Gx} {Q : Int32 → Ix → Lx → Prop} {v1 : Int32} {v2 : Int32} {v3 : Int32} {v4 : Int32} {I : Ix} {L : Lx} (h : wpX12_madeBy_h12 Q v1 v2 v3 v4 I L) : Ef G MX12_madeBy (qI Q) 12 [(0, .ref 120), (1, .int v1), (2, .int v2), (3, .int v3), (4, .int v4)] [] I L := by
  unfold wpX12_madeBy_h12 at h
  refine Lfp.ind (P := fun z => Ef G MX12_madeBy (qI Q) 12 [(0, .ref 120), (1, .int z.1), (2, .int z.2.1), (3, .int z.2.2.1), (4, .int z.2.2.2.1)] [] z.2.2.2.2.1 z.2.2.2.2.2) ?_ h
  intro z P' hP' h
  obtain ⟨v1, v2, v3, v4, I, L⟩ := z
  exact okX12_madeBy_l12 (fun v1 v2 v3 v4 I L h9 => hP' (v1, v2, v3, v4, I, L) h9) h
set_option maxRecDepth 10000 in
theorem okX12_madeBy {G : Gx} {a1 : Int32} {a2 : Int32} {I : Ix} {L : Lx} {Q : Int32 → Ix → Lx → Prop} (h : wpX12_madeBy a1 a2 I L Q) : Mf G MX12_madeBy [.ref 120, .int a1, .int a2] I L (qI Q) := by
  unfold wpX12_madeBy at h
  refine Mf.of pn_RX12 (Nat.le_of_ble_eq_true rfl) ?_
  refine Ev.aload_n (k := 0) (pc' := 1) dX12_madeBy_0 rfl rfl rfl ?_
  refine Ef.callVV [] [] (pc' := 4) dX12_madeBy_1 rfl cv_RX12_575_X12_put ⟨Nat.le_of_ble_eq_true rfl, Nat.le_of_ble_eq_true rfl⟩ ob_120 rfl rfl rfl (Nat.le_of_ble_eq_true rfl) (okX12_put h) (fun I1 L2 h => ?_)
  refine Ev.aload_n (k := 0) (pc' := 5) dX12_madeBy_4 rfl rfl rfl ?_
  refine Ef.callVI [] [] (pc' := 8) dX12_madeBy_5 rfl cv_RX12_559_X12_allMade ⟨Nat.le_of_ble_eq_true rfl, Nat.le_of_ble_eq_true rfl⟩ ob_120 rfl rfl rfl (Nat.le_of_ble_eq_true rfl) (okX12_allMade h) (fun r5 I3 L4 h => ?_)
  refine Ev.istore_n (ls' := [(3, .int _), (0, .ref _), (1, .int _), (2, .int _)]) (pc' := 9) dX12_madeBy_8 rfl rfl (Nat.le_of_ble_eq_true rfl) rfl ?_
  refine Ev.iconst (pc' := 10) dX12_madeBy_9 rfl ki_0 ?_
  refine Ev.istore (ls' := [(4, .int _), (3, .int _), (0, .ref _), (1, .int _), (2, .int _)]) (pc' := 12) dX12_madeBy_10 rfl (Nat.le_of_ble_eq_true rfl) rfl ?_
  exact Ev.sub [2, 3, 4, 1, 0] rfl (okX12_madeBy_h12 h)
def wpX12_isTerm (a0 : Int32) (I : Ix) (L : Lx) (Q : Bool → Ix → Lx → Prop) : Prop := (a0 < 0 → Q false I L) ∧ (¬ a0 < 0 → (40 < a0 → Q false I L) ∧ (¬ 40 < a0 → Q true I L))
set_option maxRecDepth 10000 in
theorem okX12_isTerm {G : Gx} {a0 : Int32} {I : Ix} {L : Lx} {Q : Bool → Ix → Lx → Prop} (h : wpX12_isTerm a0 I L Q) : Mf G MX12_isTerm [.int a0] I L (qZ Q) := by
  unfold wpX12_isTerm at h
  refine Mf.of pn_RX12 (Nat.le_of_ble_eq_true rfl) ?_
  refine Ev.iload_n (k := 0) (pc' := 1) dX12_isTerm_0 rfl rfl rfl ?_
  refine Ev.if_lt (pc' := 4) (tgt := 14) dX12_isTerm_1 rfl rfl (fun hc => ?_) (fun hc => ?_)
  · have h := h.1 hc
    refine Ev.iconst (pc' := 15) dX12_isTerm_14 rfl ki_0 ?_
    exact Ef.zret (b := false) dX12_isTerm_15 rfl h
  · have h := h.2 hc
    refine Ev.iload_n (k := 0) (pc' := 5) dX12_isTerm_4 rfl rfl rfl ?_
    refine Ev.bipush (pc' := 7) dX12_isTerm_5 rfl kb_40 ?_
    refine Ev.icmp_gt (pc' := 10) (tgt := 14) dX12_isTerm_7 rfl rfl (fun hc => ?_) (fun hc => ?_)
    · have h := h.1 hc
      refine Ev.iconst (pc' := 15) dX12_isTerm_14 rfl ki_0 ?_
      exact Ef.zret (b := false) dX12_isTerm_15 rfl h
    · have h := h.2 hc
      refine Ev.iconst (pc' := 11) dX12_isTerm_10 rfl ki_1 ?_
      refine Ev.goto (tgt := 15) dX12_isTerm_11 rfl ?_
      exact Ef.zret (b := true) dX12_isTerm_15 rfl h
def wpX12_made_b36 (Q : Int32 → Ix → Lx → Prop) (t1 : Int32) (t2 : Int32) (I : Ix) (L : Lx) : Prop := wpX12_madeBy t1 t2 I L (fun r3 I1 L2 => Q r3 I1 L2)
def wpX12_made_b16 (Q : Int32 → Ix → Lx → Prop) (I : Ix) (L : Lx) : Prop := Q (-1) I L
def wpX12_made (a1 : Int32) (a2 : Int32) (I : Ix) (L : Lx) (Q : Int32 → Ix → Lx → Prop) : Prop := wpX12_isTerm a1 I L (fun r3 I1 L2 => (r3 = false → wpX12_made_b16 Q I1 L2) ∧ (r3 = true → (a2 < 0 → wpX12_made_b16 Q I1 L2) ∧ (¬ a2 < 0 → (a2 ≤ 4 → (¬ a2 = 0 → wpX12_made_b36 Q a1 (a2 - 1) I1 L2) ∧ (a2 = 0 → wpX12_made_b36 Q a1 (I1 120 46) I1 L2)) ∧ (¬ a2 ≤ 4 → wpX12_made_b16 Q I1 L2))))
set_option maxRecDepth 10000 in
theorem okX12_made_b36 {G : Gx} {Q : Int32 → Ix → Lx → Prop} {t1 : Int32} {t2 : Int32} {I : Ix} {L : Lx} (h : wpX12_made_b36 Q t1 t2 I L) : Ef G MX12_made (qI Q) 36 [] [.int t2, .int t1, .ref 120] I L := by
  unfold wpX12_made_b36 at h
  refine Ef.callVI [.int _, .int _] [] (pc' := 39) dX12_made_36 rfl cv_RX12_642_X12_madeBy ⟨Nat.le_of_ble_eq_true rfl, Nat.le_of_ble_eq_true rfl⟩ ob_120 rfl rfl rfl (Nat.le_of_ble_eq_true rfl) (okX12_madeBy h) (fun r3 I1 L2 h => ?_)
  exact Ef.iret dX12_made_39 rfl h
set_option maxRecDepth 10000 in
theorem okX12_made_b16 {G : Gx} {Q : Int32 → Ix → Lx → Prop} {I : Ix} {L : Lx} (h : wpX12_made_b16 Q I L) : Ef G MX12_made (qI Q) 16 [] [] I L := by
  unfold wpX12_made_b16 at h
  refine Ev.iconst (pc' := 17) dX12_made_16 rfl ki_m1 ?_
  refine Ev.goto (tgt := 39) dX12_made_17 rfl ?_
  exact Ef.iret dX12_made_39 rfl h
set_option maxRecDepth 10000 in
theorem okX12_made {G : Gx} {a1 : Int32} {a2 : Int32} {I : Ix} {L : Lx} {Q : Int32 → Ix → Lx → Prop} (h : wpX12_made a1 a2 I L Q) : Mf G MX12_made [.ref 120, .int a1, .int a2] I L (qI Q) := by
  unfold wpX12_made at h
  refine Mf.of pn_RX12 (Nat.le_of_ble_eq_true rfl) ?_
  refine Ev.iload_n (k := 1) (pc' := 1) dX12_made_0 rfl rfl rfl ?_
  refine Ef.callSZ [.int _] [] (pc' := 4) dX12_made_1 rfl cv_RX12_639_X12_isTerm ⟨Nat.le_of_ble_eq_true rfl, Nat.le_of_ble_eq_true rfl⟩ rfl rfl (Nat.le_of_ble_eq_true rfl) (okX12_isTerm h) (fun r3 I1 L2 h => ?_)
  refine Ef.ifz_eq (pc' := 7) (tgt := 16) dX12_made_4 rfl rfl (fun hc => ?_) (fun hc => ?_)
  · have h := h.1 hc
    exact Ev.sub [] rfl (okX12_made_b16 h)
  · have h := h.2 hc
    refine Ev.iload_n (k := 2) (pc' := 8) dX12_made_7 rfl rfl rfl ?_
    refine Ev.if_lt (pc' := 11) (tgt := 16) dX12_made_8 rfl rfl (fun hc => ?_) (fun hc => ?_)
    · have h := h.1 hc
      exact Ev.sub [] rfl (okX12_made_b16 h)
    · have h := h.2 hc
      refine Ev.iload_n (k := 2) (pc' := 12) dX12_made_11 rfl rfl rfl ?_
      refine Ev.iconst (pc' := 13) dX12_made_12 rfl ki_4 ?_
      refine Ev.icmp_le (pc' := 16) (tgt := 20) dX12_made_13 rfl rfl (fun hc => ?_) (fun hc => ?_)
      · have h := h.1 hc
        refine Ev.aload_n (k := 0) (pc' := 21) dX12_made_20 rfl rfl rfl ?_
        refine Ev.iload_n (k := 1) (pc' := 22) dX12_made_21 rfl rfl rfl ?_
        refine Ev.iload_n (k := 2) (pc' := 23) dX12_made_22 rfl rfl rfl ?_
        refine Ev.if_ne (pc' := 26) (tgt := 33) dX12_made_23 rfl rfl (fun hc => ?_) (fun hc => ?_)
        · have h := h.1 hc
          refine Ev.iload_n (k := 2) (pc' := 34) dX12_made_33 rfl rfl rfl ?_
          refine Ev.iconst (pc' := 35) dX12_made_34 rfl ki_1 ?_
          refine Ev.isub (pc' := 36) dX12_made_35 rfl ?_
          exact Ev.sub [] rfl (okX12_made_b36 h)
        · have h := h.2 hc
          refine Ev.aload_n (k := 0) (pc' := 27) dX12_made_26 rfl rfl rfl ?_
          refine Ev.getI (pc' := 30) dX12_made_27 rfl fa_RX12_443 ob_120 fk_12_46 ?_
          refine Ev.goto (tgt := 36) dX12_made_30 rfl ?_
          exact Ev.sub [] rfl (okX12_made_b36 h)
      · have h := h.2 hc
        exact Ev.sub [] rfl (okX12_made_b16 h)
def wpX12_law_l13 (Q : Int32 → Ix → Lx → Prop) (P13 : Int32 → Int32 → Int32 → Ix → Lx → Prop) (v1 : Int32) (v2 : Int32) (v3 : Int32) (I : Ix) (L : Lx) : Prop := (3 ≤ v3 → Q v2 I L) ∧ (¬ 3 ≤ v3 → wpX12_madeBy v1 v3 I L (fun r3 I1 L2 => wpX12_madeBy v1 v2 I1 L2 (fun r6 I4 L5 => (r3 ≤ r6 → P13 v1 v2 (v3 + 1) I4 L5) ∧ (¬ r3 ≤ r6 → P13 v1 v3 (v3 + 1) I4 L5))))
def wpX12_law_h13 (Q : Int32 → Ix → Lx → Prop) (v1 : Int32) (v2 : Int32) (v3 : Int32) (I : Ix) (L : Lx) : Prop := Lfp (X := Int32 × Int32 × Int32 × Ix × Lx) (fun P z => wpX12_law_l13 Q (fun v1 v2 v3 I L => P (v1, v2, v3, I, L)) z.1 z.2.1 z.2.2.1 z.2.2.2.1 z.2.2.2.2) (v1, v2, v3, I, L)
theorem wpX12_law_h13_fold {Q : Int32 → Ix → Lx → Prop} {v1 : Int32} {v2 : Int32} {v3 : Int32} {I : Ix} {L : Lx} (h : wpX12_law_l13 Q (wpX12_law_h13 Q) v1 v2 v3 I L) : wpX12_law_h13 Q v1 v2 v3 I L := Lfp.fold h
def wpX12_law (a1 : Int32) (I : Ix) (L : Lx) (Q : Int32 → Ix → Lx → Prop) : Prop := wpX12_isTerm a1 I L (fun r3 I1 L2 => (r3 = true → wpX12_law_h13 Q a1 0 1 I1 L2) ∧ (r3 = false → Q (-1) I1 L2))
set_option maxRecDepth 10000 in
theorem okX12_law_l13 {G : Gx} {Q : Int32 → Ix → Lx → Prop} {P13 : Int32 → Int32 → Int32 → Ix → Lx → Prop} (hP13 : ∀ (v1 : Int32) (v2 : Int32) (v3 : Int32) (I : Ix) (L : Lx), P13 v1 v2 v3 I L → Ef G MX12_law (qI Q) 13 [(0, .ref 120), (1, .int v1), (2, .int v2), (3, .int v3)] [] I L) {v1 : Int32} {v2 : Int32} {v3 : Int32} {I : Ix} {L : Lx} (h : wpX12_law_l13 Q P13 v1 v2 v3 I L) : Ef G MX12_law (qI Q) 13 [(0, .ref 120), (1, .int v1), (2, .int v2), (3, .int v3)] [] I L := by
  unfold wpX12_law_l13 at h
  refine Ev.iload_n (k := 3) (pc' := 14) dX12_law_13 rfl rfl rfl ?_
  refine Ev.iconst (pc' := 15) dX12_law_14 rfl ki_3 ?_
  refine Ev.icmp_ge (pc' := 18) (tgt := 41) dX12_law_15 rfl rfl (fun hc => ?_) (fun hc => ?_)
  · have h := h.1 hc
    refine Ev.iload_n (k := 2) (pc' := 42) dX12_law_41 rfl rfl rfl ?_
    exact Ef.iret dX12_law_42 rfl h
  · have h := h.2 hc
    refine Ev.aload_n (k := 0) (pc' := 19) dX12_law_18 rfl rfl rfl ?_
    refine Ev.iload_n (k := 1) (pc' := 20) dX12_law_19 rfl rfl rfl ?_
    refine Ev.iload_n (k := 3) (pc' := 21) dX12_law_20 rfl rfl rfl ?_
    refine Ef.callVI [.int _, .int _] [] (pc' := 24) dX12_law_21 rfl cv_RX12_642_X12_madeBy ⟨Nat.le_of_ble_eq_true rfl, Nat.le_of_ble_eq_true rfl⟩ ob_120 rfl rfl rfl (Nat.le_of_ble_eq_true rfl) (okX12_madeBy h) (fun r3 I1 L2 h => ?_)
    refine Ev.aload_n (k := 0) (pc' := 25) dX12_law_24 rfl rfl rfl ?_
    refine Ev.iload_n (k := 1) (pc' := 26) dX12_law_25 rfl rfl rfl ?_
    refine Ev.iload_n (k := 2) (pc' := 27) dX12_law_26 rfl rfl rfl ?_
    refine Ef.callVI [.int _, .int _] [.int _] (pc' := 30) dX12_law_27 rfl cv_RX12_642_X12_madeBy ⟨Nat.le_of_ble_eq_true rfl, Nat.le_of_ble_eq_true rfl⟩ ob_120 rfl rfl rfl (Nat.le_of_ble_eq_true rfl) (okX12_madeBy h) (fun r6 I4 L5 h => ?_)
    refine Ev.icmp_le (pc' := 33) (tgt := 35) dX12_law_30 rfl rfl (fun hc => ?_) (fun hc => ?_)
    · have h := h.1 hc
      refine Ev.iinc (k := 3) (v := _) (ls' := [(3, .int _), (0, .ref _), (1, .int _), (2, .int _)]) (pc' := 38) dX12_law_35 rfl rfl (congrArg (_ + ·) ki_1) (Nat.le_of_ble_eq_true rfl) rfl ?_
      refine Ev.goto (tgt := 13) dX12_law_38 rfl ?_
      exact Ev.sub [1, 2, 3, 0] rfl (hP13 _ _ _ _ _ h)
    · have h := h.2 hc
      refine Ev.iload_n (k := 3) (pc' := 34) dX12_law_33 rfl rfl rfl ?_
      refine Ev.istore_n (ls' := [(2, .int _), (0, .ref _), (1, .int _), (3, .int _)]) (pc' := 35) dX12_law_34 rfl rfl (Nat.le_of_ble_eq_true rfl) rfl ?_
      refine Ev.iinc (k := 3) (v := _) (ls' := [(3, .int _), (2, .int _), (0, .ref _), (1, .int _)]) (pc' := 38) dX12_law_35 rfl rfl (congrArg (_ + ·) ki_1) (Nat.le_of_ble_eq_true rfl) rfl ?_
      refine Ev.goto (tgt := 13) dX12_law_38 rfl ?_
      exact Ev.sub [2, 3, 1, 0] rfl (hP13 _ _ _ _ _ h)
set_option maxRecDepth 10000 in
theorem okX12_law_h13 {G : Gx} {Q : Int32 → Ix → Lx → Prop} {v1 : Int32} {v2 : Int32} {v3 : Int32} {I : Ix} {L : Lx} (h : wpX12_law_h13 Q v1 v2 v3 I L) : Ef G MX12_law (qI Q) 13 [(0, .ref 120), (1, .int v1), (2, .int v2), (3, .int v3)] [] I L := by
  unfold wpX12_law_h13 at h
  refine Lfp.ind (P := fun z => Ef G MX12_law (qI Q) 13 [(0, .ref 120), (1, .int z.1), (2, .int z.2.1), (3, .int z.2.2.1)] [] z.2.2.2.1 z.2.2.2.2) ?_ h
  intro z P' hP' h
  obtain ⟨v1, v2, v3, I, L⟩ := z
  exact okX12_law_l13 (fun v1 v2 v3 I L h9 => hP' (v1, v2, v3, I, L) h9) h
set_option maxRecDepth 10000 in
theorem okX12_law {G : Gx} {a1 : Int32} {I : Ix} {L : Lx} {Q : Int32 → Ix → Lx → Prop} (h : wpX12_law a1 I L Q) : Mf G MX12_law [.ref 120, .int a1] I L (qI Q) := by
  unfold wpX12_law at h
  refine Mf.of pn_RX12 (Nat.le_of_ble_eq_true rfl) ?_
  refine Ev.iload_n (k := 1) (pc' := 1) dX12_law_0 rfl rfl rfl ?_
  refine Ef.callSZ [.int _] [] (pc' := 4) dX12_law_1 rfl cv_RX12_639_X12_isTerm ⟨Nat.le_of_ble_eq_true rfl, Nat.le_of_ble_eq_true rfl⟩ rfl rfl (Nat.le_of_ble_eq_true rfl) (okX12_isTerm h) (fun r3 I1 L2 h => ?_)
  refine Ef.ifz_ne (pc' := 7) (tgt := 9) dX12_law_4 rfl rfl (fun hc => ?_) (fun hc => ?_)
  · have h := h.1 hc
    refine Ev.iconst (pc' := 10) dX12_law_9 rfl ki_0 ?_
    refine Ev.istore_n (ls' := [(2, .int _), (0, .ref _), (1, .int _)]) (pc' := 11) dX12_law_10 rfl rfl (Nat.le_of_ble_eq_true rfl) rfl ?_
    refine Ev.iconst (pc' := 12) dX12_law_11 rfl ki_1 ?_
    refine Ev.istore_n (ls' := [(3, .int _), (2, .int _), (0, .ref _), (1, .int _)]) (pc' := 13) dX12_law_12 rfl rfl (Nat.le_of_ble_eq_true rfl) rfl ?_
    exact Ev.sub [2, 3, 1, 0] rfl (okX12_law_h13 h)
  · have h := h.2 hc
    refine Ev.iconst (pc' := 8) dX12_law_7 rfl ki_m1 ?_
    exact Ef.iret dX12_law_8 rfl h
def wpX12_usedOf_b44 (Q : Int64 → Ix → Lx → Prop) (v1 : Int32) (v2 : Int32) (v3 : Int32) (v4 : Int32) (v5 : Int64) (t0 : Int32) (I : Ix) (L : Lx) : Prop := (t0 = 0 → vp_in ((5 * v1) + 2) 50 ∧ wpX12_lower v2 (I 141 ((5 * v1) + 2).toNatClampNeg) v4 I L (fun r3 I1 L2 => vp_in r3 101 ∧ Q (v5 + (((v3.toInt64) * (L2 162 r3.toNatClampNeg)) / 100)) I1 L2)) ∧ (¬ t0 = 0 → Q (v5 + 0) I L)
def wpX12_usedOf_b43 (Q : Int64 → Ix → Lx → Prop) (v1 : Int32) (v2 : Int32) (v3 : Int32) (v4 : Int32) (v5 : Int64) (I : Ix) (L : Lx) : Prop := wpX12_usedOf_b44 Q v1 v2 v3 v4 v5 0 I L
def wpX12_usedOf (a1 : Int32) (a2 : Int32) (a3 : Int32) (a4 : Int32) (I : Ix) (L : Lx) (Q : Int64 → Ix → Lx → Prop) : Prop := vp_in a1 10 ∧ vp_in ((5 * a1) + 4) 50 ∧ (¬ (I 141 ((5 * a1) + 4).toNatClampNeg) = 1 → wpX12_usedOf_b43 Q a1 a2 a3 a4 (((10 * ((I 146 a1.toNatClampNeg).toInt64)) * (a2.toInt64)) * (a4.toInt64)) I L) ∧ ((I 141 ((5 * a1) + 4).toNatClampNeg) = 1 → (a4 ≤ 0 → wpX12_usedOf_b43 Q a1 a2 a3 a4 (((10 * ((I 146 a1.toNatClampNeg).toInt64)) * (a2.toInt64)) * (a4.toInt64)) I L) ∧ (¬ a4 ≤ 0 → wpX12_usedOf_b44 Q a1 a2 a3 a4 (((10 * ((I 146 a1.toNatClampNeg).toInt64)) * (a2.toInt64)) * (a4.toInt64)) 1 I L))
set_option maxRecDepth 10000 in
theorem okX12_usedOf_b44 {G : Gx} {Q : Int64 → Ix → Lx → Prop} {v1 : Int32} {v2 : Int32} {v3 : Int32} {v4 : Int32} {v5 : Int64} {t0 : Int32} {I : Ix} {L : Lx} (h : wpX12_usedOf_b44 Q v1 v2 v3 v4 v5 t0 I L) : Ef G MX12_usedOf (qL Q) 44 [(0, .ref 120), (1, .int v1), (2, .int v2), (3, .int v3), (4, .int v4), (5, .long v5)] [.int t0] I L := by
  unfold wpX12_usedOf_b44 at h
  refine Ev.istore (ls' := [(7, .int _), (0, .ref _), (1, .int _), (2, .int _), (3, .int _), (4, .int _), (5, .long _)]) (pc' := 46) dX12_usedOf_44 rfl (Nat.le_of_ble_eq_true rfl) rfl ?_
  refine Ev.lload (k := 6) (pc' := 48) dX12_usedOf_46 rfl rfl ?_
  refine Ev.iload (k := 0) (pc' := 50) dX12_usedOf_48 rfl rfl ?_
  refine Ev.if_eq (pc' := 53) (tgt := 57) dX12_usedOf_50 rfl rfl (fun hc => ?_) (fun hc => ?_)
  · have h := h.1 hc
    refine Ev.iload_n (k := 4) (pc' := 58) dX12_usedOf_57 rfl rfl rfl ?_
    refine Ev.i2l (pc' := 59) dX12_usedOf_58 rfl ?_
    refine Ev.aload_n (k := 1) (pc' := 60) dX12_usedOf_59 rfl rfl rfl ?_
    refine Ev.getR (pc' := 63) dX12_usedOf_60 rfl fa_RX12_145 ob_120 fk_12_85 rf_120_85 ?_
    refine Ev.iload_n (k := 3) (pc' := 64) dX12_usedOf_63 rfl rfl rfl ?_
    refine Ev.aload_n (k := 1) (pc' := 65) dX12_usedOf_64 rfl rfl rfl ?_
    refine Ev.getR (pc' := 68) dX12_usedOf_65 rfl fa_RX12_75 ob_120 fk_12_34 rf_120_34 ?_
    refine Ev.iconst (pc' := 69) dX12_usedOf_68 rfl ki_5 ?_
    refine Ev.iload_n (k := 2) (pc' := 70) dX12_usedOf_69 rfl rfl rfl ?_
    refine Ev.imul (pc' := 71) dX12_usedOf_70 rfl ?_
    refine Ev.iconst (pc' := 72) dX12_usedOf_71 rfl ki_2 ?_
    refine Ev.iadd (pc' := 73) dX12_usedOf_72 rfl ?_
    refine Ev.iaload (j := _) (pc' := 74) dX12_usedOf_73 rfl ar_141 h.1 rfl ?_
    have h := h.2
    refine Ev.iload (k := 5) (pc' := 76) dX12_usedOf_74 rfl rfl ?_
    refine Ef.callSI [.int _, .int _, .int _] [.ref _, .long _, .long _] (pc' := 79) dX12_usedOf_76 rfl cv_RX12_486_X12_lower ⟨Nat.le_of_ble_eq_true rfl, Nat.le_of_ble_eq_true rfl⟩ rfl rfl (Nat.le_of_ble_eq_true rfl) (okX12_lower h) (fun r3 I1 L2 h => ?_)
    refine Ev.laload (j := _) (pc' := 80) dX12_usedOf_79 rfl ar_162 h.1 rfl ?_
    have h := h.2
    refine Ev.lmul (pc' := 81) dX12_usedOf_80 rfl ?_
    refine Ev.ldc2 (pc' := 84) dX12_usedOf_81 rfl ll_RX12_647 ?_
    refine Ev.ldiv (pc' := 85) dX12_usedOf_84 rfl (by decide) ?_
    refine Ev.ladd (pc' := 86) dX12_usedOf_85 rfl ?_
    exact Ef.lret dX12_usedOf_86 rfl h
  · have h := h.2 hc
    refine Ev.lconst (v := 0) (pc' := 54) dX12_usedOf_53 rfl rfl ?_
    refine Ev.goto (tgt := 85) dX12_usedOf_54 rfl ?_
    refine Ev.ladd (pc' := 86) dX12_usedOf_85 rfl ?_
    exact Ef.lret dX12_usedOf_86 rfl h
set_option maxRecDepth 10000 in
theorem okX12_usedOf_b43 {G : Gx} {Q : Int64 → Ix → Lx → Prop} {v1 : Int32} {v2 : Int32} {v3 : Int32} {v4 : Int32} {v5 : Int64} {I : Ix} {L : Lx} (h : wpX12_usedOf_b43 Q v1 v2 v3 v4 v5 I L) : Ef G MX12_usedOf (qL Q) 43 [(0, .ref 120), (1, .int v1), (2, .int v2), (3, .int v3), (4, .int v4), (5, .long v5)] [] I L := by
  unfold wpX12_usedOf_b43 at h
  refine Ev.iconst (pc' := 44) dX12_usedOf_43 rfl ki_0 ?_
  exact okX12_usedOf_b44 h
set_option maxRecDepth 10000 in
theorem okX12_usedOf {G : Gx} {a1 : Int32} {a2 : Int32} {a3 : Int32} {a4 : Int32} {I : Ix} {L : Lx} {Q : Int64 → Ix → Lx → Prop} (h : wpX12_usedOf a1 a2 a3 a4 I L Q) : Mf G MX12_usedOf [.ref 120, .int a1, .int a2, .int a3, .int a4] I L (qL Q) := by
  unfold wpX12_usedOf at h
  refine Mf.of pn_RX12 (Nat.le_of_ble_eq_true rfl) ?_
  refine Ev.ldc2 (pc' := 3) dX12_usedOf_0 rfl ll_RX12_645 ?_
  refine Ev.aload_n (k := 0) (pc' := 4) dX12_usedOf_3 rfl rfl rfl ?_
  refine Ev.getR (pc' := 7) dX12_usedOf_4 rfl fa_RX12_90 ob_120 fk_12_53 rf_120_53 ?_
  refine Ev.iload_n (k := 1) (pc' := 8) dX12_usedOf_7 rfl rfl rfl ?_
  refine Ev.iaload (j := _) (pc' := 9) dX12_usedOf_8 rfl ar_146 h.1 rfl ?_
  have h := h.2
  refine Ev.i2l (pc' := 10) dX12_usedOf_9 rfl ?_
  refine Ev.lmul (pc' := 11) dX12_usedOf_10 rfl ?_
  refine Ev.iload_n (k := 2) (pc' := 12) dX12_usedOf_11 rfl rfl rfl ?_
  refine Ev.i2l (pc' := 13) dX12_usedOf_12 rfl ?_
  refine Ev.lmul (pc' := 14) dX12_usedOf_13 rfl ?_
  refine Ev.iload (k := 4) (pc' := 16) dX12_usedOf_14 rfl rfl ?_
  refine Ev.i2l (pc' := 17) dX12_usedOf_16 rfl ?_
  refine Ev.lmul (pc' := 18) dX12_usedOf_17 rfl ?_
  refine Ev.lstore (ls' := [(5, .long _), (0, .ref _), (1, .int _), (2, .int _), (3, .int _), (4, .int _)]) (pc' := 20) dX12_usedOf_18 rfl (Nat.le_of_ble_eq_true rfl) rfl ?_
  refine Ev.aload_n (k := 1) (pc' := 21) dX12_usedOf_20 rfl rfl rfl ?_
  refine Ev.getR (pc' := 24) dX12_usedOf_21 rfl fa_RX12_75 ob_120 fk_12_34 rf_120_34 ?_
  refine Ev.iconst (pc' := 25) dX12_usedOf_24 rfl ki_5 ?_
  refine Ev.iload_n (k := 2) (pc' := 26) dX12_usedOf_25 rfl rfl rfl ?_
  refine Ev.imul (pc' := 27) dX12_usedOf_26 rfl ?_
  refine Ev.iconst (pc' := 28) dX12_usedOf_27 rfl ki_4 ?_
  refine Ev.iadd (pc' := 29) dX12_usedOf_28 rfl ?_
  refine Ev.iaload (j := _) (pc' := 30) dX12_usedOf_29 rfl ar_141 h.1 rfl ?_
  have h := h.2
  refine Ev.iconst (pc' := 31) dX12_usedOf_30 rfl ki_1 ?_
  refine Ev.icmp_ne (pc' := 34) (tgt := 43) dX12_usedOf_31 rfl rfl (fun hc => ?_) (fun hc => ?_)
  · have h := h.1 hc
    exact Ev.sub [1, 2, 3, 4, 5, 0] rfl (okX12_usedOf_b43 h)
  · have h := h.2 hc
    refine Ev.iload (k := 5) (pc' := 36) dX12_usedOf_34 rfl rfl ?_
    refine Ev.if_le (pc' := 39) (tgt := 43) dX12_usedOf_36 rfl rfl (fun hc => ?_) (fun hc => ?_)
    · have h := h.1 hc
      exact Ev.sub [1, 2, 3, 4, 5, 0] rfl (okX12_usedOf_b43 h)
    · have h := h.2 hc
      refine Ev.iconst (pc' := 40) dX12_usedOf_39 rfl ki_1 ?_
      refine Ev.goto (tgt := 44) dX12_usedOf_40 rfl ?_
      exact Ev.sub [1, 2, 3, 4, 5, 0] rfl (okX12_usedOf_b44 h)
