def wpX12_bestUse_l8 (Q : Int64 → Ix → Lx → Prop) (P8 : Int32 → Int32 → Int32 → Int64 → Int32 → Ix → Lx → Prop) (v1 : Int32) (v2 : Int32) (v3 : Int32) (v4 : Int64) (v6 : Int32) (I : Ix) (L : Lx) : Prop := (9 < v6 → Q v4 I L) ∧ (¬ 9 < v6 → wpX12_usedOf v1 v2 v3 v6 I L (fun r3 I1 L2 => (v4 < r3 → ∀ I4 : Ix, I4 = pu I1 120 86 v6 → P8 v1 v2 v3 r3 (v6 + 1) I4 L2) ∧ (¬ v4 < r3 → P8 v1 v2 v3 v4 (v6 + 1) I1 L2)))
def wpX12_bestUse_h8 (Q : Int64 → Ix → Lx → Prop) (v1 : Int32) (v2 : Int32) (v3 : Int32) (v4 : Int64) (v6 : Int32) (I : Ix) (L : Lx) : Prop := Lfp (X := Int32 × Int32 × Int32 × Int64 × Int32 × Ix × Lx) (fun P z => wpX12_bestUse_l8 Q (fun v1 v2 v3 v4 v6 I L => P (v1, v2, v3, v4, v6, I, L)) z.1 z.2.1 z.2.2.1 z.2.2.2.1 z.2.2.2.2.1 z.2.2.2.2.2.1 z.2.2.2.2.2.2) (v1, v2, v3, v4, v6, I, L)
theorem wpX12_bestUse_h8_fold {Q : Int64 → Ix → Lx → Prop} {v1 : Int32} {v2 : Int32} {v3 : Int32} {v4 : Int64} {v6 : Int32} {I : Ix} {L : Lx} (h : wpX12_bestUse_l8 Q (wpX12_bestUse_h8 Q) v1 v2 v3 v4 v6 I L) : wpX12_bestUse_h8 Q v1 v2 v3 v4 v6 I L := Lfp.fold h
def wpX12_bestUse (a1 : Int32) (a2 : Int32) (a3 : Int32) (I : Ix) (L : Lx) (Q : Int64 → Ix → Lx → Prop) : Prop := wpX12_bestUse_h8 Q a1 a2 a3 (-1) 0 I L
set_option maxRecDepth 10000 in
theorem okX12_bestUse_l8 {G : Gx} {Q : Int64 → Ix → Lx → Prop} {P8 : Int32 → Int32 → Int32 → Int64 → Int32 → Ix → Lx → Prop} (hP8 : ∀ (v1 : Int32) (v2 : Int32) (v3 : Int32) (v4 : Int64) (v6 : Int32) (I : Ix) (L : Lx), P8 v1 v2 v3 v4 v6 I L → Ef G MX12_bestUse (qL Q) 8 [(0, .ref 120), (1, .int v1), (2, .int v2), (3, .int v3), (4, .long v4), (6, .int v6)] [] I L) {v1 : Int32} {v2 : Int32} {v3 : Int32} {v4 : Int64} {v6 : Int32} {I : Ix} {L : Lx} (h : wpX12_bestUse_l8 Q P8 v1 v2 v3 v4 v6 I L) : Ef G MX12_bestUse (qL Q) 8 [(0, .ref 120), (1, .int v1), (2, .int v2), (3, .int v3), (4, .long v4), (6, .int v6)] [] I L := by
  unfold wpX12_bestUse_l8 at h
  refine Ev.iload (k := 5) (pc' := 10) dX12_bestUse_8 rfl rfl ?_
  refine Ev.bipush (pc' := 12) dX12_bestUse_10 rfl kb_9 ?_
  refine Ev.icmp_gt (pc' := 15) (tgt := 53) dX12_bestUse_12 rfl rfl (fun hc => ?_) (fun hc => ?_)
  · have h := h.1 hc
    refine Ev.lload (k := 4) (pc' := 55) dX12_bestUse_53 rfl rfl ?_
    exact Ef.lret dX12_bestUse_55 rfl h
  · have h := h.2 hc
    refine Ev.aload_n (k := 0) (pc' := 16) dX12_bestUse_15 rfl rfl rfl ?_
    refine Ev.iload_n (k := 1) (pc' := 17) dX12_bestUse_16 rfl rfl rfl ?_
    refine Ev.iload_n (k := 2) (pc' := 18) dX12_bestUse_17 rfl rfl rfl ?_
    refine Ev.iload_n (k := 3) (pc' := 19) dX12_bestUse_18 rfl rfl rfl ?_
    refine Ev.iload (k := 5) (pc' := 21) dX12_bestUse_19 rfl rfl ?_
    refine Ef.callVL [.int _, .int _, .int _, .int _] [] (pc' := 24) dX12_bestUse_21 rfl cv_RX12_651_X12_usedOf ⟨Nat.le_of_ble_eq_true rfl, Nat.le_of_ble_eq_true rfl⟩ ob_120 rfl rfl rfl (Nat.le_of_ble_eq_true rfl) (okX12_usedOf h) (fun r3 I1 L2 h => ?_)
    refine Ev.lstore (ls' := [(7, .long _), (0, .ref _), (1, .int _), (2, .int _), (3, .int _), (4, .long _), (6, .int _)]) (pc' := 26) dX12_bestUse_24 rfl (Nat.le_of_ble_eq_true rfl) rfl ?_
    refine Ev.lload (k := 0) (pc' := 28) dX12_bestUse_26 rfl rfl ?_
    refine Ev.lload (k := 5) (pc' := 30) dX12_bestUse_28 rfl rfl ?_
    refine Ef.lc_gt (pc1 := 31) (pc' := 34) (tgt := 37) dX12_bestUse_30 rfl dX12_bestUse_31 rfl rfl (fun hc => ?_) (fun hc => ?_)
    · have h := h.1 hc
      refine Ev.lload (k := 0) (pc' := 39) dX12_bestUse_37 rfl rfl ?_
      refine Ev.lstore (ls' := [(4, .long _), (7, .long _), (0, .ref _), (1, .int _), (2, .int _), (3, .int _), (6, .int _)]) (pc' := 41) dX12_bestUse_39 rfl (Nat.le_of_ble_eq_true rfl) rfl ?_
      refine Ev.aload_n (k := 2) (pc' := 42) dX12_bestUse_41 rfl rfl rfl ?_
      refine Ev.iload (k := 6) (pc' := 44) dX12_bestUse_42 rfl rfl ?_
      refine Ev.putI (pc' := 47) dX12_bestUse_44 rfl fa_RX12_655 ob_120 fk_12_86 rfl rfl (fun I4 eI4 => ?_)
      have h := h I4 eI4
      refine Ev.iinc (k := 6) (v := _) (ls' := [(6, .int _), (4, .long _), (7, .long _), (0, .ref _), (1, .int _), (2, .int _), (3, .int _)]) (pc' := 50) dX12_bestUse_47 rfl rfl (congrArg (_ + ·) ki_1) (Nat.le_of_ble_eq_true rfl) rfl ?_
      refine Ev.goto (tgt := 8) dX12_bestUse_50 rfl ?_
      exact Ev.sub [3, 4, 5, 6, 1, 0] rfl (hP8 _ _ _ _ _ _ _ h)
    · have h := h.2 hc
      refine Ev.goto (tgt := 47) dX12_bestUse_34 rfl ?_
      refine Ev.iinc (k := 6) (v := _) (ls' := [(6, .int _), (7, .long _), (0, .ref _), (1, .int _), (2, .int _), (3, .int _), (4, .long _)]) (pc' := 50) dX12_bestUse_47 rfl rfl (congrArg (_ + ·) ki_1) (Nat.le_of_ble_eq_true rfl) rfl ?_
      refine Ev.goto (tgt := 8) dX12_bestUse_50 rfl ?_
      exact Ev.sub [2, 3, 4, 5, 6, 0] rfl (hP8 _ _ _ _ _ _ _ h)
set_option maxRecDepth 10000 in
theorem okX12_bestUse_h8 {G : Gx} {Q : Int64 → Ix → Lx → Prop} {v1 : Int32} {v2 : Int32} {v3 : Int32} {v4 : Int64} {v6 : Int32} {I : Ix} {L : Lx} (h : wpX12_bestUse_h8 Q v1 v2 v3 v4 v6 I L) : Ef G MX12_bestUse (qL Q) 8 [(0, .ref 120), (1, .int v1), (2, .int v2), (3, .int v3), (4, .long v4), (6, .int v6)] [] I L := by
  unfold wpX12_bestUse_h8 at h
  refine Lfp.ind (P := fun z => Ef G MX12_bestUse (qL Q) 8 [(0, .ref 120), (1, .int z.1), (2, .int z.2.1), (3, .int z.2.2.1), (4, .long z.2.2.2.1), (6, .int z.2.2.2.2.1)] [] z.2.2.2.2.2.1 z.2.2.2.2.2.2) ?_ h
  intro z P' hP' h
  obtain ⟨v1, v2, v3, v4, v6, I, L⟩ := z
  exact okX12_bestUse_l8 (fun v1 v2 v3 v4 v6 I L h9 => hP' (v1, v2, v3, v4, v6, I, L) h9) h
set_option maxRecDepth 10000 in
theorem okX12_bestUse {G : Gx} {a1 : Int32} {a2 : Int32} {a3 : Int32} {I : Ix} {L : Lx} {Q : Int64 → Ix → Lx → Prop} (h : wpX12_bestUse a1 a2 a3 I L Q) : Mf G MX12_bestUse [.ref 120, .int a1, .int a2, .int a3] I L (qL Q) := by
  unfold wpX12_bestUse at h
  refine Mf.of pn_RX12 (Nat.le_of_ble_eq_true rfl) ?_
  refine Ev.ldc2 (pc' := 3) dX12_bestUse_0 rfl ll_RX12_649 ?_
  refine Ev.lstore (ls' := [(4, .long _), (0, .ref _), (1, .int _), (2, .int _), (3, .int _)]) (pc' := 5) dX12_bestUse_3 rfl (Nat.le_of_ble_eq_true rfl) rfl ?_
  refine Ev.iconst (pc' := 6) dX12_bestUse_5 rfl ki_0 ?_
  refine Ev.istore (ls' := [(6, .int _), (4, .long _), (0, .ref _), (1, .int _), (2, .int _), (3, .int _)]) (pc' := 8) dX12_bestUse_6 rfl (Nat.le_of_ble_eq_true rfl) rfl ?_
  exact Ev.sub [2, 3, 4, 5, 1, 0] rfl (okX12_bestUse_h8 h)
def wpX12_used_l118 (Q : Int32 → Ix → Lx → Prop) (P78 : Int32 → Int32 → Int32 → Int32 → Int32 → Ix → Lx → Prop) (P118 : Int32 → Int32 → Int32 → Int32 → Int32 → Int32 → Ix → Lx → Prop) (v1 : Int32) (v2 : Int32) (v3 : Int32) (v4 : Int32) (v5 : Int32) (v6 : Int32) (I : Ix) (L : Lx) : Prop := (100 < v6 → P78 v1 v2 v3 v4 (v5 + 1) I L) ∧ (¬ 100 < v6 → vp_in v6 101 ∧ vp_in v6 101 ∧ ∀ L1 : Lx, L1 = pu L 162 v6.toNatClampNeg (L 161 v6.toNatClampNeg) → P118 v1 v2 v3 v4 v5 (v6 + 1) I L1)
def wpX12_used_h118 (Q : Int32 → Ix → Lx → Prop) (P78 : Int32 → Int32 → Int32 → Int32 → Int32 → Ix → Lx → Prop) (v1 : Int32) (v2 : Int32) (v3 : Int32) (v4 : Int32) (v5 : Int32) (v6 : Int32) (I : Ix) (L : Lx) : Prop := Lfp (X := Int32 × Int32 × Int32 × Int32 × Int32 × Int32 × Ix × Lx) (fun P z => wpX12_used_l118 Q P78 (fun v1 v2 v3 v4 v5 v6 I L => P (v1, v2, v3, v4, v5, v6, I, L)) z.1 z.2.1 z.2.2.1 z.2.2.2.1 z.2.2.2.2.1 z.2.2.2.2.2.1 z.2.2.2.2.2.2.1 z.2.2.2.2.2.2.2) (v1, v2, v3, v4, v5, v6, I, L)
theorem wpX12_used_h118_fold {Q : Int32 → Ix → Lx → Prop} {P78 : Int32 → Int32 → Int32 → Int32 → Int32 → Ix → Lx → Prop} {v1 : Int32} {v2 : Int32} {v3 : Int32} {v4 : Int32} {v5 : Int32} {v6 : Int32} {I : Ix} {L : Lx} (h : wpX12_used_l118 Q P78 (wpX12_used_h118 Q P78) v1 v2 v3 v4 v5 v6 I L) : wpX12_used_h118 Q P78 v1 v2 v3 v4 v5 v6 I L := Lfp.fold h
def wpX12_used_l87 (Q : Int32 → Ix → Lx → Prop) (P78 : Int32 → Int32 → Int32 → Int32 → Int32 → Ix → Lx → Prop) (P87 : Int32 → Int32 → Int32 → Int32 → Int32 → Int32 → Ix → Lx → Prop) (v1 : Int32) (v2 : Int32) (v3 : Int32) (v4 : Int32) (v5 : Int32) (v6 : Int32) (I : Ix) (L : Lx) : Prop := (100 < v6 → wpX12_used_h118 Q P78 v1 v2 v3 v4 v5 0 I L) ∧ (¬ 100 < v6 → wpX12_bestUse v1 v6 v3 I L (fun r3 I1 L2 => vp_in v6 101 ∧ ∀ L4 : Lx, L4 = pu L2 161 v6.toNatClampNeg r3 → P87 v1 v2 v3 v4 v5 (v6 + 1) I1 L4))
def wpX12_used_h87 (Q : Int32 → Ix → Lx → Prop) (P78 : Int32 → Int32 → Int32 → Int32 → Int32 → Ix → Lx → Prop) (v1 : Int32) (v2 : Int32) (v3 : Int32) (v4 : Int32) (v5 : Int32) (v6 : Int32) (I : Ix) (L : Lx) : Prop := Lfp (X := Int32 × Int32 × Int32 × Int32 × Int32 × Int32 × Ix × Lx) (fun P z => wpX12_used_l87 Q P78 (fun v1 v2 v3 v4 v5 v6 I L => P (v1, v2, v3, v4, v5, v6, I, L)) z.1 z.2.1 z.2.2.1 z.2.2.2.1 z.2.2.2.2.1 z.2.2.2.2.2.1 z.2.2.2.2.2.2.1 z.2.2.2.2.2.2.2) (v1, v2, v3, v4, v5, v6, I, L)
theorem wpX12_used_h87_fold {Q : Int32 → Ix → Lx → Prop} {P78 : Int32 → Int32 → Int32 → Int32 → Int32 → Ix → Lx → Prop} {v1 : Int32} {v2 : Int32} {v3 : Int32} {v4 : Int32} {v5 : Int32} {v6 : Int32} {I : Ix} {L : Lx} (h : wpX12_used_l87 Q P78 (wpX12_used_h87 Q P78) v1 v2 v3 v4 v5 v6 I L) : wpX12_used_h87 Q P78 v1 v2 v3 v4 v5 v6 I L := Lfp.fold h
def wpX12_used_l78 (Q : Int32 → Ix → Lx → Prop) (P78 : Int32 → Int32 → Int32 → Int32 → Int32 → Ix → Lx → Prop) (v1 : Int32) (v2 : Int32) (v3 : Int32) (v4 : Int32) (v5 : Int32) (I : Ix) (L : Lx) : Prop := (v2 ≤ v5 → vp_in v1 10 ∧ wpX12_bestUse v1 (I 144 v1.toNatClampNeg) v3 I L (fun r3 I1 L2 => (¬ v4 = 0 → Q (r3.toInt32) I1 L2) ∧ (v4 = 0 → Q (I1 120 86) I1 L2))) ∧ (¬ v2 ≤ v5 → wpX12_used_h87 Q P78 v1 v2 v3 v4 v5 0 I L)
def wpX12_used_h78 (Q : Int32 → Ix → Lx → Prop) (v1 : Int32) (v2 : Int32) (v3 : Int32) (v4 : Int32) (v5 : Int32) (I : Ix) (L : Lx) : Prop := Lfp (X := Int32 × Int32 × Int32 × Int32 × Int32 × Ix × Lx) (fun P z => wpX12_used_l78 Q (fun v1 v2 v3 v4 v5 I L => P (v1, v2, v3, v4, v5, I, L)) z.1 z.2.1 z.2.2.1 z.2.2.2.1 z.2.2.2.2.1 z.2.2.2.2.2.1 z.2.2.2.2.2.2) (v1, v2, v3, v4, v5, I, L)
theorem wpX12_used_h78_fold {Q : Int32 → Ix → Lx → Prop} {v1 : Int32} {v2 : Int32} {v3 : Int32} {v4 : Int32} {v5 : Int32} {I : Ix} {L : Lx} (h : wpX12_used_l78 Q (wpX12_used_h78 Q) v1 v2 v3 v4 v5 I L) : wpX12_used_h78 Q v1 v2 v3 v4 v5 I L := Lfp.fold h
def wpX12_used_l54 (Q : Int32 → Ix → Lx → Prop) (P54 : Int32 → Int32 → Int32 → Int32 → Int32 → Ix → Lx → Prop) (v1 : Int32) (v2 : Int32) (v3 : Int32) (v4 : Int32) (v5 : Int32) (I : Ix) (L : Lx) : Prop := (100 < v5 → wpX12_used_h78 Q v1 v2 v3 v4 1 I L) ∧ (¬ 100 < v5 → vp_in v5 101 ∧ ∀ L1 : Lx, L1 = pu L 162 v5.toNatClampNeg 0 → P54 v1 v2 v3 v4 (v5 + 1) I L1)
def wpX12_used_h54 (Q : Int32 → Ix → Lx → Prop) (v1 : Int32) (v2 : Int32) (v3 : Int32) (v4 : Int32) (v5 : Int32) (I : Ix) (L : Lx) : Prop := Lfp (X := Int32 × Int32 × Int32 × Int32 × Int32 × Ix × Lx) (fun P z => wpX12_used_l54 Q (fun v1 v2 v3 v4 v5 I L => P (v1, v2, v3, v4, v5, I, L)) z.1 z.2.1 z.2.2.1 z.2.2.2.1 z.2.2.2.2.1 z.2.2.2.2.2.1 z.2.2.2.2.2.2) (v1, v2, v3, v4, v5, I, L)
theorem wpX12_used_h54_fold {Q : Int32 → Ix → Lx → Prop} {v1 : Int32} {v2 : Int32} {v3 : Int32} {v4 : Int32} {v5 : Int32} {I : Ix} {L : Lx} (h : wpX12_used_l54 Q (wpX12_used_h54 Q) v1 v2 v3 v4 v5 I L) : wpX12_used_h54 Q v1 v2 v3 v4 v5 I L := Lfp.fold h
def wpX12_used (a1 : Int32) (a2 : Int32) (a3 : Int32) (a4 : Int32) (I : Ix) (L : Lx) (Q : Int32 → Ix → Lx → Prop) : Prop := wpX12_isThing a1 I L (fun r3 I1 L2 => (r3 = false → Q (-1) I1 L2) ∧ (r3 = true → vp_in a1 10 ∧ (¬ (I1 149 a1.toNatClampNeg) = 0 → Q (-1) I1 L2) ∧ ((I1 149 a1.toNatClampNeg) = 0 → (a2 < 1 → Q (-1) I1 L2) ∧ (¬ a2 < 1 → (30 < a2 → Q (-1) I1 L2) ∧ (¬ 30 < a2 → (a3 < 0 → Q (-1) I1 L2) ∧ (¬ a3 < 0 → (100 < a3 → Q (-1) I1 L2) ∧ (¬ 100 < a3 → (a4 < 0 → Q (-1) I1 L2) ∧ (¬ a4 < 0 → (a4 ≤ 1 → wpX12_used_h54 Q a1 a2 a3 a4 0 I1 L2) ∧ (¬ a4 ≤ 1 → Q (-1) I1 L2)))))))))
set_option maxRecDepth 10000 in
theorem okX12_used_l118 {G : Gx} {Q : Int32 → Ix → Lx → Prop} {P78 : Int32 → Int32 → Int32 → Int32 → Int32 → Ix → Lx → Prop} {P118 : Int32 → Int32 → Int32 → Int32 → Int32 → Int32 → Ix → Lx → Prop} (hP78 : ∀ (v1 : Int32) (v2 : Int32) (v3 : Int32) (v4 : Int32) (v5 : Int32) (I : Ix) (L : Lx), P78 v1 v2 v3 v4 v5 I L → Ef G MX12_used (qI Q) 78 [(0, .ref 120), (1, .int v1), (2, .int v2), (3, .int v3), (4, .int v4), (5, .int v5)] [] I L) (hP118 : ∀ (v1 : Int32) (v2 : Int32) (v3 : Int32) (v4 : Int32) (v5 : Int32) (v6 : Int32) (I : Ix) (L : Lx), P118 v1 v2 v3 v4 v5 v6 I L → Ef G MX12_used (qI Q) 118 [(0, .ref 120), (1, .int v1), (2, .int v2), (3, .int v3), (4, .int v4), (5, .int v5), (6, .int v6)] [] I L) {v1 : Int32} {v2 : Int32} {v3 : Int32} {v4 : Int32} {v5 : Int32} {v6 : Int32} {I : Ix} {L : Lx} (h : wpX12_used_l118 Q P78 P118 v1 v2 v3 v4 v5 v6 I L) : Ef G MX12_used (qI Q) 118 [(0, .ref 120), (1, .int v1), (2, .int v2), (3, .int v3), (4, .int v4), (5, .int v5), (6, .int v6)] [] I L := by
  unfold wpX12_used_l118 at h
  refine Ev.iload (k := 6) (pc' := 120) dX12_used_118 rfl rfl ?_
  refine Ev.bipush (pc' := 122) dX12_used_120 rfl kb_100 ?_
  refine Ev.icmp_gt (pc' := 125) (tgt := 145) dX12_used_122 rfl rfl (fun hc => ?_) (fun hc => ?_)
  · have h := h.1 hc
    refine Ev.iinc (k := 5) (v := _) (ls' := [(5, .int _), (0, .ref _), (1, .int _), (2, .int _), (3, .int _), (4, .int _), (6, .int _)]) (pc' := 148) dX12_used_145 rfl rfl (congrArg (_ + ·) ki_1) (Nat.le_of_ble_eq_true rfl) rfl ?_
    refine Ev.goto (tgt := 78) dX12_used_148 rfl ?_
    exact Ev.sub [1, 2, 3, 4, 5, 0] rfl (hP78 _ _ _ _ _ _ _ h)
  · have h := h.2 hc
    refine Ev.aload_n (k := 0) (pc' := 126) dX12_used_125 rfl rfl rfl ?_
    refine Ev.getR (pc' := 129) dX12_used_126 rfl fa_RX12_145 ob_120 fk_12_85 rf_120_85 ?_
    refine Ev.iload (k := 6) (pc' := 131) dX12_used_129 rfl rfl ?_
    refine Ev.aload_n (k := 0) (pc' := 132) dX12_used_131 rfl rfl rfl ?_
    refine Ev.getR (pc' := 135) dX12_used_132 rfl fa_RX12_142 ob_120 fk_12_84 rf_120_84 ?_
    refine Ev.iload (k := 6) (pc' := 137) dX12_used_135 rfl rfl ?_
    refine Ev.laload (j := _) (pc' := 138) dX12_used_137 rfl ar_161 h.1 rfl ?_
    have h := h.2
    refine Ev.lastore (j := _) (pc' := 139) dX12_used_138 rfl ar_162 h.1 rfl (fun L1 eL1 => ?_)
    have h := h.2 L1 eL1
    refine Ev.iinc (k := 6) (v := _) (ls' := [(6, .int _), (0, .ref _), (1, .int _), (2, .int _), (3, .int _), (4, .int _), (5, .int _)]) (pc' := 142) dX12_used_139 rfl rfl (congrArg (_ + ·) ki_1) (Nat.le_of_ble_eq_true rfl) rfl ?_
    refine Ev.goto (tgt := 118) dX12_used_142 rfl ?_
    exact Ev.sub [1, 2, 3, 4, 5, 6, 0] rfl (hP118 _ _ _ _ _ _ _ _ h)
set_option maxRecDepth 10000 in
theorem okX12_used_h118 {G : Gx} {Q : Int32 → Ix → Lx → Prop} {P78 : Int32 → Int32 → Int32 → Int32 → Int32 → Ix → Lx → Prop} (hP78 : ∀ (v1 : Int32) (v2 : Int32) (v3 : Int32) (v4 : Int32) (v5 : Int32) (I : Ix) (L : Lx), P78 v1 v2 v3 v4 v5 I L → Ef G MX12_used (qI Q) 78 [(0, .ref 120), (1, .int v1), (2, .int v2), (3, .int v3), (4, .int v4), (5, .int v5)] [] I L) {v1 : Int32} {v2 : Int32} {v3 : Int32} {v4 : Int32} {v5 : Int32} {v6 : Int32} {I : Ix} {L : Lx} (h : wpX12_used_h118 Q P78 v1 v2 v3 v4 v5 v6 I L) : Ef G MX12_used (qI Q) 118 [(0, .ref 120), (1, .int v1), (2, .int v2), (3, .int v3), (4, .int v4), (5, .int v5), (6, .int v6)] [] I L := by
  unfold wpX12_used_h118 at h
  refine Lfp.ind (P := fun z => Ef G MX12_used (qI Q) 118 [(0, .ref 120), (1, .int z.1), (2, .int z.2.1), (3, .int z.2.2.1), (4, .int z.2.2.2.1), (5, .int z.2.2.2.2.1), (6, .int z.2.2.2.2.2.1)] [] z.2.2.2.2.2.2.1 z.2.2.2.2.2.2.2) ?_ h
  intro z P' hP' h
  obtain ⟨v1, v2, v3, v4, v5, v6, I, L⟩ := z
  exact okX12_used_l118 hP78 (fun v1 v2 v3 v4 v5 v6 I L h9 => hP' (v1, v2, v3, v4, v5, v6, I, L) h9) h
set_option maxRecDepth 10000 in
theorem okX12_used_l87 {G : Gx} {Q : Int32 → Ix → Lx → Prop} {P78 : Int32 → Int32 → Int32 → Int32 → Int32 → Ix → Lx → Prop} {P87 : Int32 → Int32 → Int32 → Int32 → Int32 → Int32 → Ix → Lx → Prop} (hP78 : ∀ (v1 : Int32) (v2 : Int32) (v3 : Int32) (v4 : Int32) (v5 : Int32) (I : Ix) (L : Lx), P78 v1 v2 v3 v4 v5 I L → Ef G MX12_used (qI Q) 78 [(0, .ref 120), (1, .int v1), (2, .int v2), (3, .int v3), (4, .int v4), (5, .int v5)] [] I L) (hP87 : ∀ (v1 : Int32) (v2 : Int32) (v3 : Int32) (v4 : Int32) (v5 : Int32) (v6 : Int32) (I : Ix) (L : Lx), P87 v1 v2 v3 v4 v5 v6 I L → Ef G MX12_used (qI Q) 87 [(0, .ref 120), (1, .int v1), (2, .int v2), (3, .int v3), (4, .int v4), (5, .int v5), (6, .int v6)] [] I L) {v1 : Int32} {v2 : Int32} {v3 : Int32} {v4 : Int32} {v5 : Int32} {v6 : Int32} {I : Ix} {L : Lx} (h : wpX12_used_l87 Q P78 P87 v1 v2 v3 v4 v5 v6 I L) : Ef G MX12_used (qI Q) 87 [(0, .ref 120), (1, .int v1), (2, .int v2), (3, .int v3), (4, .int v4), (5, .int v5), (6, .int v6)] [] I L := by
  unfold wpX12_used_l87 at h
  refine Ev.iload (k := 6) (pc' := 89) dX12_used_87 rfl rfl ?_
  refine Ev.bipush (pc' := 91) dX12_used_89 rfl kb_100 ?_
  refine Ev.icmp_gt (pc' := 94) (tgt := 115) dX12_used_91 rfl rfl (fun hc => ?_) (fun hc => ?_)
  · have h := h.1 hc
    refine Ev.iconst (pc' := 116) dX12_used_115 rfl ki_0 ?_
    refine Ev.istore (ls' := [(6, .int _), (0, .ref _), (1, .int _), (2, .int _), (3, .int _), (4, .int _), (5, .int _)]) (pc' := 118) dX12_used_116 rfl (Nat.le_of_ble_eq_true rfl) rfl ?_
    exact Ev.sub [1, 2, 3, 4, 5, 6, 0] rfl (okX12_used_h118 hP78 h)
  · have h := h.2 hc
    refine Ev.aload_n (k := 0) (pc' := 95) dX12_used_94 rfl rfl rfl ?_
    refine Ev.getR (pc' := 98) dX12_used_95 rfl fa_RX12_142 ob_120 fk_12_84 rf_120_84 ?_
    refine Ev.iload (k := 6) (pc' := 100) dX12_used_98 rfl rfl ?_
    refine Ev.aload_n (k := 0) (pc' := 101) dX12_used_100 rfl rfl rfl ?_
    refine Ev.iload_n (k := 1) (pc' := 102) dX12_used_101 rfl rfl rfl ?_
    refine Ev.iload (k := 6) (pc' := 104) dX12_used_102 rfl rfl ?_
    refine Ev.iload_n (k := 3) (pc' := 105) dX12_used_104 rfl rfl rfl ?_
    refine Ef.callVL [.int _, .int _, .int _] [.int _, .ref _] (pc' := 108) dX12_used_105 rfl cv_RX12_658_X12_bestUse ⟨Nat.le_of_ble_eq_true rfl, Nat.le_of_ble_eq_true rfl⟩ ob_120 rfl rfl rfl (Nat.le_of_ble_eq_true rfl) (okX12_bestUse h) (fun r3 I1 L2 h => ?_)
    refine Ev.lastore (j := _) (pc' := 109) dX12_used_108 rfl ar_161 h.1 rfl (fun L4 eL4 => ?_)
    have h := h.2 L4 eL4
    refine Ev.iinc (k := 6) (v := _) (ls' := [(6, .int _), (0, .ref _), (1, .int _), (2, .int _), (3, .int _), (4, .int _), (5, .int _)]) (pc' := 112) dX12_used_109 rfl rfl (congrArg (_ + ·) ki_1) (Nat.le_of_ble_eq_true rfl) rfl ?_
    refine Ev.goto (tgt := 87) dX12_used_112 rfl ?_
    exact Ev.sub [1, 2, 3, 4, 5, 6, 0] rfl (hP87 _ _ _ _ _ _ _ _ h)
set_option maxRecDepth 10000 in
theorem okX12_used_h87 {G : Gx} {Q : Int32 → Ix → Lx → Prop} {P78 : Int32 → Int32 → Int32 → Int32 → Int32 → Ix → Lx → Prop} (hP78 : ∀ (v1 : Int32) (v2 : Int32) (v3 : Int32) (v4 : Int32) (v5 : Int32) (I : Ix) (L : Lx), P78 v1 v2 v3 v4 v5 I L → Ef G MX12_used (qI Q) 78 [(0, .ref 120), (1, .int v1), (2, .int v2), (3, .int v3), (4, .int v4), (5, .int v5)] [] I L) {v1 : Int32} {v2 : Int32} {v3 : Int32} {v4 : Int32} {v5 : Int32} {v6 : Int32} {I : Ix} {L : Lx} (h : wpX12_used_h87 Q P78 v1 v2 v3 v4 v5 v6 I L) : Ef G MX12_used (qI Q) 87 [(0, .ref 120), (1, .int v1), (2, .int v2), (3, .int v3), (4, .int v4), (5, .int v5), (6, .int v6)] [] I L := by
  unfold wpX12_used_h87 at h
  refine Lfp.ind (P := fun z => Ef G MX12_used (qI Q) 87 [(0, .ref 120), (1, .int z.1), (2, .int z.2.1), (3, .int z.2.2.1), (4, .int z.2.2.2.1), (5, .int z.2.2.2.2.1), (6, .int z.2.2.2.2.2.1)] [] z.2.2.2.2.2.2.1 z.2.2.2.2.2.2.2) ?_ h
  intro z P' hP' h
  obtain ⟨v1, v2, v3, v4, v5, v6, I, L⟩ := z
  exact okX12_used_l87 hP78 (fun v1 v2 v3 v4 v5 v6 I L h9 => hP' (v1, v2, v3, v4, v5, v6, I, L) h9) h
set_option maxRecDepth 10000 in
theorem okX12_used_l78 {G : Gx} {Q : Int32 → Ix → Lx → Prop} {P78 : Int32 → Int32 → Int32 → Int32 → Int32 → Ix → Lx → Prop} (hP78 : ∀ (v1 : Int32) (v2 : Int32) (v3 : Int32) (v4 : Int32) (v5 : Int32) (I : Ix) (L : Lx), P78 v1 v2 v3 v4 v5 I L → Ef G MX12_used (qI Q) 78 [(0, .ref 120), (1, .int v1), (2, .int v2), (3, .int v3), (4, .int v4), (5, .int v5)] [] I L) {v1 : Int32} {v2 : Int32} {v3 : Int32} {v4 : Int32} {v5 : Int32} {I : Ix} {L : Lx} (h : wpX12_used_l78 Q P78 v1 v2 v3 v4 v5 I L) : Ef G MX12_used (qI Q) 78 [(0, .ref 120), (1, .int v1), (2, .int v2), (3, .int v3), (4, .int v4), (5, .int v5)] [] I L := by
  unfold wpX12_used_l78 at h
  refine Ev.iload (k := 5) (pc' := 80) dX12_used_78 rfl rfl ?_
  refine Ev.iload_n (k := 2) (pc' := 81) dX12_used_80 rfl rfl rfl ?_
  refine Ev.icmp_ge (pc' := 84) (tgt := 151) dX12_used_81 rfl rfl (fun hc => ?_) (fun hc => ?_)
  · have h := h.1 hc
    refine Ev.aload_n (k := 0) (pc' := 152) dX12_used_151 rfl rfl rfl ?_
    refine Ev.iload_n (k := 1) (pc' := 153) dX12_used_152 rfl rfl rfl ?_
    refine Ev.aload_n (k := 0) (pc' := 154) dX12_used_153 rfl rfl rfl ?_
    refine Ev.getR (pc' := 157) dX12_used_154 rfl fa_RX12_84 ob_120 fk_12_51 rf_120_51 ?_
    refine Ev.iload_n (k := 1) (pc' := 158) dX12_used_157 rfl rfl rfl ?_
    refine Ev.iaload (j := _) (pc' := 159) dX12_used_158 rfl ar_144 h.1 rfl ?_
    have h := h.2
    refine Ev.iload_n (k := 3) (pc' := 160) dX12_used_159 rfl rfl rfl ?_
    refine Ef.callVL [.int _, .int _, .int _] [] (pc' := 163) dX12_used_160 rfl cv_RX12_658_X12_bestUse ⟨Nat.le_of_ble_eq_true rfl, Nat.le_of_ble_eq_true rfl⟩ ob_120 rfl rfl rfl (Nat.le_of_ble_eq_true rfl) (okX12_bestUse h) (fun r3 I1 L2 h => ?_)
    refine Ev.lstore (ls' := [(5, .long _), (0, .ref _), (1, .int _), (2, .int _), (3, .int _), (4, .int _)]) (pc' := 165) dX12_used_163 rfl (Nat.le_of_ble_eq_true rfl) rfl ?_
    refine Ev.iload (k := 5) (pc' := 167) dX12_used_165 rfl rfl ?_
    refine Ev.if_ne (pc' := 170) (tgt := 177) dX12_used_167 rfl rfl (fun hc => ?_) (fun hc => ?_)
    · have h := h.1 hc
      refine Ev.lload (k := 0) (pc' := 179) dX12_used_177 rfl rfl ?_
      refine Ev.l2i (pc' := 180) dX12_used_179 rfl ?_
      exact Ef.iret dX12_used_180 rfl h
    · have h := h.2 hc
      refine Ev.aload_n (k := 1) (pc' := 171) dX12_used_170 rfl rfl rfl ?_
      refine Ev.getI (pc' := 174) dX12_used_171 rfl fa_RX12_655 ob_120 fk_12_86 ?_
      refine Ev.goto (tgt := 180) dX12_used_174 rfl ?_
      exact Ef.iret dX12_used_180 rfl h
  · have h := h.2 hc
    refine Ev.iconst (pc' := 85) dX12_used_84 rfl ki_0 ?_
    refine Ev.istore (ls' := [(6, .int _), (0, .ref _), (1, .int _), (2, .int _), (3, .int _), (4, .int _), (5, .int _)]) (pc' := 87) dX12_used_85 rfl (Nat.le_of_ble_eq_true rfl) rfl ?_
    exact Ev.sub [1, 2, 3, 4, 5, 6, 0] rfl (okX12_used_h87 hP78 h)
set_option maxRecDepth 10000 in
theorem okX12_used_h78 {G : Gx} {Q : Int32 → Ix → Lx → Prop} {v1 : Int32} {v2 : Int32} {v3 : Int32} {v4 : Int32} {v5 : Int32} {I : Ix} {L : Lx} (h : wpX12_used_h78 Q v1 v2 v3 v4 v5 I L) : Ef G MX12_used (qI Q) 78 [(0, .ref 120), (1, .int v1), (2, .int v2), (3, .int v3), (4, .int v4), (5, .int v5)] [] I L := by
  unfold wpX12_used_h78 at h
  refine Lfp.ind (P := fun z => Ef G MX12_used (qI Q) 78 [(0, .ref 120), (1, .int z.1), (2, .int z.2.1), (3, .int z.2.2.1), (4, .int z.2.2.2.1), (5, .int z.2.2.2.2.1)] [] z.2.2.2.2.2.1 z.2.2.2.2.2.2) ?_ h
  intro z P' hP' h
  obtain ⟨v1, v2, v3, v4, v5, I, L⟩ := z
  exact okX12_used_l78 (fun v1 v2 v3 v4 v5 I L h9 => hP' (v1, v2, v3, v4, v5, I, L) h9) h
set_option maxRecDepth 10000 in
theorem okX12_used_l54 {G : Gx} {Q : Int32 → Ix → Lx → Prop} {P54 : Int32 → Int32 → Int32 → Int32 → Int32 → Ix → Lx → Prop} (hP54 : ∀ (v1 : Int32) (v2 : Int32) (v3 : Int32) (v4 : Int32) (v5 : Int32) (I : Ix) (L : Lx), P54 v1 v2 v3 v4 v5 I L → Ef G MX12_used (qI Q) 54 [(0, .ref 120), (1, .int v1), (2, .int v2), (3, .int v3), (4, .int v4), (5, .int v5)] [] I L) {v1 : Int32} {v2 : Int32} {v3 : Int32} {v4 : Int32} {v5 : Int32} {I : Ix} {L : Lx} (h : wpX12_used_l54 Q P54 v1 v2 v3 v4 v5 I L) : Ef G MX12_used (qI Q) 54 [(0, .ref 120), (1, .int v1), (2, .int v2), (3, .int v3), (4, .int v4), (5, .int v5)] [] I L := by
  unfold wpX12_used_l54 at h
  refine Ev.iload (k := 5) (pc' := 56) dX12_used_54 rfl rfl ?_
  refine Ev.bipush (pc' := 58) dX12_used_56 rfl kb_100 ?_
  refine Ev.icmp_gt (pc' := 61) (tgt := 75) dX12_used_58 rfl rfl (fun hc => ?_) (fun hc => ?_)
  · have h := h.1 hc
    refine Ev.iconst (pc' := 76) dX12_used_75 rfl ki_1 ?_
    refine Ev.istore (ls' := [(5, .int _), (0, .ref _), (1, .int _), (2, .int _), (3, .int _), (4, .int _)]) (pc' := 78) dX12_used_76 rfl (Nat.le_of_ble_eq_true rfl) rfl ?_
    exact Ev.sub [1, 2, 3, 4, 5, 0] rfl (okX12_used_h78 h)
  · have h := h.2 hc
    refine Ev.aload_n (k := 0) (pc' := 62) dX12_used_61 rfl rfl rfl ?_
    refine Ev.getR (pc' := 65) dX12_used_62 rfl fa_RX12_145 ob_120 fk_12_85 rf_120_85 ?_
    refine Ev.iload (k := 5) (pc' := 67) dX12_used_65 rfl rfl ?_
    refine Ev.lconst (v := 0) (pc' := 68) dX12_used_67 rfl rfl ?_
    refine Ev.lastore (j := _) (pc' := 69) dX12_used_68 rfl ar_162 h.1 rfl (fun L1 eL1 => ?_)
    have h := h.2 L1 eL1
    refine Ev.iinc (k := 5) (v := _) (ls' := [(5, .int _), (0, .ref _), (1, .int _), (2, .int _), (3, .int _), (4, .int _)]) (pc' := 72) dX12_used_69 rfl rfl (congrArg (_ + ·) ki_1) (Nat.le_of_ble_eq_true rfl) rfl ?_
    refine Ev.goto (tgt := 54) dX12_used_72 rfl ?_
    exact Ev.sub [1, 2, 3, 4, 5, 0] rfl (hP54 _ _ _ _ _ _ _ h)
set_option maxRecDepth 10000 in
theorem okX12_used_h54 {G : Gx} {Q : Int32 → Ix → Lx → Prop} {v1 : Int32} {v2 : Int32} {v3 : Int32} {v4 : Int32} {v5 : Int32} {I : Ix} {L : Lx} (h : wpX12_used_h54 Q v1 v2 v3 v4 v5 I L) : Ef G MX12_used (qI Q) 54 [(0, .ref 120), (1, .int v1), (2, .int v2), (3, .int v3), (4, .int v4), (5, .int v5)] [] I L := by
  unfold wpX12_used_h54 at h
  refine Lfp.ind (P := fun z => Ef G MX12_used (qI Q) 54 [(0, .ref 120), (1, .int z.1), (2, .int z.2.1), (3, .int z.2.2.1), (4, .int z.2.2.2.1), (5, .int z.2.2.2.2.1)] [] z.2.2.2.2.2.1 z.2.2.2.2.2.2) ?_ h
  intro z P' hP' h
  obtain ⟨v1, v2, v3, v4, v5, I, L⟩ := z
  exact okX12_used_l54 (fun v1 v2 v3 v4 v5 I L h9 => hP' (v1, v2, v3, v4, v5, I, L) h9) h
set_option maxRecDepth 10000 in
theorem okX12_used {G : Gx} {a1 : Int32} {a2 : Int32} {a3 : Int32} {a4 : Int32} {I : Ix} {L : Lx} {Q : Int32 → Ix → Lx → Prop} (h : wpX12_used a1 a2 a3 a4 I L Q) : Mf G MX12_used [.ref 120, .int a1, .int a2, .int a3, .int a4] I L (qI Q) := by
  unfold wpX12_used at h
  refine Mf.of pn_RX12 (Nat.le_of_ble_eq_true rfl) ?_
  refine Ev.aload_n (k := 0) (pc' := 1) dX12_used_0 rfl rfl rfl ?_
  refine Ev.iload_n (k := 1) (pc' := 2) dX12_used_1 rfl rfl rfl ?_
  refine Ef.callVZ [.int _] [] (pc' := 5) dX12_used_2 rfl cv_RX12_565_X12_isThing ⟨Nat.le_of_ble_eq_true rfl, Nat.le_of_ble_eq_true rfl⟩ ob_120 rfl rfl rfl (Nat.le_of_ble_eq_true rfl) (okX12_isThing h) (fun r3 I1 L2 h => ?_)
  refine Ef.ifz_eq (pc' := 8) (tgt := 49) dX12_used_5 rfl rfl (fun hc => ?_) (fun hc => ?_)
  · have h := h.1 hc
    refine Ev.iconst (pc' := 50) dX12_used_49 rfl ki_m1 ?_
    exact Ef.iret dX12_used_50 rfl h
  · have h := h.2 hc
    refine Ev.aload_n (k := 0) (pc' := 9) dX12_used_8 rfl rfl rfl ?_
    refine Ev.getR (pc' := 12) dX12_used_9 rfl fa_RX12_99 ob_120 fk_12_56 rf_120_56 ?_
    refine Ev.iload_n (k := 1) (pc' := 13) dX12_used_12 rfl rfl rfl ?_
    refine Ev.zaload (j := _) (pc' := 14) dX12_used_13 rfl ar_149 h.1 rfl ?_
    have h := h.2
    refine Ev.if_ne (pc' := 17) (tgt := 49) dX12_used_14 rfl rfl (fun hc => ?_) (fun hc => ?_)
    · have h := h.1 hc
      refine Ev.iconst (pc' := 50) dX12_used_49 rfl ki_m1 ?_
      exact Ef.iret dX12_used_50 rfl h
    · have h := h.2 hc
      refine Ev.iload_n (k := 2) (pc' := 18) dX12_used_17 rfl rfl rfl ?_
      refine Ev.iconst (pc' := 19) dX12_used_18 rfl ki_1 ?_
      refine Ev.icmp_lt (pc' := 22) (tgt := 49) dX12_used_19 rfl rfl (fun hc => ?_) (fun hc => ?_)
      · have h := h.1 hc
        refine Ev.iconst (pc' := 50) dX12_used_49 rfl ki_m1 ?_
        exact Ef.iret dX12_used_50 rfl h
      · have h := h.2 hc
        refine Ev.iload_n (k := 2) (pc' := 23) dX12_used_22 rfl rfl rfl ?_
        refine Ev.bipush (pc' := 25) dX12_used_23 rfl kb_30 ?_
        refine Ev.icmp_gt (pc' := 28) (tgt := 49) dX12_used_25 rfl rfl (fun hc => ?_) (fun hc => ?_)
        · have h := h.1 hc
          refine Ev.iconst (pc' := 50) dX12_used_49 rfl ki_m1 ?_
          exact Ef.iret dX12_used_50 rfl h
        · have h := h.2 hc
          refine Ev.iload_n (k := 3) (pc' := 29) dX12_used_28 rfl rfl rfl ?_
          refine Ev.if_lt (pc' := 32) (tgt := 49) dX12_used_29 rfl rfl (fun hc => ?_) (fun hc => ?_)
          · have h := h.1 hc
            refine Ev.iconst (pc' := 50) dX12_used_49 rfl ki_m1 ?_
            exact Ef.iret dX12_used_50 rfl h
          · have h := h.2 hc
            refine Ev.iload_n (k := 3) (pc' := 33) dX12_used_32 rfl rfl rfl ?_
            refine Ev.bipush (pc' := 35) dX12_used_33 rfl kb_100 ?_
            refine Ev.icmp_gt (pc' := 38) (tgt := 49) dX12_used_35 rfl rfl (fun hc => ?_) (fun hc => ?_)
            · have h := h.1 hc
              refine Ev.iconst (pc' := 50) dX12_used_49 rfl ki_m1 ?_
              exact Ef.iret dX12_used_50 rfl h
            · have h := h.2 hc
              refine Ev.iload (k := 4) (pc' := 40) dX12_used_38 rfl rfl ?_
              refine Ev.if_lt (pc' := 43) (tgt := 49) dX12_used_40 rfl rfl (fun hc => ?_) (fun hc => ?_)
              · have h := h.1 hc
                refine Ev.iconst (pc' := 50) dX12_used_49 rfl ki_m1 ?_
                exact Ef.iret dX12_used_50 rfl h
              · have h := h.2 hc
                refine Ev.iload (k := 4) (pc' := 45) dX12_used_43 rfl rfl ?_
                refine Ev.iconst (pc' := 46) dX12_used_45 rfl ki_1 ?_
                refine Ev.icmp_le (pc' := 49) (tgt := 51) dX12_used_46 rfl rfl (fun hc => ?_) (fun hc => ?_)
                · have h := h.1 hc
                  refine Ev.iconst (pc' := 52) dX12_used_51 rfl ki_0 ?_
                  refine Ev.istore (ls' := [(5, .int _), (0, .ref _), (1, .int _), (2, .int _), (3, .int _), (4, .int _)]) (pc' := 54) dX12_used_52 rfl (Nat.le_of_ble_eq_true rfl) rfl ?_
                  exact Ev.sub [1, 2, 3, 4, 5, 0] rfl (okX12_used_h54 h)
                · have h := h.2 hc
                  refine Ev.iconst (pc' := 50) dX12_used_49 rfl ki_m1 ?_
                  exact Ef.iret dX12_used_50 rfl h
def wpX12_lift_l28 (Q : Int32 → Ix → Lx → Prop) (P28 : Int32 → Int32 → Int32 → Int32 → Ix → Lx → Prop) (v1 : Int32) (v2 : Int32) (v3 : Int32) (v4 : Int32) (I : Ix) (L : Lx) : Prop := ((I 120 44) ≤ v4 → Q v3 I L) ∧ (¬ (I 120 44) ≤ v4 → wpX12_heavyOf v4 I L (fun r3 I1 L2 => wpX12_forceOf v1 I1 L2 (fun r6 I4 L5 => (r3 ≤ r6 → P28 v1 v2 (v3 ||| 0) (v4 + 1) I4 L5) ∧ (¬ r3 ≤ r6 → wpX12_heavyOf v4 I4 L5 (fun r9 I7 L8 => wpX12_forceOf v2 I7 L8 (fun r12 I10 L11 => (r9 ≤ r12 → P28 v1 v2 (v3 ||| 0) (v4 + 1) I10 L11) ∧ (¬ r9 ≤ r12 → wpX12_heavyOf v4 I10 L11 (fun r15 I13 L14 => wpX12_forceOf v1 I13 L14 (fun r18 I16 L17 => wpX12_forceOf v2 I16 L17 (fun r21 I19 L20 => ((r18 + r21) < r15 → P28 v1 v2 (v3 ||| 0) (v4 + 1) I19 L20) ∧ (¬ (r18 + r21) < r15 → P28 v1 v2 (v3 ||| (jshl 1 v4)) (v4 + 1) I19 L20)))))))))))
def wpX12_lift_h28 (Q : Int32 → Ix → Lx → Prop) (v1 : Int32) (v2 : Int32) (v3 : Int32) (v4 : Int32) (I : Ix) (L : Lx) : Prop := Lfp (X := Int32 × Int32 × Int32 × Int32 × Ix × Lx) (fun P z => wpX12_lift_l28 Q (fun v1 v2 v3 v4 I L => P (v1, v2, v3, v4, I, L)) z.1 z.2.1 z.2.2.1 z.2.2.2.1 z.2.2.2.2.1 z.2.2.2.2.2) (v1, v2, v3, v4, I, L)
theorem wpX12_lift_h28_fold {Q : Int32 → Ix → Lx → Prop} {v1 : Int32} {v2 : Int32} {v3 : Int32} {v4 : Int32} {I : Ix} {L : Lx} (h : wpX12_lift_l28 Q (wpX12_lift_h28 Q) v1 v2 v3 v4 I L) : wpX12_lift_h28 Q v1 v2 v3 v4 I L := Lfp.fold h
def wpX12_lift (a1 : Int32) (a2 : Int32) (I : Ix) (L : Lx) (Q : Int32 → Ix → Lx → Prop) : Prop := wpX12_isPerson a1 I L (fun r3 I1 L2 => (r3 = false → Q (-1) I1 L2) ∧ (r3 = true → wpX12_isPerson a2 I1 L2 (fun r6 I4 L5 => (r6 = false → Q (-1) I4 L5) ∧ (r6 = true → (¬ a1 = a2 → wpX12_lift_h28 Q a1 a2 0 0 I4 L5) ∧ (a1 = a2 → Q (-1) I4 L5)))))
set_option maxRecDepth 10000 in
theorem okX12_lift_l28 {G : Gx} {Q : Int32 → Ix → Lx → Prop} {P28 : Int32 → Int32 → Int32 → Int32 → Ix → Lx → Prop} (hP28 : ∀ (v1 : Int32) (v2 : Int32) (v3 : Int32) (v4 : Int32) (I : Ix) (L : Lx), P28 v1 v2 v3 v4 I L → Ef G MX12_lift (qI Q) 28 [(0, .ref 120), (1, .int v1), (2, .int v2), (3, .int v3), (4, .int v4)] [] I L) {v1 : Int32} {v2 : Int32} {v3 : Int32} {v4 : Int32} {I : Ix} {L : Lx} (h : wpX12_lift_l28 Q P28 v1 v2 v3 v4 I L) : Ef G MX12_lift (qI Q) 28 [(0, .ref 120), (1, .int v1), (2, .int v2), (3, .int v3), (4, .int v4)] [] I L := by
  unfold wpX12_lift_l28 at h
  refine Ev.iload (k := 4) (pc' := 30) dX12_lift_28 rfl rfl ?_
  refine Ev.aload_n (k := 0) (pc' := 31) dX12_lift_30 rfl rfl rfl ?_
  refine Ev.getI (pc' := 34) dX12_lift_31 rfl fa_RX12_437 ob_120 fk_12_44 ?_
  refine Ev.icmp_ge (pc' := 37) (tgt := 102) dX12_lift_34 rfl rfl (fun hc => ?_) (fun hc => ?_)
  · have h := h.1 hc
    refine Ev.iload_n (k := 3) (pc' := 103) dX12_lift_102 rfl rfl rfl ?_
    exact Ef.iret dX12_lift_103 rfl h
  · have h := h.2 hc
    refine Ev.iload_n (k := 3) (pc' := 38) dX12_lift_37 rfl rfl rfl ?_
    refine Ev.aload_n (k := 0) (pc' := 39) dX12_lift_38 rfl rfl rfl ?_
    refine Ev.iload (k := 4) (pc' := 41) dX12_lift_39 rfl rfl ?_
    refine Ef.callVI [.int _] [.int _] (pc' := 44) dX12_lift_41 rfl cv_RX12_499_X12_heavyOf ⟨Nat.le_of_ble_eq_true rfl, Nat.le_of_ble_eq_true rfl⟩ ob_120 rfl rfl rfl (Nat.le_of_ble_eq_true rfl) (okX12_heavyOf h) (fun r3 I1 L2 h => ?_)
    refine Ev.aload_n (k := 0) (pc' := 45) dX12_lift_44 rfl rfl rfl ?_
    refine Ev.iload_n (k := 1) (pc' := 46) dX12_lift_45 rfl rfl rfl ?_
    refine Ef.callVI [.int _] [.int _, .int _] (pc' := 49) dX12_lift_46 rfl cv_RX12_505_X12_forceOf ⟨Nat.le_of_ble_eq_true rfl, Nat.le_of_ble_eq_true rfl⟩ ob_120 rfl rfl rfl (Nat.le_of_ble_eq_true rfl) (okX12_forceOf h) (fun r6 I4 L5 h => ?_)
    refine Ev.icmp_le (pc' := 52) (tgt := 93) dX12_lift_49 rfl rfl (fun hc => ?_) (fun hc => ?_)
    · have h := h.1 hc
      refine Ev.iconst (pc' := 94) dX12_lift_93 rfl ki_0 ?_
      refine Ev.ior (pc' := 95) dX12_lift_94 rfl ?_
      refine Ev.istore_n (ls' := [(3, .int _), (0, .ref _), (1, .int _), (2, .int _), (4, .int _)]) (pc' := 96) dX12_lift_95 rfl rfl (Nat.le_of_ble_eq_true rfl) rfl ?_
      refine Ev.iinc (k := 4) (v := _) (ls' := [(4, .int _), (3, .int _), (0, .ref _), (1, .int _), (2, .int _)]) (pc' := 99) dX12_lift_96 rfl rfl (congrArg (_ + ·) ki_1) (Nat.le_of_ble_eq_true rfl) rfl ?_
      refine Ev.goto (tgt := 28) dX12_lift_99 rfl ?_
      exact Ev.sub [2, 3, 4, 1, 0] rfl (hP28 _ _ _ _ _ _ h)
    · have h := h.2 hc
      refine Ev.aload_n (k := 0) (pc' := 53) dX12_lift_52 rfl rfl rfl ?_
      refine Ev.iload (k := 4) (pc' := 55) dX12_lift_53 rfl rfl ?_
      refine Ef.callVI [.int _] [.int _] (pc' := 58) dX12_lift_55 rfl cv_RX12_499_X12_heavyOf ⟨Nat.le_of_ble_eq_true rfl, Nat.le_of_ble_eq_true rfl⟩ ob_120 rfl rfl rfl (Nat.le_of_ble_eq_true rfl) (okX12_heavyOf h) (fun r9 I7 L8 h => ?_)
      refine Ev.aload_n (k := 0) (pc' := 59) dX12_lift_58 rfl rfl rfl ?_
      refine Ev.iload_n (k := 2) (pc' := 60) dX12_lift_59 rfl rfl rfl ?_
      refine Ef.callVI [.int _] [.int _, .int _] (pc' := 63) dX12_lift_60 rfl cv_RX12_505_X12_forceOf ⟨Nat.le_of_ble_eq_true rfl, Nat.le_of_ble_eq_true rfl⟩ ob_120 rfl rfl rfl (Nat.le_of_ble_eq_true rfl) (okX12_forceOf h) (fun r12 I10 L11 h => ?_)
      refine Ev.icmp_le (pc' := 66) (tgt := 93) dX12_lift_63 rfl rfl (fun hc => ?_) (fun hc => ?_)
      · have h := h.1 hc
        refine Ev.iconst (pc' := 94) dX12_lift_93 rfl ki_0 ?_
        refine Ev.ior (pc' := 95) dX12_lift_94 rfl ?_
        refine Ev.istore_n (ls' := [(3, .int _), (0, .ref _), (1, .int _), (2, .int _), (4, .int _)]) (pc' := 96) dX12_lift_95 rfl rfl (Nat.le_of_ble_eq_true rfl) rfl ?_
        refine Ev.iinc (k := 4) (v := _) (ls' := [(4, .int _), (3, .int _), (0, .ref _), (1, .int _), (2, .int _)]) (pc' := 99) dX12_lift_96 rfl rfl (congrArg (_ + ·) ki_1) (Nat.le_of_ble_eq_true rfl) rfl ?_
        refine Ev.goto (tgt := 28) dX12_lift_99 rfl ?_
        exact Ev.sub [2, 3, 4, 1, 0] rfl (hP28 _ _ _ _ _ _ h)
      · have h := h.2 hc
        refine Ev.aload_n (k := 0) (pc' := 67) dX12_lift_66 rfl rfl rfl ?_
        refine Ev.iload (k := 4) (pc' := 69) dX12_lift_67 rfl rfl ?_
        refine Ef.callVI [.int _] [.int _] (pc' := 72) dX12_lift_69 rfl cv_RX12_499_X12_heavyOf ⟨Nat.le_of_ble_eq_true rfl, Nat.le_of_ble_eq_true rfl⟩ ob_120 rfl rfl rfl (Nat.le_of_ble_eq_true rfl) (okX12_heavyOf h) (fun r15 I13 L14 h => ?_)
        refine Ev.aload_n (k := 0) (pc' := 73) dX12_lift_72 rfl rfl rfl ?_
        refine Ev.iload_n (k := 1) (pc' := 74) dX12_lift_73 rfl rfl rfl ?_
        refine Ef.callVI [.int _] [.int _, .int _] (pc' := 77) dX12_lift_74 rfl cv_RX12_505_X12_forceOf ⟨Nat.le_of_ble_eq_true rfl, Nat.le_of_ble_eq_true rfl⟩ ob_120 rfl rfl rfl (Nat.le_of_ble_eq_true rfl) (okX12_forceOf h) (fun r18 I16 L17 h => ?_)
        refine Ev.aload_n (k := 0) (pc' := 78) dX12_lift_77 rfl rfl rfl ?_
        refine Ev.iload_n (k := 2) (pc' := 79) dX12_lift_78 rfl rfl rfl ?_
        refine Ef.callVI [.int _] [.int _, .int _, .int _] (pc' := 82) dX12_lift_79 rfl cv_RX12_505_X12_forceOf ⟨Nat.le_of_ble_eq_true rfl, Nat.le_of_ble_eq_true rfl⟩ ob_120 rfl rfl rfl (Nat.le_of_ble_eq_true rfl) (okX12_forceOf h) (fun r21 I19 L20 h => ?_)
        refine Ev.iadd (pc' := 83) dX12_lift_82 rfl ?_
        refine Ev.icmp_gt (pc' := 86) (tgt := 93) dX12_lift_83 rfl rfl (fun hc => ?_) (fun hc => ?_)
        · have h := h.1 hc
          refine Ev.iconst (pc' := 94) dX12_lift_93 rfl ki_0 ?_
          refine Ev.ior (pc' := 95) dX12_lift_94 rfl ?_
          refine Ev.istore_n (ls' := [(3, .int _), (0, .ref _), (1, .int _), (2, .int _), (4, .int _)]) (pc' := 96) dX12_lift_95 rfl rfl (Nat.le_of_ble_eq_true rfl) rfl ?_
          refine Ev.iinc (k := 4) (v := _) (ls' := [(4, .int _), (3, .int _), (0, .ref _), (1, .int _), (2, .int _)]) (pc' := 99) dX12_lift_96 rfl rfl (congrArg (_ + ·) ki_1) (Nat.le_of_ble_eq_true rfl) rfl ?_
          refine Ev.goto (tgt := 28) dX12_lift_99 rfl ?_
          exact Ev.sub [2, 3, 4, 1, 0] rfl (hP28 _ _ _ _ _ _ h)
        · have h := h.2 hc
          refine Ev.iconst (pc' := 87) dX12_lift_86 rfl ki_1 ?_
          refine Ev.iload (k := 4) (pc' := 89) dX12_lift_87 rfl rfl ?_
          refine Ev.ishl (pc' := 90) dX12_lift_89 rfl ?_
          refine Ev.goto (tgt := 94) dX12_lift_90 rfl ?_
          refine Ev.ior (pc' := 95) dX12_lift_94 rfl ?_
          refine Ev.istore_n (ls' := [(3, .int _), (0, .ref _), (1, .int _), (2, .int _), (4, .int _)]) (pc' := 96) dX12_lift_95 rfl rfl (Nat.le_of_ble_eq_true rfl) rfl ?_
          refine Ev.iinc (k := 4) (v := _) (ls' := [(4, .int _), (3, .int _), (0, .ref _), (1, .int _), (2, .int _)]) (pc' := 99) dX12_lift_96 rfl rfl (congrArg (_ + ·) ki_1) (Nat.le_of_ble_eq_true rfl) rfl ?_
          refine Ev.goto (tgt := 28) dX12_lift_99 rfl ?_
          exact Ev.sub [2, 3, 4, 1, 0] rfl (hP28 _ _ _ _ _ _ h)
set_option maxRecDepth 10000 in
theorem okX12_lift_h28 {G : Gx} {Q : Int32 → Ix → Lx → Prop} {v1 : Int32} {v2 : Int32} {v3 : Int32} {v4 : Int32} {I : Ix} {L : Lx} (h : wpX12_lift_h28 Q v1 v2 v3 v4 I L) : Ef G MX12_lift (qI Q) 28 [(0, .ref 120), (1, .int v1), (2, .int v2), (3, .int v3), (4, .int v4)] [] I L := by
  unfold wpX12_lift_h28 at h
  refine Lfp.ind (P := fun z => Ef G MX12_lift (qI Q) 28 [(0, .ref 120), (1, .int z.1), (2, .int z.2.1), (3, .int z.2.2.1), (4, .int z.2.2.2.1)] [] z.2.2.2.2.1 z.2.2.2.2.2) ?_ h
  intro z P' hP' h
  obtain ⟨v1, v2, v3, v4, I, L⟩ := z
  exact okX12_lift_l28 (fun v1 v2 v3 v4 I L h9 => hP' (v1, v2, v3, v4, I, L) h9) h
set_option maxRecDepth 10000 in
theorem okX12_lift {G : Gx} {a1 : Int32} {a2 : Int32} {I : Ix} {L : Lx} {Q : Int32 → Ix → Lx → Prop} (h : wpX12_lift a1 a2 I L Q) : Mf G MX12_lift [.ref 120, .int a1, .int a2] I L (qI Q) := by
  unfold wpX12_lift at h
  refine Mf.of pn_RX12 (Nat.le_of_ble_eq_true rfl) ?_
  refine Ev.aload_n (k := 0) (pc' := 1) dX12_lift_0 rfl rfl rfl ?_
  refine Ev.iload_n (k := 1) (pc' := 2) dX12_lift_1 rfl rfl rfl ?_
  refine Ef.callVZ [.int _] [] (pc' := 5) dX12_lift_2 rfl cv_RX12_568_X12_isPerson ⟨Nat.le_of_ble_eq_true rfl, Nat.le_of_ble_eq_true rfl⟩ ob_120 rfl rfl rfl (Nat.le_of_ble_eq_true rfl) (okX12_isPerson h) (fun r3 I1 L2 h => ?_)
  refine Ef.ifz_eq (pc' := 8) (tgt := 21) dX12_lift_5 rfl rfl (fun hc => ?_) (fun hc => ?_)
  · have h := h.1 hc
    refine Ev.iconst (pc' := 22) dX12_lift_21 rfl ki_m1 ?_
    exact Ef.iret dX12_lift_22 rfl h
  · have h := h.2 hc
    refine Ev.aload_n (k := 0) (pc' := 9) dX12_lift_8 rfl rfl rfl ?_
    refine Ev.iload_n (k := 2) (pc' := 10) dX12_lift_9 rfl rfl rfl ?_
    refine Ef.callVZ [.int _] [] (pc' := 13) dX12_lift_10 rfl cv_RX12_568_X12_isPerson ⟨Nat.le_of_ble_eq_true rfl, Nat.le_of_ble_eq_true rfl⟩ ob_120 rfl rfl rfl (Nat.le_of_ble_eq_true rfl) (okX12_isPerson h) (fun r6 I4 L5 h => ?_)
    refine Ef.ifz_eq (pc' := 16) (tgt := 21) dX12_lift_13 rfl rfl (fun hc => ?_) (fun hc => ?_)
    · have h := h.1 hc
      refine Ev.iconst (pc' := 22) dX12_lift_21 rfl ki_m1 ?_
      exact Ef.iret dX12_lift_22 rfl h
    · have h := h.2 hc
      refine Ev.iload_n (k := 1) (pc' := 17) dX12_lift_16 rfl rfl rfl ?_
      refine Ev.iload_n (k := 2) (pc' := 18) dX12_lift_17 rfl rfl rfl ?_
      refine Ev.icmp_ne (pc' := 21) (tgt := 23) dX12_lift_18 rfl rfl (fun hc => ?_) (fun hc => ?_)
      · have h := h.1 hc
        refine Ev.iconst (pc' := 24) dX12_lift_23 rfl ki_0 ?_
        refine Ev.istore_n (ls' := [(3, .int _), (0, .ref _), (1, .int _), (2, .int _)]) (pc' := 25) dX12_lift_24 rfl rfl (Nat.le_of_ble_eq_true rfl) rfl ?_
        refine Ev.iconst (pc' := 26) dX12_lift_25 rfl ki_0 ?_
        refine Ev.istore (ls' := [(4, .int _), (3, .int _), (0, .ref _), (1, .int _), (2, .int _)]) (pc' := 28) dX12_lift_26 rfl (Nat.le_of_ble_eq_true rfl) rfl ?_
        exact Ev.sub [2, 3, 4, 1, 0] rfl (okX12_lift_h28 h)
      · have h := h.2 hc
        refine Ev.iconst (pc' := 22) dX12_lift_21 rfl ki_m1 ?_
        exact Ef.iret dX12_lift_22 rfl h
def wpX12_hasThing_b34 (Q : Bool → Ix → Lx → Prop) (P4 : Int32 → Int32 → Int32 → Ix → Lx → Prop) (v1 : Int32) (v3 : Int32) (I : Ix) (L : Lx) : Prop := P4 v1 1 (v3 + 1) I L
def wpX12_hasThing_l4 (Q : Bool → Ix → Lx → Prop) (P4 : Int32 → Int32 → Int32 → Ix → Lx → Prop) (v1 : Int32) (v2 : Int32) (v3 : Int32) (I : Ix) (L : Lx) : Prop := ((I 120 44) ≤ v3 → ∃ b, v2 = b2i b ∧ Q b I L) ∧ (¬ (I 120 44) ≤ v3 → (¬ v2 = 0 → wpX12_hasThing_b34 Q P4 v1 v3 I L) ∧ (v2 = 0 → wpX12_placeOf v3 I L (fun r3 I1 L2 => (¬ r3 = v1 → P4 v1 0 (v3 + 1) I1 L2) ∧ (r3 = v1 → vp_in v3 10 ∧ (¬ (I1 149 v3.toNatClampNeg) = 0 → P4 v1 0 (v3 + 1) I1 L2) ∧ ((I1 149 v3.toNatClampNeg) = 0 → wpX12_hasThing_b34 Q P4 v1 v3 I1 L2)))))
def wpX12_hasThing_h4 (Q : Bool → Ix → Lx → Prop) (v1 : Int32) (v2 : Int32) (v3 : Int32) (I : Ix) (L : Lx) : Prop := Lfp (X := Int32 × Int32 × Int32 × Ix × Lx) (fun P z => wpX12_hasThing_l4 Q (fun v1 v2 v3 I L => P (v1, v2, v3, I, L)) z.1 z.2.1 z.2.2.1 z.2.2.2.1 z.2.2.2.2) (v1, v2, v3, I, L)
theorem wpX12_hasThing_h4_fold {Q : Bool → Ix → Lx → Prop} {v1 : Int32} {v2 : Int32} {v3 : Int32} {I : Ix} {L : Lx} (h : wpX12_hasThing_l4 Q (wpX12_hasThing_h4 Q) v1 v2 v3 I L) : wpX12_hasThing_h4 Q v1 v2 v3 I L := Lfp.fold h
def wpX12_hasThing (a1 : Int32) (I : Ix) (L : Lx) (Q : Bool → Ix → Lx → Prop) : Prop := wpX12_hasThing_h4 Q a1 0 0 I L
set_option maxRecDepth 10000 in
theorem okX12_hasThing_b34 {G : Gx} {Q : Bool → Ix → Lx → Prop} {P4 : Int32 → Int32 → Int32 → Ix → Lx → Prop} (hP4 : ∀ (v1 : Int32) (v2 : Int32) (v3 : Int32) (I : Ix) (L : Lx), P4 v1 v2 v3 I L → Ef G MX12_hasThing (qZ Q) 4 [(0, .ref 120), (1, .int v1), (2, .int v2), (3, .int v3)] [] I L) {v1 : Int32} {v3 : Int32} {I : Ix} {L : Lx} (h : wpX12_hasThing_b34 Q P4 v1 v3 I L) : Ef G MX12_hasThing (qZ Q) 34 [(0, .ref 120), (1, .int v1), (3, .int v3)] [] I L := by
  unfold wpX12_hasThing_b34 at h
  refine Ev.iconst (pc' := 35) dX12_hasThing_34 rfl ki_1 ?_
  refine Ev.goto (tgt := 39) dX12_hasThing_35 rfl ?_
  refine Ev.istore_n (ls' := [(2, .int _), (0, .ref _), (1, .int _), (3, .int _)]) (pc' := 40) dX12_hasThing_39 rfl rfl (Nat.le_of_ble_eq_true rfl) rfl ?_
  refine Ev.iinc (k := 3) (v := _) (ls' := [(3, .int _), (2, .int _), (0, .ref _), (1, .int _)]) (pc' := 43) dX12_hasThing_40 rfl rfl (congrArg (_ + ·) ki_1) (Nat.le_of_ble_eq_true rfl) rfl ?_
  refine Ev.goto (tgt := 4) dX12_hasThing_43 rfl ?_
  exact Ev.sub [2, 3, 1, 0] rfl (hP4 _ _ _ _ _ h)
set_option maxRecDepth 10000 in
theorem okX12_hasThing_l4 {G : Gx} {Q : Bool → Ix → Lx → Prop} {P4 : Int32 → Int32 → Int32 → Ix → Lx → Prop} (hP4 : ∀ (v1 : Int32) (v2 : Int32) (v3 : Int32) (I : Ix) (L : Lx), P4 v1 v2 v3 I L → Ef G MX12_hasThing (qZ Q) 4 [(0, .ref 120), (1, .int v1), (2, .int v2), (3, .int v3)] [] I L) {v1 : Int32} {v2 : Int32} {v3 : Int32} {I : Ix} {L : Lx} (h : wpX12_hasThing_l4 Q P4 v1 v2 v3 I L) : Ef G MX12_hasThing (qZ Q) 4 [(0, .ref 120), (1, .int v1), (2, .int v2), (3, .int v3)] [] I L := by
  unfold wpX12_hasThing_l4 at h
  refine Ev.iload_n (k := 3) (pc' := 5) dX12_hasThing_4 rfl rfl rfl ?_
  refine Ev.aload_n (k := 0) (pc' := 6) dX12_hasThing_5 rfl rfl rfl ?_
  refine Ev.getI (pc' := 9) dX12_hasThing_6 rfl fa_RX12_437 ob_120 fk_12_44 ?_
  refine Ev.icmp_ge (pc' := 12) (tgt := 46) dX12_hasThing_9 rfl rfl (fun hc => ?_) (fun hc => ?_)
  · have h := h.1 hc
    refine Ev.iload_n (k := 2) (pc' := 47) dX12_hasThing_46 rfl rfl rfl ?_
    exact Ef.zretx dX12_hasThing_47 rfl h
  · have h := h.2 hc
    refine Ev.iload_n (k := 2) (pc' := 13) dX12_hasThing_12 rfl rfl rfl ?_
    refine Ev.if_ne (pc' := 16) (tgt := 34) dX12_hasThing_13 rfl rfl (fun hc => ?_) (fun hc => ?_)
    · have h := h.1 hc
      exact Ev.sub [0, 1, 3] rfl (okX12_hasThing_b34 hP4 h)
    · have h := h.2 hc
      refine Ev.aload_n (k := 0) (pc' := 17) dX12_hasThing_16 rfl rfl rfl ?_
      refine Ev.iload_n (k := 3) (pc' := 18) dX12_hasThing_17 rfl rfl rfl ?_
      refine Ef.callVI [.int _] [] (pc' := 21) dX12_hasThing_18 rfl cv_RX12_502_X12_placeOf ⟨Nat.le_of_ble_eq_true rfl, Nat.le_of_ble_eq_true rfl⟩ ob_120 rfl rfl rfl (Nat.le_of_ble_eq_true rfl) (okX12_placeOf h) (fun r3 I1 L2 h => ?_)
      refine Ev.iload_n (k := 1) (pc' := 22) dX12_hasThing_21 rfl rfl rfl ?_
      refine Ev.icmp_ne (pc' := 25) (tgt := 38) dX12_hasThing_22 rfl rfl (fun hc => ?_) (fun hc => ?_)
      · have h := h.1 hc
        refine Ev.iconst (pc' := 39) dX12_hasThing_38 rfl ki_0 ?_
        refine Ev.istore_n (ls' := [(2, .int _), (0, .ref _), (1, .int _), (3, .int _)]) (pc' := 40) dX12_hasThing_39 rfl rfl (Nat.le_of_ble_eq_true rfl) rfl ?_
        refine Ev.iinc (k := 3) (v := _) (ls' := [(3, .int _), (2, .int _), (0, .ref _), (1, .int _)]) (pc' := 43) dX12_hasThing_40 rfl rfl (congrArg (_ + ·) ki_1) (Nat.le_of_ble_eq_true rfl) rfl ?_
        refine Ev.goto (tgt := 4) dX12_hasThing_43 rfl ?_
        exact Ev.sub [2, 3, 1, 0] rfl (hP4 _ _ _ _ _ h)
      · have h := h.2 hc
        refine Ev.aload_n (k := 0) (pc' := 26) dX12_hasThing_25 rfl rfl rfl ?_
        refine Ev.getR (pc' := 29) dX12_hasThing_26 rfl fa_RX12_99 ob_120 fk_12_56 rf_120_56 ?_
        refine Ev.iload_n (k := 3) (pc' := 30) dX12_hasThing_29 rfl rfl rfl ?_
        refine Ev.zaload (j := _) (pc' := 31) dX12_hasThing_30 rfl ar_149 h.1 rfl ?_
        have h := h.2
        refine Ev.if_ne (pc' := 34) (tgt := 38) dX12_hasThing_31 rfl rfl (fun hc => ?_) (fun hc => ?_)
        · have h := h.1 hc
          refine Ev.iconst (pc' := 39) dX12_hasThing_38 rfl ki_0 ?_
          refine Ev.istore_n (ls' := [(2, .int _), (0, .ref _), (1, .int _), (3, .int _)]) (pc' := 40) dX12_hasThing_39 rfl rfl (Nat.le_of_ble_eq_true rfl) rfl ?_
          refine Ev.iinc (k := 3) (v := _) (ls' := [(3, .int _), (2, .int _), (0, .ref _), (1, .int _)]) (pc' := 43) dX12_hasThing_40 rfl rfl (congrArg (_ + ·) ki_1) (Nat.le_of_ble_eq_true rfl) rfl ?_
          refine Ev.goto (tgt := 4) dX12_hasThing_43 rfl ?_
          exact Ev.sub [2, 3, 1, 0] rfl (hP4 _ _ _ _ _ h)
        · have h := h.2 hc
          exact Ev.sub [0, 1, 3] rfl (okX12_hasThing_b34 hP4 h)
set_option maxRecDepth 10000 in
theorem okX12_hasThing_h4 {G : Gx} {Q : Bool → Ix → Lx → Prop} {v1 : Int32} {v2 : Int32} {v3 : Int32} {I : Ix} {L : Lx} (h : wpX12_hasThing_h4 Q v1 v2 v3 I L) : Ef G MX12_hasThing (qZ Q) 4 [(0, .ref 120), (1, .int v1), (2, .int v2), (3, .int v3)] [] I L := by
  unfold wpX12_hasThing_h4 at h
  refine Lfp.ind (P := fun z => Ef G MX12_hasThing (qZ Q) 4 [(0, .ref 120), (1, .int z.1), (2, .int z.2.1), (3, .int z.2.2.1)] [] z.2.2.2.1 z.2.2.2.2) ?_ h
  intro z P' hP' h
  obtain ⟨v1, v2, v3, I, L⟩ := z
  exact okX12_hasThing_l4 (fun v1 v2 v3 I L h9 => hP' (v1, v2, v3, I, L) h9) h
set_option maxRecDepth 10000 in
theorem okX12_hasThing {G : Gx} {a1 : Int32} {I : Ix} {L : Lx} {Q : Bool → Ix → Lx → Prop} (h : wpX12_hasThing a1 I L Q) : Mf G MX12_hasThing [.ref 120, .int a1] I L (qZ Q) := by
  unfold wpX12_hasThing at h
  refine Mf.of pn_RX12 (Nat.le_of_ble_eq_true rfl) ?_
  refine Ev.iconst (pc' := 1) dX12_hasThing_0 rfl ki_0 ?_
  refine Ev.istore_n (ls' := [(2, .int _), (0, .ref _), (1, .int _)]) (pc' := 2) dX12_hasThing_1 rfl rfl (Nat.le_of_ble_eq_true rfl) rfl ?_
  refine Ev.iconst (pc' := 3) dX12_hasThing_2 rfl ki_0 ?_
  refine Ev.istore_n (ls' := [(3, .int _), (2, .int _), (0, .ref _), (1, .int _)]) (pc' := 4) dX12_hasThing_3 rfl rfl (Nat.le_of_ble_eq_true rfl) rfl ?_
  exact Ev.sub [2, 3, 1, 0] rfl (okX12_hasThing_h4 h)
def wpX12_tour_b189 (Q : Int32 → Ix → Lx → Prop) (P14 : Int32 → Int32 → Int32 → Ix → Lx → Prop) (P23 : Int32 → Int32 → Int32 → Int32 → Ix → Lx → Prop) (v1 : Int32) (v2 : Int32) (v3 : Int32) (v4 : Int32) (I : Ix) (L : Lx) : Prop := vp_in v4 8 ∧ ((I 163 v4.toNatClampNeg) ≤ v2 → P23 v1 v2 v3 (v4 + 1) I L) ∧ (¬ (I 163 v4.toNatClampNeg) ≤ v2 → vp_in v4 8 ∧ P23 v1 (I 163 v4.toNatClampNeg) v3 (v4 + 1) I L)
def wpX12_tour_l89 (Q : Int32 → Ix → Lx → Prop) (P14 : Int32 → Int32 → Int32 → Ix → Lx → Prop) (P23 : Int32 → Int32 → Int32 → Int32 → Ix → Lx → Prop) (P89 : Int32 → Int32 → Int32 → Int32 → Int32 → Ix → Lx → Prop) (v1 : Int32) (v2 : Int32) (v3 : Int32) (v4 : Int32) (v5 : Int32) (I : Ix) (L : Lx) : Prop := ((I 120 42) ≤ v5 → wpX12_tour_b189 Q P14 P23 v1 v2 v3 v4 I L) ∧ (¬ (I 120 42) ≤ v5 → wpX12_hasThing v4 I L (fun r3 I1 L2 => (r3 = false → wpX12_tour_b189 Q P14 P23 v1 v2 v3 v4 I1 L2) ∧ (r3 = true → vp_in v5 8 ∧ (v3 ≤ (I1 138 v5.toNatClampNeg) → P89 v1 v2 v3 v4 (v5 + 1) I1 L2) ∧ (¬ v3 ≤ (I1 138 v5.toNatClampNeg) → vp_in v5 8 ∧ ((I1 163 v5.toNatClampNeg) ≤ 0 → P89 v1 v2 v3 v4 (v5 + 1) I1 L2) ∧ (¬ (I1 163 v5.toNatClampNeg) ≤ 0 → wpX12_farOf v5 v4 I1 L2 (fun r6 I4 L5 => vp_in v5 8 ∧ ((v3 - (I4 138 v5.toNatClampNeg)) < r6 → P89 v1 v2 v3 v4 (v5 + 1) I4 L5) ∧ (¬ (v3 - (I4 138 v5.toNatClampNeg)) < r6 → vp_in v5 8 ∧ vp_in v4 8 ∧ (((I4 163 v5.toNatClampNeg) + 1) ≤ (I4 163 v4.toNatClampNeg) → P89 v1 v2 v3 v4 (v5 + 1) I4 L5) ∧ (¬ ((I4 163 v5.toNatClampNeg) + 1) ≤ (I4 163 v4.toNatClampNeg) → vp_in v5 8 ∧ vp_in v4 8 ∧ ∀ I7 : Ix, I7 = pu I4 163 v4.toNatClampNeg ((I4 163 v5.toNatClampNeg) + 1) → P89 v1 v2 v3 v4 (v5 + 1) I7 L5))))))))
def wpX12_tour_h89 (Q : Int32 → Ix → Lx → Prop) (P14 : Int32 → Int32 → Int32 → Ix → Lx → Prop) (P23 : Int32 → Int32 → Int32 → Int32 → Ix → Lx → Prop) (v1 : Int32) (v2 : Int32) (v3 : Int32) (v4 : Int32) (v5 : Int32) (I : Ix) (L : Lx) : Prop := Lfp (X := Int32 × Int32 × Int32 × Int32 × Int32 × Ix × Lx) (fun P z => wpX12_tour_l89 Q P14 P23 (fun v1 v2 v3 v4 v5 I L => P (v1, v2, v3, v4, v5, I, L)) z.1 z.2.1 z.2.2.1 z.2.2.2.1 z.2.2.2.2.1 z.2.2.2.2.2.1 z.2.2.2.2.2.2) (v1, v2, v3, v4, v5, I, L)
theorem wpX12_tour_h89_fold {Q : Int32 → Ix → Lx → Prop} {P14 : Int32 → Int32 → Int32 → Ix → Lx → Prop} {P23 : Int32 → Int32 → Int32 → Int32 → Ix → Lx → Prop} {v1 : Int32} {v2 : Int32} {v3 : Int32} {v4 : Int32} {v5 : Int32} {I : Ix} {L : Lx} (h : wpX12_tour_l89 Q P14 P23 (wpX12_tour_h89 Q P14 P23) v1 v2 v3 v4 v5 I L) : wpX12_tour_h89 Q P14 P23 v1 v2 v3 v4 v5 I L := Lfp.fold h
def wpX12_tour_b85 (Q : Int32 → Ix → Lx → Prop) (P14 : Int32 → Int32 → Int32 → Ix → Lx → Prop) (P23 : Int32 → Int32 → Int32 → Int32 → Ix → Lx → Prop) (v1 : Int32) (v2 : Int32) (v3 : Int32) (v4 : Int32) (t1 : Int32) (t2 : Int32) (I : Ix) (L : Lx) : Prop := vp_in t1 8 ∧ ∀ I1 : Ix, I1 = pu I 163 t1.toNatClampNeg t2 → wpX12_tour_h89 Q P14 P23 v1 v2 v3 v4 0 I1 L
def wpX12_tour_b84 (Q : Int32 → Ix → Lx → Prop) (P14 : Int32 → Int32 → Int32 → Ix → Lx → Prop) (P23 : Int32 → Int32 → Int32 → Int32 → Ix → Lx → Prop) (v1 : Int32) (v2 : Int32) (v3 : Int32) (v4 : Int32) (t1 : Int32) (I : Ix) (L : Lx) : Prop := wpX12_tour_b85 Q P14 P23 v1 v2 v3 v4 t1 0 I L
def wpX12_tour_l23 (Q : Int32 → Ix → Lx → Prop) (P14 : Int32 → Int32 → Int32 → Ix → Lx → Prop) (P23 : Int32 → Int32 → Int32 → Int32 → Ix → Lx → Prop) (v1 : Int32) (v2 : Int32) (v3 : Int32) (v4 : Int32) (I : Ix) (L : Lx) : Prop := ((I 120 42) ≤ v4 → P14 v1 v2 (v3 + 1) I L) ∧ (¬ (I 120 42) ≤ v4 → vp_in v4 8 ∧ ((I 138 v4.toNatClampNeg) = v3 → wpX12_hasThing v4 I L (fun r3 I1 L2 => (r3 = false → wpX12_tour_b84 Q P14 P23 v1 v2 v3 v4 v4 I1 L2) ∧ (r3 = true → vp_in v1 6 ∧ wpX12_farOf (I1 147 v1.toNatClampNeg) v4 I1 L2 (fun r6 I4 L5 => ((60 + v3) < r6 → wpX12_tour_b84 Q P14 P23 v1 v2 v3 v4 v4 I4 L5) ∧ (¬ (60 + v3) < r6 → wpX12_tour_b85 Q P14 P23 v1 v2 v3 v4 v4 1 I4 L5))))) ∧ (¬ (I 138 v4.toNatClampNeg) = v3 → P23 v1 v2 v3 (v4 + 1) I L))
def wpX12_tour_h23 (Q : Int32 → Ix → Lx → Prop) (P14 : Int32 → Int32 → Int32 → Ix → Lx → Prop) (v1 : Int32) (v2 : Int32) (v3 : Int32) (v4 : Int32) (I : Ix) (L : Lx) : Prop := Lfp (X := Int32 × Int32 × Int32 × Int32 × Ix × Lx) (fun P z => wpX12_tour_l23 Q P14 (fun v1 v2 v3 v4 I L => P (v1, v2, v3, v4, I, L)) z.1 z.2.1 z.2.2.1 z.2.2.2.1 z.2.2.2.2.1 z.2.2.2.2.2) (v1, v2, v3, v4, I, L)
theorem wpX12_tour_h23_fold {Q : Int32 → Ix → Lx → Prop} {P14 : Int32 → Int32 → Int32 → Ix → Lx → Prop} {v1 : Int32} {v2 : Int32} {v3 : Int32} {v4 : Int32} {I : Ix} {L : Lx} (h : wpX12_tour_l23 Q P14 (wpX12_tour_h23 Q P14) v1 v2 v3 v4 I L) : wpX12_tour_h23 Q P14 v1 v2 v3 v4 I L := Lfp.fold h
def wpX12_tour_l14 (Q : Int32 → Ix → Lx → Prop) (P14 : Int32 → Int32 → Int32 → Ix → Lx → Prop) (v1 : Int32) (v2 : Int32) (v3 : Int32) (I : Ix) (L : Lx) : Prop := (60 ≤ v3 → Q v2 I L) ∧ (¬ 60 ≤ v3 → wpX12_tour_h23 Q P14 v1 v2 v3 0 I L)
def wpX12_tour_h14 (Q : Int32 → Ix → Lx → Prop) (v1 : Int32) (v2 : Int32) (v3 : Int32) (I : Ix) (L : Lx) : Prop := Lfp (X := Int32 × Int32 × Int32 × Ix × Lx) (fun P z => wpX12_tour_l14 Q (fun v1 v2 v3 I L => P (v1, v2, v3, I, L)) z.1 z.2.1 z.2.2.1 z.2.2.2.1 z.2.2.2.2) (v1, v2, v3, I, L)
theorem wpX12_tour_h14_fold {Q : Int32 → Ix → Lx → Prop} {v1 : Int32} {v2 : Int32} {v3 : Int32} {I : Ix} {L : Lx} (h : wpX12_tour_l14 Q (wpX12_tour_h14 Q) v1 v2 v3 I L) : wpX12_tour_h14 Q v1 v2 v3 I L := Lfp.fold h
def wpX12_tour (a1 : Int32) (I : Ix) (L : Lx) (Q : Int32 → Ix → Lx → Prop) : Prop := wpX12_isPerson a1 I L (fun r3 I1 L2 => (r3 = true → wpX12_tour_h14 Q a1 0 0 I1 L2) ∧ (r3 = false → Q (-1) I1 L2))
set_option maxRecDepth 10000 in
theorem okX12_tour_b189 {G : Gx} {Q : Int32 → Ix → Lx → Prop} {P14 : Int32 → Int32 → Int32 → Ix → Lx → Prop} {P23 : Int32 → Int32 → Int32 → Int32 → Ix → Lx → Prop} (hP14 : ∀ (v1 : Int32) (v2 : Int32) (v3 : Int32) (I : Ix) (L : Lx), P14 v1 v2 v3 I L → Ef G MX12_tour (qI Q) 14 [(0, .ref 120), (1, .int v1), (2, .int v2), (3, .int v3)] [] I L) (hP23 : ∀ (v1 : Int32) (v2 : Int32) (v3 : Int32) (v4 : Int32) (I : Ix) (L : Lx), P23 v1 v2 v3 v4 I L → Ef G MX12_tour (qI Q) 23 [(0, .ref 120), (1, .int v1), (2, .int v2), (3, .int v3), (4, .int v4)] [] I L) {v1 : Int32} {v2 : Int32} {v3 : Int32} {v4 : Int32} {I : Ix} {L : Lx} (h : wpX12_tour_b189 Q P14 P23 v1 v2 v3 v4 I L) : Ef G MX12_tour (qI Q) 189 [(0, .ref 120), (1, .int v1), (2, .int v2), (3, .int v3), (4, .int v4)] [] I L := by
  unfold wpX12_tour_b189 at h
  refine Ev.aload_n (k := 0) (pc' := 190) dX12_tour_189 rfl rfl rfl ?_
  refine Ev.getR (pc' := 193) dX12_tour_190 rfl fa_RX12_148 ob_120 fk_12_87 rf_120_87 ?_
  refine Ev.iload (k := 4) (pc' := 195) dX12_tour_193 rfl rfl ?_
  refine Ev.iaload (j := _) (pc' := 196) dX12_tour_195 rfl ar_163 h.1 rfl ?_
  have h := h.2
  refine Ev.iload_n (k := 2) (pc' := 197) dX12_tour_196 rfl rfl rfl ?_
  refine Ev.icmp_le (pc' := 200) (tgt := 210) dX12_tour_197 rfl rfl (fun hc => ?_) (fun hc => ?_)
  · have h := h.1 hc
    refine Ev.iload_n (k := 2) (pc' := 211) dX12_tour_210 rfl rfl rfl ?_
    refine Ev.istore_n (ls' := [(2, .int _), (0, .ref _), (1, .int _), (3, .int _), (4, .int _)]) (pc' := 212) dX12_tour_211 rfl rfl (Nat.le_of_ble_eq_true rfl) rfl ?_
    refine Ev.iinc (k := 4) (v := _) (ls' := [(4, .int _), (2, .int _), (0, .ref _), (1, .int _), (3, .int _)]) (pc' := 215) dX12_tour_212 rfl rfl (congrArg (_ + ·) ki_1) (Nat.le_of_ble_eq_true rfl) rfl ?_
    refine Ev.goto (tgt := 23) dX12_tour_215 rfl ?_
    exact Ev.sub [2, 3, 1, 4, 0] rfl (hP23 _ _ _ _ _ _ h)
  · have h := h.2 hc
    refine Ev.aload_n (k := 0) (pc' := 201) dX12_tour_200 rfl rfl rfl ?_
    refine Ev.getR (pc' := 204) dX12_tour_201 rfl fa_RX12_148 ob_120 fk_12_87 rf_120_87 ?_
    refine Ev.iload (k := 4) (pc' := 206) dX12_tour_204 rfl rfl ?_
    refine Ev.iaload (j := _) (pc' := 207) dX12_tour_206 rfl ar_163 h.1 rfl ?_
    have h := h.2
    refine Ev.goto (tgt := 211) dX12_tour_207 rfl ?_
    refine Ev.istore_n (ls' := [(2, .int _), (0, .ref _), (1, .int _), (3, .int _), (4, .int _)]) (pc' := 212) dX12_tour_211 rfl rfl (Nat.le_of_ble_eq_true rfl) rfl ?_
    refine Ev.iinc (k := 4) (v := _) (ls' := [(4, .int _), (2, .int _), (0, .ref _), (1, .int _), (3, .int _)]) (pc' := 215) dX12_tour_212 rfl rfl (congrArg (_ + ·) ki_1) (Nat.le_of_ble_eq_true rfl) rfl ?_
    refine Ev.goto (tgt := 23) dX12_tour_215 rfl ?_
    exact Ev.sub [2, 3, 1, 4, 0] rfl (hP23 _ _ _ _ _ _ h)
set_option maxRecDepth 10000 in
theorem okX12_tour_l89 {G : Gx} {Q : Int32 → Ix → Lx → Prop} {P14 : Int32 → Int32 → Int32 → Ix → Lx → Prop} {P23 : Int32 → Int32 → Int32 → Int32 → Ix → Lx → Prop} {P89 : Int32 → Int32 → Int32 → Int32 → Int32 → Ix → Lx → Prop} (hP14 : ∀ (v1 : Int32) (v2 : Int32) (v3 : Int32) (I : Ix) (L : Lx), P14 v1 v2 v3 I L → Ef G MX12_tour (qI Q) 14 [(0, .ref 120), (1, .int v1), (2, .int v2), (3, .int v3)] [] I L) (hP23 : ∀ (v1 : Int32) (v2 : Int32) (v3 : Int32) (v4 : Int32) (I : Ix) (L : Lx), P23 v1 v2 v3 v4 I L → Ef G MX12_tour (qI Q) 23 [(0, .ref 120), (1, .int v1), (2, .int v2), (3, .int v3), (4, .int v4)] [] I L) (hP89 : ∀ (v1 : Int32) (v2 : Int32) (v3 : Int32) (v4 : Int32) (v5 : Int32) (I : Ix) (L : Lx), P89 v1 v2 v3 v4 v5 I L → Ef G MX12_tour (qI Q) 89 [(0, .ref 120), (1, .int v1), (2, .int v2), (3, .int v3), (4, .int v4), (5, .int v5)] [] I L) {v1 : Int32} {v2 : Int32} {v3 : Int32} {v4 : Int32} {v5 : Int32} {I : Ix} {L : Lx} (h : wpX12_tour_l89 Q P14 P23 P89 v1 v2 v3 v4 v5 I L) : Ef G MX12_tour (qI Q) 89 [(0, .ref 120), (1, .int v1), (2, .int v2), (3, .int v3), (4, .int v4), (5, .int v5)] [] I L := by
  unfold wpX12_tour_l89 at h
  refine Ev.iload (k := 5) (pc' := 91) dX12_tour_89 rfl rfl ?_
  refine Ev.aload_n (k := 0) (pc' := 92) dX12_tour_91 rfl rfl rfl ?_
  refine Ev.getI (pc' := 95) dX12_tour_92 rfl fa_RX12_431 ob_120 fk_12_42 ?_
  refine Ev.icmp_ge (pc' := 98) (tgt := 189) dX12_tour_95 rfl rfl (fun hc => ?_) (fun hc => ?_)
  · have h := h.1 hc
    exact Ev.sub [0, 1, 2, 3, 4] rfl (okX12_tour_b189 hP14 hP23 h)
  · have h := h.2 hc
    refine Ev.aload_n (k := 0) (pc' := 99) dX12_tour_98 rfl rfl rfl ?_
    refine Ev.iload (k := 4) (pc' := 101) dX12_tour_99 rfl rfl ?_
    refine Ef.callVZ [.int _] [] (pc' := 104) dX12_tour_101 rfl cv_RX12_662_X12_hasThing ⟨Nat.le_of_ble_eq_true rfl, Nat.le_of_ble_eq_true rfl⟩ ob_120 rfl rfl rfl (Nat.le_of_ble_eq_true rfl) (okX12_hasThing h) (fun r3 I1 L2 h => ?_)
    refine Ef.ifz_eq (pc' := 107) (tgt := 189) dX12_tour_104 rfl rfl (fun hc => ?_) (fun hc => ?_)
    · have h := h.1 hc
      exact Ev.sub [0, 1, 2, 3, 4] rfl (okX12_tour_b189 hP14 hP23 h)
    · have h := h.2 hc
      refine Ev.aload_n (k := 0) (pc' := 108) dX12_tour_107 rfl rfl rfl ?_
      refine Ev.getR (pc' := 111) dX12_tour_108 rfl fa_RX12_66 ob_120 fk_12_31 rf_120_31 ?_
      refine Ev.iload (k := 5) (pc' := 113) dX12_tour_111 rfl rfl ?_
      refine Ev.iaload (j := _) (pc' := 114) dX12_tour_113 rfl ar_138 h.1 rfl ?_
      have h := h.2
      refine Ev.iload_n (k := 3) (pc' := 115) dX12_tour_114 rfl rfl rfl ?_
      refine Ev.icmp_ge (pc' := 118) (tgt := 183) dX12_tour_115 rfl rfl (fun hc => ?_) (fun hc => ?_)
      · have h := h.1 hc
        refine Ev.iinc (k := 5) (v := _) (ls' := [(5, .int _), (0, .ref _), (1, .int _), (2, .int _), (3, .int _), (4, .int _)]) (pc' := 186) dX12_tour_183 rfl rfl (congrArg (_ + ·) ki_1) (Nat.le_of_ble_eq_true rfl) rfl ?_
        refine Ev.goto (tgt := 89) dX12_tour_186 rfl ?_
        exact Ev.sub [1, 2, 3, 4, 5, 0] rfl (hP89 _ _ _ _ _ _ _ h)
      · have h := h.2 hc
        refine Ev.aload_n (k := 0) (pc' := 119) dX12_tour_118 rfl rfl rfl ?_
        refine Ev.getR (pc' := 122) dX12_tour_119 rfl fa_RX12_148 ob_120 fk_12_87 rf_120_87 ?_
        refine Ev.iload (k := 5) (pc' := 124) dX12_tour_122 rfl rfl ?_
        refine Ev.iaload (j := _) (pc' := 125) dX12_tour_124 rfl ar_163 h.1 rfl ?_
        have h := h.2
        refine Ev.if_le (pc' := 128) (tgt := 183) dX12_tour_125 rfl rfl (fun hc => ?_) (fun hc => ?_)
        · have h := h.1 hc
          refine Ev.iinc (k := 5) (v := _) (ls' := [(5, .int _), (0, .ref _), (1, .int _), (2, .int _), (3, .int _), (4, .int _)]) (pc' := 186) dX12_tour_183 rfl rfl (congrArg (_ + ·) ki_1) (Nat.le_of_ble_eq_true rfl) rfl ?_
          refine Ev.goto (tgt := 89) dX12_tour_186 rfl ?_
          exact Ev.sub [1, 2, 3, 4, 5, 0] rfl (hP89 _ _ _ _ _ _ _ h)
        · have h := h.2 hc
          refine Ev.aload_n (k := 0) (pc' := 129) dX12_tour_128 rfl rfl rfl ?_
          refine Ev.iload (k := 5) (pc' := 131) dX12_tour_129 rfl rfl ?_
          refine Ev.iload (k := 4) (pc' := 133) dX12_tour_131 rfl rfl ?_
          refine Ef.callVI [.int _, .int _] [] (pc' := 136) dX12_tour_133 rfl cv_RX12_461_X12_farOf ⟨Nat.le_of_ble_eq_true rfl, Nat.le_of_ble_eq_true rfl⟩ ob_120 rfl rfl rfl (Nat.le_of_ble_eq_true rfl) (okX12_farOf h) (fun r6 I4 L5 h => ?_)
          refine Ev.iload_n (k := 3) (pc' := 137) dX12_tour_136 rfl rfl rfl ?_
          refine Ev.aload_n (k := 0) (pc' := 138) dX12_tour_137 rfl rfl rfl ?_
          refine Ev.getR (pc' := 141) dX12_tour_138 rfl fa_RX12_66 ob_120 fk_12_31 rf_120_31 ?_
          refine Ev.iload (k := 5) (pc' := 143) dX12_tour_141 rfl rfl ?_
          refine Ev.iaload (j := _) (pc' := 144) dX12_tour_143 rfl ar_138 h.1 rfl ?_
          have h := h.2
          refine Ev.isub (pc' := 145) dX12_tour_144 rfl ?_
          refine Ev.icmp_gt (pc' := 148) (tgt := 183) dX12_tour_145 rfl rfl (fun hc => ?_) (fun hc => ?_)
          · have h := h.1 hc
            refine Ev.iinc (k := 5) (v := _) (ls' := [(5, .int _), (0, .ref _), (1, .int _), (2, .int _), (3, .int _), (4, .int _)]) (pc' := 186) dX12_tour_183 rfl rfl (congrArg (_ + ·) ki_1) (Nat.le_of_ble_eq_true rfl) rfl ?_
            refine Ev.goto (tgt := 89) dX12_tour_186 rfl ?_
            exact Ev.sub [1, 2, 3, 4, 5, 0] rfl (hP89 _ _ _ _ _ _ _ h)
          · have h := h.2 hc
            refine Ev.aload_n (k := 0) (pc' := 149) dX12_tour_148 rfl rfl rfl ?_
            refine Ev.getR (pc' := 152) dX12_tour_149 rfl fa_RX12_148 ob_120 fk_12_87 rf_120_87 ?_
            refine Ev.iload (k := 5) (pc' := 154) dX12_tour_152 rfl rfl ?_
            refine Ev.iaload (j := _) (pc' := 155) dX12_tour_154 rfl ar_163 h.1 rfl ?_
            have h := h.2
            refine Ev.iconst (pc' := 156) dX12_tour_155 rfl ki_1 ?_
            refine Ev.iadd (pc' := 157) dX12_tour_156 rfl ?_
            refine Ev.aload_n (k := 0) (pc' := 158) dX12_tour_157 rfl rfl rfl ?_
            refine Ev.getR (pc' := 161) dX12_tour_158 rfl fa_RX12_148 ob_120 fk_12_87 rf_120_87 ?_
            refine Ev.iload (k := 4) (pc' := 163) dX12_tour_161 rfl rfl ?_
            refine Ev.iaload (j := _) (pc' := 164) dX12_tour_163 rfl ar_163 h.1 rfl ?_
            have h := h.2
            refine Ev.icmp_le (pc' := 167) (tgt := 183) dX12_tour_164 rfl rfl (fun hc => ?_) (fun hc => ?_)
            · have h := h.1 hc
              refine Ev.iinc (k := 5) (v := _) (ls' := [(5, .int _), (0, .ref _), (1, .int _), (2, .int _), (3, .int _), (4, .int _)]) (pc' := 186) dX12_tour_183 rfl rfl (congrArg (_ + ·) ki_1) (Nat.le_of_ble_eq_true rfl) rfl ?_
              refine Ev.goto (tgt := 89) dX12_tour_186 rfl ?_
              exact Ev.sub [1, 2, 3, 4, 5, 0] rfl (hP89 _ _ _ _ _ _ _ h)
            · have h := h.2 hc
              refine Ev.aload_n (k := 0) (pc' := 168) dX12_tour_167 rfl rfl rfl ?_
              refine Ev.getR (pc' := 171) dX12_tour_168 rfl fa_RX12_148 ob_120 fk_12_87 rf_120_87 ?_
              refine Ev.iload (k := 4) (pc' := 173) dX12_tour_171 rfl rfl ?_
              refine Ev.aload_n (k := 0) (pc' := 174) dX12_tour_173 rfl rfl rfl ?_
              refine Ev.getR (pc' := 177) dX12_tour_174 rfl fa_RX12_148 ob_120 fk_12_87 rf_120_87 ?_
              refine Ev.iload (k := 5) (pc' := 179) dX12_tour_177 rfl rfl ?_
              refine Ev.iaload (j := _) (pc' := 180) dX12_tour_179 rfl ar_163 h.1 rfl ?_
              have h := h.2
              refine Ev.iconst (pc' := 181) dX12_tour_180 rfl ki_1 ?_
              refine Ev.iadd (pc' := 182) dX12_tour_181 rfl ?_
              refine Ev.iastore (j := _) (pc' := 183) dX12_tour_182 rfl ar_163 h.1 rfl (fun I7 eI7 => ?_)
              have h := h.2 I7 eI7
              refine Ev.iinc (k := 5) (v := _) (ls' := [(5, .int _), (0, .ref _), (1, .int _), (2, .int _), (3, .int _), (4, .int _)]) (pc' := 186) dX12_tour_183 rfl rfl (congrArg (_ + ·) ki_1) (Nat.le_of_ble_eq_true rfl) rfl ?_
              refine Ev.goto (tgt := 89) dX12_tour_186 rfl ?_
              exact Ev.sub [1, 2, 3, 4, 5, 0] rfl (hP89 _ _ _ _ _ _ _ h)
set_option maxRecDepth 10000 in
theorem okX12_tour_h89 {G : Gx} {Q : Int32 → Ix → Lx → Prop} {P14 : Int32 → Int32 → Int32 → Ix → Lx → Prop} {P23 : Int32 → Int32 → Int32 → Int32 → Ix → Lx → Prop} (hP14 : ∀ (v1 : Int32) (v2 : Int32) (v3 : Int32) (I : Ix) (L : Lx), P14 v1 v2 v3 I L → Ef G MX12_tour (qI Q) 14 [(0, .ref 120), (1, .int v1), (2, .int v2), (3, .int v3)] [] I L) (hP23 : ∀ (v1 : Int32) (v2 : Int32) (v3 : Int32) (v4 : Int32) (I : Ix) (L : Lx), P23 v1 v2 v3 v4 I L → Ef G MX12_tour (qI Q) 23 [(0, .ref 120), (1, .int v1), (2, .int v2), (3, .int v3), (4, .int v4)] [] I L) {v1 : Int32} {v2 : Int32} {v3 : Int32} {v4 : Int32} {v5 : Int32} {I : Ix} {L : Lx} (h : wpX12_tour_h89 Q P14 P23 v1 v2 v3 v4 v5 I L) : Ef G MX12_tour (qI Q) 89 [(0, .ref 120), (1, .int v1), (2, .int v2), (3, .int v3), (4, .int v4), (5, .int v5)] [] I L := by
  unfold wpX12_tour_h89 at h
  refine Lfp.ind (P := fun z => Ef G MX12_tour (qI Q) 89 [(0, .ref 120), (1, .int z.1), (2, .int z.2.1), (3, .int z.2.2.1), (4, .int z.2.2.2.1), (5, .int z.2.2.2.2.1)] [] z.2.2.2.2.2.1 z.2.2.2.2.2.2) ?_ h
  intro z P' hP' h
  obtain ⟨v1, v2, v3, v4, v5, I, L⟩ := z
  exact okX12_tour_l89 hP14 hP23 (fun v1 v2 v3 v4 v5 I L h9 => hP' (v1, v2, v3, v4, v5, I, L) h9) h
set_option maxRecDepth 10000 in
theorem okX12_tour_b85 {G : Gx} {Q : Int32 → Ix → Lx → Prop} {P14 : Int32 → Int32 → Int32 → Ix → Lx → Prop} {P23 : Int32 → Int32 → Int32 → Int32 → Ix → Lx → Prop} (hP14 : ∀ (v1 : Int32) (v2 : Int32) (v3 : Int32) (I : Ix) (L : Lx), P14 v1 v2 v3 I L → Ef G MX12_tour (qI Q) 14 [(0, .ref 120), (1, .int v1), (2, .int v2), (3, .int v3)] [] I L) (hP23 : ∀ (v1 : Int32) (v2 : Int32) (v3 : Int32) (v4 : Int32) (I : Ix) (L : Lx), P23 v1 v2 v3 v4 I L → Ef G MX12_tour (qI Q) 23 [(0, .ref 120), (1, .int v1), (2, .int v2), (3, .int v3), (4, .int v4)] [] I L) {v1 : Int32} {v2 : Int32} {v3 : Int32} {v4 : Int32} {t1 : Int32} {t2 : Int32} {I : Ix} {L : Lx} (h : wpX12_tour_b85 Q P14 P23 v1 v2 v3 v4 t1 t2 I L) : Ef G MX12_tour (qI Q) 85 [(0, .ref 120), (1, .int v1), (2, .int v2), (3, .int v3), (4, .int v4)] [.int t2, .int t1, .ref 163] I L := by
  unfold wpX12_tour_b85 at h
  refine Ev.iastore (j := _) (pc' := 86) dX12_tour_85 rfl ar_163 h.1 rfl (fun I1 eI1 => ?_)
  have h := h.2 I1 eI1
  refine Ev.iconst (pc' := 87) dX12_tour_86 rfl ki_0 ?_
  refine Ev.istore (ls' := [(5, .int _), (0, .ref _), (1, .int _), (2, .int _), (3, .int _), (4, .int _)]) (pc' := 89) dX12_tour_87 rfl (Nat.le_of_ble_eq_true rfl) rfl ?_
  exact Ev.sub [1, 2, 3, 4, 5, 0] rfl (okX12_tour_h89 hP14 hP23 h)
set_option maxRecDepth 10000 in
theorem okX12_tour_b84 {G : Gx} {Q : Int32 → Ix → Lx → Prop} {P14 : Int32 → Int32 → Int32 → Ix → Lx → Prop} {P23 : Int32 → Int32 → Int32 → Int32 → Ix → Lx → Prop} (hP14 : ∀ (v1 : Int32) (v2 : Int32) (v3 : Int32) (I : Ix) (L : Lx), P14 v1 v2 v3 I L → Ef G MX12_tour (qI Q) 14 [(0, .ref 120), (1, .int v1), (2, .int v2), (3, .int v3)] [] I L) (hP23 : ∀ (v1 : Int32) (v2 : Int32) (v3 : Int32) (v4 : Int32) (I : Ix) (L : Lx), P23 v1 v2 v3 v4 I L → Ef G MX12_tour (qI Q) 23 [(0, .ref 120), (1, .int v1), (2, .int v2), (3, .int v3), (4, .int v4)] [] I L) {v1 : Int32} {v2 : Int32} {v3 : Int32} {v4 : Int32} {t1 : Int32} {I : Ix} {L : Lx} (h : wpX12_tour_b84 Q P14 P23 v1 v2 v3 v4 t1 I L) : Ef G MX12_tour (qI Q) 84 [(0, .ref 120), (1, .int v1), (2, .int v2), (3, .int v3), (4, .int v4)] [.int t1, .ref 163] I L := by
  unfold wpX12_tour_b84 at h
  refine Ev.iconst (pc' := 85) dX12_tour_84 rfl ki_0 ?_
  exact okX12_tour_b85 hP14 hP23 h
set_option maxRecDepth 10000 in
theorem okX12_tour_l23 {G : Gx} {Q : Int32 → Ix → Lx → Prop} {P14 : Int32 → Int32 → Int32 → Ix → Lx → Prop} {P23 : Int32 → Int32 → Int32 → Int32 → Ix → Lx → Prop} (hP14 : ∀ (v1 : Int32) (v2 : Int32) (v3 : Int32) (I : Ix) (L : Lx), P14 v1 v2 v3 I L → Ef G MX12_tour (qI Q) 14 [(0, .ref 120), (1, .int v1), (2, .int v2), (3, .int v3)] [] I L) (hP23 : ∀ (v1 : Int32) (v2 : Int32) (v3 : Int32) (v4 : Int32) (I : Ix) (L : Lx), P23 v1 v2 v3 v4 I L → Ef G MX12_tour (qI Q) 23 [(0, .ref 120), (1, .int v1), (2, .int v2), (3, .int v3), (4, .int v4)] [] I L) {v1 : Int32} {v2 : Int32} {v3 : Int32} {v4 : Int32} {I : Ix} {L : Lx} (h : wpX12_tour_l23 Q P14 P23 v1 v2 v3 v4 I L) : Ef G MX12_tour (qI Q) 23 [(0, .ref 120), (1, .int v1), (2, .int v2), (3, .int v3), (4, .int v4)] [] I L := by
  unfold wpX12_tour_l23 at h
  refine Ev.iload (k := 4) (pc' := 25) dX12_tour_23 rfl rfl ?_
  refine Ev.aload_n (k := 0) (pc' := 26) dX12_tour_25 rfl rfl rfl ?_
  refine Ev.getI (pc' := 29) dX12_tour_26 rfl fa_RX12_431 ob_120 fk_12_42 ?_
  refine Ev.icmp_ge (pc' := 32) (tgt := 218) dX12_tour_29 rfl rfl (fun hc => ?_) (fun hc => ?_)
  · have h := h.1 hc
    refine Ev.iinc (k := 3) (v := _) (ls' := [(3, .int _), (0, .ref _), (1, .int _), (2, .int _), (4, .int _)]) (pc' := 221) dX12_tour_218 rfl rfl (congrArg (_ + ·) ki_1) (Nat.le_of_ble_eq_true rfl) rfl ?_
    refine Ev.goto (tgt := 14) dX12_tour_221 rfl ?_
    exact Ev.sub [1, 2, 3, 0] rfl (hP14 _ _ _ _ _ h)
  · have h := h.2 hc
    refine Ev.aload_n (k := 0) (pc' := 33) dX12_tour_32 rfl rfl rfl ?_
    refine Ev.getR (pc' := 36) dX12_tour_33 rfl fa_RX12_66 ob_120 fk_12_31 rf_120_31 ?_
    refine Ev.iload (k := 4) (pc' := 38) dX12_tour_36 rfl rfl ?_
    refine Ev.iaload (j := _) (pc' := 39) dX12_tour_38 rfl ar_138 h.1 rfl ?_
    have h := h.2
    refine Ev.iload_n (k := 3) (pc' := 40) dX12_tour_39 rfl rfl rfl ?_
    refine Ev.icmp_eq (pc' := 43) (tgt := 46) dX12_tour_40 rfl rfl (fun hc => ?_) (fun hc => ?_)
    · have h := h.1 hc
      refine Ev.aload_n (k := 0) (pc' := 47) dX12_tour_46 rfl rfl rfl ?_
      refine Ev.getR (pc' := 50) dX12_tour_47 rfl fa_RX12_148 ob_120 fk_12_87 rf_120_87 ?_
      refine Ev.iload (k := 4) (pc' := 52) dX12_tour_50 rfl rfl ?_
      refine Ev.aload_n (k := 0) (pc' := 53) dX12_tour_52 rfl rfl rfl ?_
      refine Ev.iload (k := 4) (pc' := 55) dX12_tour_53 rfl rfl ?_
      refine Ef.callVZ [.int _] [.int _, .ref _] (pc' := 58) dX12_tour_55 rfl cv_RX12_662_X12_hasThing ⟨Nat.le_of_ble_eq_true rfl, Nat.le_of_ble_eq_true rfl⟩ ob_120 rfl rfl rfl (Nat.le_of_ble_eq_true rfl) (okX12_hasThing h) (fun r3 I1 L2 h => ?_)
      refine Ef.ifz_eq (pc' := 61) (tgt := 84) dX12_tour_58 rfl rfl (fun hc => ?_) (fun hc => ?_)
      · have h := h.1 hc
        exact okX12_tour_b84 hP14 hP23 h
      · have h := h.2 hc
        refine Ev.aload_n (k := 0) (pc' := 62) dX12_tour_61 rfl rfl rfl ?_
        refine Ev.aload_n (k := 0) (pc' := 63) dX12_tour_62 rfl rfl rfl ?_
        refine Ev.getR (pc' := 66) dX12_tour_63 rfl fa_RX12_93 ob_120 fk_12_54 rf_120_54 ?_
        refine Ev.iload_n (k := 1) (pc' := 67) dX12_tour_66 rfl rfl rfl ?_
        refine Ev.iaload (j := _) (pc' := 68) dX12_tour_67 rfl ar_147 h.1 rfl ?_
        have h := h.2
        refine Ev.iload (k := 4) (pc' := 70) dX12_tour_68 rfl rfl ?_
        refine Ef.callVI [.int _, .int _] [.int _, .ref _] (pc' := 73) dX12_tour_70 rfl cv_RX12_461_X12_farOf ⟨Nat.le_of_ble_eq_true rfl, Nat.le_of_ble_eq_true rfl⟩ ob_120 rfl rfl rfl (Nat.le_of_ble_eq_true rfl) (okX12_farOf h) (fun r6 I4 L5 h => ?_)
        refine Ev.bipush (pc' := 75) dX12_tour_73 rfl kb_60 ?_
        refine Ev.iload_n (k := 3) (pc' := 76) dX12_tour_75 rfl rfl rfl ?_
        refine Ev.iadd (pc' := 77) dX12_tour_76 rfl ?_
        refine Ev.icmp_gt (pc' := 80) (tgt := 84) dX12_tour_77 rfl rfl (fun hc => ?_) (fun hc => ?_)
        · have h := h.1 hc
          exact okX12_tour_b84 hP14 hP23 h
        · have h := h.2 hc
          refine Ev.iconst (pc' := 81) dX12_tour_80 rfl ki_1 ?_
          refine Ev.goto (tgt := 85) dX12_tour_81 rfl ?_
          exact okX12_tour_b85 hP14 hP23 h
    · have h := h.2 hc
      refine Ev.goto (tgt := 212) dX12_tour_43 rfl ?_
      refine Ev.iinc (k := 4) (v := _) (ls' := [(4, .int _), (0, .ref _), (1, .int _), (2, .int _), (3, .int _)]) (pc' := 215) dX12_tour_212 rfl rfl (congrArg (_ + ·) ki_1) (Nat.le_of_ble_eq_true rfl) rfl ?_
      refine Ev.goto (tgt := 23) dX12_tour_215 rfl ?_
      exact Ev.sub [1, 2, 3, 4, 0] rfl (hP23 _ _ _ _ _ _ h)
set_option maxRecDepth 10000 in
theorem okX12_tour_h23 {G : Gx} {Q : Int32 → Ix → Lx → Prop} {P14 : Int32 → Int32 → Int32 → Ix → Lx → Prop} (hP14 : ∀ (v1 : Int32) (v2 : Int32) (v3 : Int32) (I : Ix) (L : Lx), P14 v1 v2 v3 I L → Ef G MX12_tour (qI Q) 14 [(0, .ref 120), (1, .int v1), (2, .int v2), (3, .int v3)] [] I L) {v1 : Int32} {v2 : Int32} {v3 : Int32} {v4 : Int32} {I : Ix} {L : Lx} (h : wpX12_tour_h23 Q P14 v1 v2 v3 v4 I L) : Ef G MX12_tour (qI Q) 23 [(0, .ref 120), (1, .int v1), (2, .int v2), (3, .int v3), (4, .int v4)] [] I L := by
  unfold wpX12_tour_h23 at h
  refine Lfp.ind (P := fun z => Ef G MX12_tour (qI Q) 23 [(0, .ref 120), (1, .int z.1), (2, .int z.2.1), (3, .int z.2.2.1), (4, .int z.2.2.2.1)] [] z.2.2.2.2.1 z.2.2.2.2.2) ?_ h
  intro z P' hP' h
  obtain ⟨v1, v2, v3, v4, I, L⟩ := z
  exact okX12_tour_l23 hP14 (fun v1 v2 v3 v4 I L h9 => hP' (v1, v2, v3, v4, I, L) h9) h
set_option maxRecDepth 10000 in
theorem okX12_tour_l14 {G : Gx} {Q : Int32 → Ix → Lx → Prop} {P14 : Int32 → Int32 → Int32 → Ix → Lx → Prop} (hP14 : ∀ (v1 : Int32) (v2 : Int32) (v3 : Int32) (I : Ix) (L : Lx), P14 v1 v2 v3 I L → Ef G MX12_tour (qI Q) 14 [(0, .ref 120), (1, .int v1), (2, .int v2), (3, .int v3)] [] I L) {v1 : Int32} {v2 : Int32} {v3 : Int32} {I : Ix} {L : Lx} (h : wpX12_tour_l14 Q P14 v1 v2 v3 I L) : Ef G MX12_tour (qI Q) 14 [(0, .ref 120), (1, .int v1), (2, .int v2), (3, .int v3)] [] I L := by
  unfold wpX12_tour_l14 at h
  refine Ev.iload_n (k := 3) (pc' := 15) dX12_tour_14 rfl rfl rfl ?_
  refine Ev.bipush (pc' := 17) dX12_tour_15 rfl kb_60 ?_
  refine Ev.icmp_ge (pc' := 20) (tgt := 224) dX12_tour_17 rfl rfl (fun hc => ?_) (fun hc => ?_)
  · have h := h.1 hc
    refine Ev.iload_n (k := 2) (pc' := 225) dX12_tour_224 rfl rfl rfl ?_
    exact Ef.iret dX12_tour_225 rfl h
  · have h := h.2 hc
    refine Ev.iconst (pc' := 21) dX12_tour_20 rfl ki_0 ?_
    refine Ev.istore (ls' := [(4, .int _), (0, .ref _), (1, .int _), (2, .int _), (3, .int _)]) (pc' := 23) dX12_tour_21 rfl (Nat.le_of_ble_eq_true rfl) rfl ?_
    exact Ev.sub [1, 2, 3, 4, 0] rfl (okX12_tour_h23 hP14 h)
set_option maxRecDepth 10000 in
theorem okX12_tour_h14 {G : Gx} {Q : Int32 → Ix → Lx → Prop} {v1 : Int32} {v2 : Int32} {v3 : Int32} {I : Ix} {L : Lx} (h : wpX12_tour_h14 Q v1 v2 v3 I L) : Ef G MX12_tour (qI Q) 14 [(0, .ref 120), (1, .int v1), (2, .int v2), (3, .int v3)] [] I L := by
  unfold wpX12_tour_h14 at h
  refine Lfp.ind (P := fun z => Ef G MX12_tour (qI Q) 14 [(0, .ref 120), (1, .int z.1), (2, .int z.2.1), (3, .int z.2.2.1)] [] z.2.2.2.1 z.2.2.2.2) ?_ h
  intro z P' hP' h
  obtain ⟨v1, v2, v3, I, L⟩ := z
  exact okX12_tour_l14 (fun v1 v2 v3 I L h9 => hP' (v1, v2, v3, I, L) h9) h
set_option maxRecDepth 10000 in
theorem okX12_tour {G : Gx} {a1 : Int32} {I : Ix} {L : Lx} {Q : Int32 → Ix → Lx → Prop} (h : wpX12_tour a1 I L Q) : Mf G MX12_tour [.ref 120, .int a1] I L (qI Q) := by
  unfold wpX12_tour at h
  refine Mf.of pn_RX12 (Nat.le_of_ble_eq_true rfl) ?_
  refine Ev.aload_n (k := 0) (pc' := 1) dX12_tour_0 rfl rfl rfl ?_
  refine Ev.iload_n (k := 1) (pc' := 2) dX12_tour_1 rfl rfl rfl ?_
  refine Ef.callVZ [.int _] [] (pc' := 5) dX12_tour_2 rfl cv_RX12_568_X12_isPerson ⟨Nat.le_of_ble_eq_true rfl, Nat.le_of_ble_eq_true rfl⟩ ob_120 rfl rfl rfl (Nat.le_of_ble_eq_true rfl) (okX12_isPerson h) (fun r3 I1 L2 h => ?_)
  refine Ef.ifz_ne (pc' := 8) (tgt := 10) dX12_tour_5 rfl rfl (fun hc => ?_) (fun hc => ?_)
  · have h := h.1 hc
    refine Ev.iconst (pc' := 11) dX12_tour_10 rfl ki_0 ?_
    refine Ev.istore_n (ls' := [(2, .int _), (0, .ref _), (1, .int _)]) (pc' := 12) dX12_tour_11 rfl rfl (Nat.le_of_ble_eq_true rfl) rfl ?_
    refine Ev.iconst (pc' := 13) dX12_tour_12 rfl ki_0 ?_
    refine Ev.istore_n (ls' := [(3, .int _), (2, .int _), (0, .ref _), (1, .int _)]) (pc' := 14) dX12_tour_13 rfl rfl (Nat.le_of_ble_eq_true rfl) rfl ?_
    exact Ev.sub [2, 3, 1, 0] rfl (okX12_tour_h14 h)
  · have h := h.2 hc
    refine Ev.iconst (pc' := 9) dX12_tour_8 rfl ki_m1 ?_
    exact Ef.iret dX12_tour_9 rfl h
def wpX12_since_l63 (Q : Int32 → Ix → Lx → Prop) (P63 : Int32 → Int32 → Ix → Lx → Prop) (v1 : Int32) (v2 : Int32) (I : Ix) (L : Lx) : Prop := (v2 ≤ 1 → Q v2 I L) ∧ (¬ v2 ≤ 1 → vp_in ((10 * (v2 - 1)) + v1) 610 ∧ vp_in v1 10 ∧ (¬ (I 150 ((10 * (v2 - 1)) + v1).toNatClampNeg) = (I 143 v1.toNatClampNeg) → Q v2 I L) ∧ ((I 150 ((10 * (v2 - 1)) + v1).toNatClampNeg) = (I 143 v1.toNatClampNeg) → P63 v1 (v2 + (-1)) I L))
def wpX12_since_h63 (Q : Int32 → Ix → Lx → Prop) (v1 : Int32) (v2 : Int32) (I : Ix) (L : Lx) : Prop := Lfp (X := Int32 × Int32 × Ix × Lx) (fun P z => wpX12_since_l63 Q (fun v1 v2 I L => P (v1, v2, I, L)) z.1 z.2.1 z.2.2.1 z.2.2.2) (v1, v2, I, L)
theorem wpX12_since_h63_fold {Q : Int32 → Ix → Lx → Prop} {v1 : Int32} {v2 : Int32} {I : Ix} {L : Lx} (h : wpX12_since_l63 Q (wpX12_since_h63 Q) v1 v2 I L) : wpX12_since_h63 Q v1 v2 I L := Lfp.fold h
def wpX12_since (a1 : Int32) (I : Ix) (L : Lx) (Q : Int32 → Ix → Lx → Prop) : Prop := wpX12_isThing a1 I L (fun r3 I1 L2 => (r3 = false → Q (-1) I1 L2) ∧ (r3 = true → vp_in a1 10 ∧ ((I1 143 a1.toNatClampNeg) < 0 → Q (-1) I1 L2) ∧ (¬ (I1 143 a1.toNatClampNeg) < 0 → ((I1 120 57) = 0 → Q (-1) I1 L2) ∧ (¬ (I1 120 57) = 0 → (60 < (I1 120 57) → Q (-1) I1 L2) ∧ (¬ 60 < (I1 120 57) → vp_in ((10 * (I1 120 57)) + a1) 610 ∧ vp_in a1 10 ∧ ((I1 150 ((10 * (I1 120 57)) + a1).toNatClampNeg) = (I1 143 a1.toNatClampNeg) → wpX12_since_h63 Q a1 (I1 120 57) I1 L2) ∧ (¬ (I1 150 ((10 * (I1 120 57)) + a1).toNatClampNeg) = (I1 143 a1.toNatClampNeg) → Q (-1) I1 L2))))))
set_option maxRecDepth 10000 in
theorem okX12_since_l63 {G : Gx} {Q : Int32 → Ix → Lx → Prop} {P63 : Int32 → Int32 → Ix → Lx → Prop} (hP63 : ∀ (v1 : Int32) (v2 : Int32) (I : Ix) (L : Lx), P63 v1 v2 I L → Ef G MX12_since (qI Q) 63 [(0, .ref 120), (1, .int v1), (2, .int v2)] [] I L) {v1 : Int32} {v2 : Int32} {I : Ix} {L : Lx} (h : wpX12_since_l63 Q P63 v1 v2 I L) : Ef G MX12_since (qI Q) 63 [(0, .ref 120), (1, .int v1), (2, .int v2)] [] I L := by
  unfold wpX12_since_l63 at h
  refine Ev.iload_n (k := 2) (pc' := 64) dX12_since_63 rfl rfl rfl ?_
  refine Ev.iconst (pc' := 65) dX12_since_64 rfl ki_1 ?_
  refine Ev.icmp_le (pc' := 68) (tgt := 96) dX12_since_65 rfl rfl (fun hc => ?_) (fun hc => ?_)
  · have h := h.1 hc
    refine Ev.iload_n (k := 2) (pc' := 97) dX12_since_96 rfl rfl rfl ?_
    exact Ef.iret dX12_since_97 rfl h
  · have h := h.2 hc
    refine Ev.aload_n (k := 0) (pc' := 69) dX12_since_68 rfl rfl rfl ?_
    refine Ev.getR (pc' := 72) dX12_since_69 rfl fa_RX12_106 ob_120 fk_12_60 rf_120_60 ?_
    refine Ev.bipush (pc' := 74) dX12_since_72 rfl kb_10 ?_
    refine Ev.iload_n (k := 2) (pc' := 75) dX12_since_74 rfl rfl rfl ?_
    refine Ev.iconst (pc' := 76) dX12_since_75 rfl ki_1 ?_
    refine Ev.isub (pc' := 77) dX12_since_76 rfl ?_
    refine Ev.imul (pc' := 78) dX12_since_77 rfl ?_
    refine Ev.iload_n (k := 1) (pc' := 79) dX12_since_78 rfl rfl rfl ?_
    refine Ev.iadd (pc' := 80) dX12_since_79 rfl ?_
    refine Ev.iaload (j := _) (pc' := 81) dX12_since_80 rfl ar_150 h.1 rfl ?_
    have h := h.2
    refine Ev.aload_n (k := 0) (pc' := 82) dX12_since_81 rfl rfl rfl ?_
    refine Ev.getR (pc' := 85) dX12_since_82 rfl fa_RX12_81 ob_120 fk_12_50 rf_120_50 ?_
    refine Ev.iload_n (k := 1) (pc' := 86) dX12_since_85 rfl rfl rfl ?_
    refine Ev.iaload (j := _) (pc' := 87) dX12_since_86 rfl ar_143 h.1 rfl ?_
    have h := h.2
    refine Ev.icmp_ne (pc' := 90) (tgt := 96) dX12_since_87 rfl rfl (fun hc => ?_) (fun hc => ?_)
    · have h := h.1 hc
      refine Ev.iload_n (k := 2) (pc' := 97) dX12_since_96 rfl rfl rfl ?_
      exact Ef.iret dX12_since_97 rfl h
    · have h := h.2 hc
      refine Ev.iinc (k := 2) (v := _) (ls' := [(2, .int _), (0, .ref _), (1, .int _)]) (pc' := 93) dX12_since_90 rfl rfl (congrArg (_ + ·) ki_m1) (Nat.le_of_ble_eq_true rfl) rfl ?_
      refine Ev.goto (tgt := 63) dX12_since_93 rfl ?_
      exact Ev.sub [1, 2, 0] rfl (hP63 _ _ _ _ h)
set_option maxRecDepth 10000 in
theorem okX12_since_h63 {G : Gx} {Q : Int32 → Ix → Lx → Prop} {v1 : Int32} {v2 : Int32} {I : Ix} {L : Lx} (h : wpX12_since_h63 Q v1 v2 I L) : Ef G MX12_since (qI Q) 63 [(0, .ref 120), (1, .int v1), (2, .int v2)] [] I L := by
  unfold wpX12_since_h63 at h
  refine Lfp.ind (P := fun z => Ef G MX12_since (qI Q) 63 [(0, .ref 120), (1, .int z.1), (2, .int z.2.1)] [] z.2.2.1 z.2.2.2) ?_ h
  intro z P' hP' h
  obtain ⟨v1, v2, I, L⟩ := z
  exact okX12_since_l63 (fun v1 v2 I L h9 => hP' (v1, v2, I, L) h9) h
set_option maxRecDepth 10000 in
theorem okX12_since {G : Gx} {a1 : Int32} {I : Ix} {L : Lx} {Q : Int32 → Ix → Lx → Prop} (h : wpX12_since a1 I L Q) : Mf G MX12_since [.ref 120, .int a1] I L (qI Q) := by
  unfold wpX12_since at h
  refine Mf.of pn_RX12 (Nat.le_of_ble_eq_true rfl) ?_
  refine Ev.aload_n (k := 0) (pc' := 1) dX12_since_0 rfl rfl rfl ?_
  refine Ev.iload_n (k := 1) (pc' := 2) dX12_since_1 rfl rfl rfl ?_
  refine Ef.callVZ [.int _] [] (pc' := 5) dX12_since_2 rfl cv_RX12_565_X12_isThing ⟨Nat.le_of_ble_eq_true rfl, Nat.le_of_ble_eq_true rfl⟩ ob_120 rfl rfl rfl (Nat.le_of_ble_eq_true rfl) (okX12_isThing h) (fun r3 I1 L2 h => ?_)
  refine Ef.ifz_eq (pc' := 8) (tgt := 56) dX12_since_5 rfl rfl (fun hc => ?_) (fun hc => ?_)
  · have h := h.1 hc
    refine Ev.iconst (pc' := 57) dX12_since_56 rfl ki_m1 ?_
    exact Ef.iret dX12_since_57 rfl h
  · have h := h.2 hc
    refine Ev.aload_n (k := 0) (pc' := 9) dX12_since_8 rfl rfl rfl ?_
    refine Ev.getR (pc' := 12) dX12_since_9 rfl fa_RX12_81 ob_120 fk_12_50 rf_120_50 ?_
    refine Ev.iload_n (k := 1) (pc' := 13) dX12_since_12 rfl rfl rfl ?_
    refine Ev.iaload (j := _) (pc' := 14) dX12_since_13 rfl ar_143 h.1 rfl ?_
    have h := h.2
    refine Ev.if_lt (pc' := 17) (tgt := 56) dX12_since_14 rfl rfl (fun hc => ?_) (fun hc => ?_)
    · have h := h.1 hc
      refine Ev.iconst (pc' := 57) dX12_since_56 rfl ki_m1 ?_
      exact Ef.iret dX12_since_57 rfl h
    · have h := h.2 hc
      refine Ev.aload_n (k := 0) (pc' := 18) dX12_since_17 rfl rfl rfl ?_
      refine Ev.getI (pc' := 21) dX12_since_18 rfl fa_RX12_464 ob_120 fk_12_57 ?_
      refine Ev.if_eq (pc' := 24) (tgt := 56) dX12_since_21 rfl rfl (fun hc => ?_) (fun hc => ?_)
      · have h := h.1 hc
        refine Ev.iconst (pc' := 57) dX12_since_56 rfl ki_m1 ?_
        exact Ef.iret dX12_since_57 rfl h
      · have h := h.2 hc
        refine Ev.aload_n (k := 0) (pc' := 25) dX12_since_24 rfl rfl rfl ?_
        refine Ev.getI (pc' := 28) dX12_since_25 rfl fa_RX12_464 ob_120 fk_12_57 ?_
        refine Ev.bipush (pc' := 30) dX12_since_28 rfl kb_60 ?_
        refine Ev.icmp_gt (pc' := 33) (tgt := 56) dX12_since_30 rfl rfl (fun hc => ?_) (fun hc => ?_)
        · have h := h.1 hc
          refine Ev.iconst (pc' := 57) dX12_since_56 rfl ki_m1 ?_
          exact Ef.iret dX12_since_57 rfl h
        · have h := h.2 hc
          refine Ev.aload_n (k := 0) (pc' := 34) dX12_since_33 rfl rfl rfl ?_
          refine Ev.getR (pc' := 37) dX12_since_34 rfl fa_RX12_106 ob_120 fk_12_60 rf_120_60 ?_
          refine Ev.bipush (pc' := 39) dX12_since_37 rfl kb_10 ?_
          refine Ev.aload_n (k := 0) (pc' := 40) dX12_since_39 rfl rfl rfl ?_
          refine Ev.getI (pc' := 43) dX12_since_40 rfl fa_RX12_464 ob_120 fk_12_57 ?_
          refine Ev.imul (pc' := 44) dX12_since_43 rfl ?_
          refine Ev.iload_n (k := 1) (pc' := 45) dX12_since_44 rfl rfl rfl ?_
          refine Ev.iadd (pc' := 46) dX12_since_45 rfl ?_
          refine Ev.iaload (j := _) (pc' := 47) dX12_since_46 rfl ar_150 h.1 rfl ?_
          have h := h.2
          refine Ev.aload_n (k := 0) (pc' := 48) dX12_since_47 rfl rfl rfl ?_
          refine Ev.getR (pc' := 51) dX12_since_48 rfl fa_RX12_81 ob_120 fk_12_50 rf_120_50 ?_
          refine Ev.iload_n (k := 1) (pc' := 52) dX12_since_51 rfl rfl rfl ?_
          refine Ev.iaload (j := _) (pc' := 53) dX12_since_52 rfl ar_143 h.1 rfl ?_
          have h := h.2
          refine Ev.icmp_eq (pc' := 56) (tgt := 58) dX12_since_53 rfl rfl (fun hc => ?_) (fun hc => ?_)
          · have h := h.1 hc
            refine Ev.aload_n (k := 0) (pc' := 59) dX12_since_58 rfl rfl rfl ?_
            refine Ev.getI (pc' := 62) dX12_since_59 rfl fa_RX12_464 ob_120 fk_12_57 ?_
            refine Ev.istore_n (ls' := [(2, .int _), (0, .ref _), (1, .int _)]) (pc' := 63) dX12_since_62 rfl rfl (Nat.le_of_ble_eq_true rfl) rfl ?_
            exact Ev.sub [1, 2, 0] rfl (okX12_since_h63 h)
          · have h := h.2 hc
            refine Ev.iconst (pc' := 57) dX12_since_56 rfl ki_m1 ?_
            exact Ef.iret dX12_since_57 rfl h
def wpX12_tale_b32 (Q : Int32 → Ix → Lx → Prop) (v1 : Int32) (v2 : Int32) (v3 : Int32) (I : Ix) (L : Lx) : Prop := (¬ (I 120 93) = 40 → vp_in (I 120 93) 40 ∧ ∀ I1 : Ix, I1 = pu I 164 (I 120 93).toNatClampNeg v1 → vp_in (I1 120 93) 40 ∧ ∀ I2 : Ix, I2 = pu I1 165 (I1 120 93).toNatClampNeg v2 → vp_in (I2 120 93) 40 ∧ ∀ I3 : Ix, I3 = pu I2 166 (I2 120 93).toNatClampNeg v3 → vp_in (I3 120 93) 40 ∧ ∀ I4 : Ix, I4 = pu I3 167 (I3 120 93).toNatClampNeg (I3 120 94) → vp_in (I4 120 93) 40 ∧ ∀ I5 : Ix, I5 = pu I4 168 (I4 120 93).toNatClampNeg (-1) → ∀ I6 : Ix, I6 = pu I5 120 93 ((I5 120 93) + 1) → Q ((I6 120 93) - 1) I6 L) ∧ ((I 120 93) = 40 → Q (-1) I L)
def wpX12_tale (a1 : Int32) (a2 : Int32) (a3 : Int32) (I : Ix) (L : Lx) (Q : Int32 → Ix → Lx → Prop) : Prop := (a1 < 1 → Q (-1) I L) ∧ (¬ a1 < 1 → (60 < a1 → Q (-1) I L) ∧ (¬ 60 < a1 → wpX12_isThing a2 I L (fun r3 I1 L2 => (r3 = false → Q (-1) I1 L2) ∧ (r3 = true → (a3 = (-1) → wpX12_tale_b32 Q a1 a2 a3 I1 L2) ∧ (¬ a3 = (-1) → wpX12_isPerson a3 I1 L2 (fun r6 I4 L5 => (r6 = false → Q (-1) I4 L5) ∧ (r6 = true → wpX12_tale_b32 Q a1 a2 a3 I4 L5)))))))
set_option maxRecDepth 10000 in
theorem okX12_tale_b32 {G : Gx} {Q : Int32 → Ix → Lx → Prop} {v1 : Int32} {v2 : Int32} {v3 : Int32} {I : Ix} {L : Lx} (h : wpX12_tale_b32 Q v1 v2 v3 I L) : Ef G MX12_tale (qI Q) 32 [(0, .ref 120), (1, .int v1), (2, .int v2), (3, .int v3)] [] I L := by
  unfold wpX12_tale_b32 at h
  refine Ev.aload_n (k := 0) (pc' := 33) dX12_tale_32 rfl rfl rfl ?_
  refine Ev.getI (pc' := 36) dX12_tale_33 rfl fa_RX12_455 ob_120 fk_12_93 ?_
  refine Ev.bipush (pc' := 38) dX12_tale_36 rfl kb_40 ?_
  refine Ev.icmp_ne (pc' := 41) (tgt := 43) dX12_tale_38 rfl rfl (fun hc => ?_) (fun hc => ?_)
  · have h := h.1 hc
    refine Ev.aload_n (k := 0) (pc' := 44) dX12_tale_43 rfl rfl rfl ?_
    refine Ev.getR (pc' := 47) dX12_tale_44 rfl fa_RX12_151 ob_120 fk_12_88 rf_120_88 ?_
    refine Ev.aload_n (k := 0) (pc' := 48) dX12_tale_47 rfl rfl rfl ?_
    refine Ev.getI (pc' := 51) dX12_tale_48 rfl fa_RX12_455 ob_120 fk_12_93 ?_
    refine Ev.iload_n (k := 1) (pc' := 52) dX12_tale_51 rfl rfl rfl ?_
    refine Ev.iastore (j := _) (pc' := 53) dX12_tale_52 rfl ar_164 h.1 rfl (fun I1 eI1 => ?_)
    have h := h.2 I1 eI1
    refine Ev.aload_n (k := 0) (pc' := 54) dX12_tale_53 rfl rfl rfl ?_
    refine Ev.getR (pc' := 57) dX12_tale_54 rfl fa_RX12_154 ob_120 fk_12_89 rf_120_89 ?_
    refine Ev.aload_n (k := 0) (pc' := 58) dX12_tale_57 rfl rfl rfl ?_
    refine Ev.getI (pc' := 61) dX12_tale_58 rfl fa_RX12_455 ob_120 fk_12_93 ?_
    refine Ev.iload_n (k := 2) (pc' := 62) dX12_tale_61 rfl rfl rfl ?_
    refine Ev.iastore (j := _) (pc' := 63) dX12_tale_62 rfl ar_165 h.1 rfl (fun I2 eI2 => ?_)
    have h := h.2 I2 eI2
    refine Ev.aload_n (k := 0) (pc' := 64) dX12_tale_63 rfl rfl rfl ?_
    refine Ev.getR (pc' := 67) dX12_tale_64 rfl fa_RX12_157 ob_120 fk_12_90 rf_120_90 ?_
    refine Ev.aload_n (k := 0) (pc' := 68) dX12_tale_67 rfl rfl rfl ?_
    refine Ev.getI (pc' := 71) dX12_tale_68 rfl fa_RX12_455 ob_120 fk_12_93 ?_
    refine Ev.iload_n (k := 3) (pc' := 72) dX12_tale_71 rfl rfl rfl ?_
    refine Ev.iastore (j := _) (pc' := 73) dX12_tale_72 rfl ar_166 h.1 rfl (fun I3 eI3 => ?_)
    have h := h.2 I3 eI3
    refine Ev.aload_n (k := 0) (pc' := 74) dX12_tale_73 rfl rfl rfl ?_
    refine Ev.getR (pc' := 77) dX12_tale_74 rfl fa_RX12_160 ob_120 fk_12_91 rf_120_91 ?_
    refine Ev.aload_n (k := 0) (pc' := 78) dX12_tale_77 rfl rfl rfl ?_
    refine Ev.getI (pc' := 81) dX12_tale_78 rfl fa_RX12_455 ob_120 fk_12_93 ?_
    refine Ev.aload_n (k := 0) (pc' := 82) dX12_tale_81 rfl rfl rfl ?_
    refine Ev.getI (pc' := 85) dX12_tale_82 rfl fa_RX12_665 ob_120 fk_12_94 ?_
    refine Ev.iastore (j := _) (pc' := 86) dX12_tale_85 rfl ar_167 h.1 rfl (fun I4 eI4 => ?_)
    have h := h.2 I4 eI4
    refine Ev.aload_n (k := 0) (pc' := 87) dX12_tale_86 rfl rfl rfl ?_
    refine Ev.getR (pc' := 90) dX12_tale_87 rfl fa_RX12_163 ob_120 fk_12_92 rf_120_92 ?_
    refine Ev.aload_n (k := 0) (pc' := 91) dX12_tale_90 rfl rfl rfl ?_
    refine Ev.getI (pc' := 94) dX12_tale_91 rfl fa_RX12_455 ob_120 fk_12_93 ?_
    refine Ev.iconst (pc' := 95) dX12_tale_94 rfl ki_m1 ?_
    refine Ev.iastore (j := _) (pc' := 96) dX12_tale_95 rfl ar_168 h.1 rfl (fun I5 eI5 => ?_)
    have h := h.2 I5 eI5
    refine Ev.aload_n (k := 0) (pc' := 97) dX12_tale_96 rfl rfl rfl ?_
    refine Ev.dup (pc' := 98) dX12_tale_97 rfl rfl ?_
    refine Ev.getI (pc' := 101) dX12_tale_98 rfl fa_RX12_455 ob_120 fk_12_93 ?_
    refine Ev.iconst (pc' := 102) dX12_tale_101 rfl ki_1 ?_
    refine Ev.iadd (pc' := 103) dX12_tale_102 rfl ?_
    refine Ev.putI (pc' := 106) dX12_tale_103 rfl fa_RX12_455 ob_120 fk_12_93 rfl rfl (fun I6 eI6 => ?_)
    have h := h I6 eI6
    refine Ev.aload_n (k := 0) (pc' := 107) dX12_tale_106 rfl rfl rfl ?_
    refine Ev.getI (pc' := 110) dX12_tale_107 rfl fa_RX12_455 ob_120 fk_12_93 ?_
    refine Ev.iconst (pc' := 111) dX12_tale_110 rfl ki_1 ?_
    refine Ev.isub (pc' := 112) dX12_tale_111 rfl ?_
    exact Ef.iret dX12_tale_112 rfl h
  · have h := h.2 hc
    refine Ev.iconst (pc' := 42) dX12_tale_41 rfl ki_m1 ?_
    exact Ef.iret dX12_tale_42 rfl h
set_option maxRecDepth 10000 in
theorem okX12_tale {G : Gx} {a1 : Int32} {a2 : Int32} {a3 : Int32} {I : Ix} {L : Lx} {Q : Int32 → Ix → Lx → Prop} (h : wpX12_tale a1 a2 a3 I L Q) : Mf G MX12_tale [.ref 120, .int a1, .int a2, .int a3] I L (qI Q) := by
  unfold wpX12_tale at h
  refine Mf.of pn_RX12 (Nat.le_of_ble_eq_true rfl) ?_
  refine Ev.iload_n (k := 1) (pc' := 1) dX12_tale_0 rfl rfl rfl ?_
  refine Ev.iconst (pc' := 2) dX12_tale_1 rfl ki_1 ?_
  refine Ev.icmp_lt (pc' := 5) (tgt := 41) dX12_tale_2 rfl rfl (fun hc => ?_) (fun hc => ?_)
  · have h := h.1 hc
    refine Ev.iconst (pc' := 42) dX12_tale_41 rfl ki_m1 ?_
    exact Ef.iret dX12_tale_42 rfl h
  · have h := h.2 hc
    refine Ev.iload_n (k := 1) (pc' := 6) dX12_tale_5 rfl rfl rfl ?_
    refine Ev.bipush (pc' := 8) dX12_tale_6 rfl kb_60 ?_
    refine Ev.icmp_gt (pc' := 11) (tgt := 41) dX12_tale_8 rfl rfl (fun hc => ?_) (fun hc => ?_)
    · have h := h.1 hc
      refine Ev.iconst (pc' := 42) dX12_tale_41 rfl ki_m1 ?_
      exact Ef.iret dX12_tale_42 rfl h
    · have h := h.2 hc
      refine Ev.aload_n (k := 0) (pc' := 12) dX12_tale_11 rfl rfl rfl ?_
      refine Ev.iload_n (k := 2) (pc' := 13) dX12_tale_12 rfl rfl rfl ?_
      refine Ef.callVZ [.int _] [] (pc' := 16) dX12_tale_13 rfl cv_RX12_565_X12_isThing ⟨Nat.le_of_ble_eq_true rfl, Nat.le_of_ble_eq_true rfl⟩ ob_120 rfl rfl rfl (Nat.le_of_ble_eq_true rfl) (okX12_isThing h) (fun r3 I1 L2 h => ?_)
      refine Ef.ifz_eq (pc' := 19) (tgt := 41) dX12_tale_16 rfl rfl (fun hc => ?_) (fun hc => ?_)
      · have h := h.1 hc
        refine Ev.iconst (pc' := 42) dX12_tale_41 rfl ki_m1 ?_
        exact Ef.iret dX12_tale_42 rfl h
      · have h := h.2 hc
        refine Ev.iload_n (k := 3) (pc' := 20) dX12_tale_19 rfl rfl rfl ?_
        refine Ev.iconst (pc' := 21) dX12_tale_20 rfl ki_m1 ?_
        refine Ev.icmp_eq (pc' := 24) (tgt := 32) dX12_tale_21 rfl rfl (fun hc => ?_) (fun hc => ?_)
        · have h := h.1 hc
          exact okX12_tale_b32 h
        · have h := h.2 hc
          refine Ev.aload_n (k := 0) (pc' := 25) dX12_tale_24 rfl rfl rfl ?_
          refine Ev.iload_n (k := 3) (pc' := 26) dX12_tale_25 rfl rfl rfl ?_
          refine Ef.callVZ [.int _] [] (pc' := 29) dX12_tale_26 rfl cv_RX12_568_X12_isPerson ⟨Nat.le_of_ble_eq_true rfl, Nat.le_of_ble_eq_true rfl⟩ ob_120 rfl rfl rfl (Nat.le_of_ble_eq_true rfl) (okX12_isPerson h) (fun r6 I4 L5 h => ?_)
          refine Ef.ifz_eq (pc' := 32) (tgt := 41) dX12_tale_29 rfl rfl (fun hc => ?_) (fun hc => ?_)
          · have h := h.1 hc
            refine Ev.iconst (pc' := 42) dX12_tale_41 rfl ki_m1 ?_
            exact Ef.iret dX12_tale_42 rfl h
          · have h := h.2 hc
            exact okX12_tale_b32 h
def wpX12_untell (a1 : Int32) (I : Ix) (L : Lx) (Q : Bool → Ix → Lx → Prop) : Prop := (a1 < 0 → Q false I L) ∧ (¬ a1 < 0 → ((I 120 93) ≤ a1 → Q false I L) ∧ (¬ (I 120 93) ≤ a1 → vp_in a1 40 ∧ ((I 168 a1.toNatClampNeg) < 0 → vp_in a1 40 ∧ ∀ I1 : Ix, I1 = pu I 168 a1.toNatClampNeg (I 120 94) → Q true I1 L) ∧ (¬ (I 168 a1.toNatClampNeg) < 0 → Q false I L)))
set_option maxRecDepth 10000 in
theorem okX12_untell {G : Gx} {a1 : Int32} {I : Ix} {L : Lx} {Q : Bool → Ix → Lx → Prop} (h : wpX12_untell a1 I L Q) : Mf G MX12_untell [.ref 120, .int a1] I L (qZ Q) := by
  unfold wpX12_untell at h
  refine Mf.of pn_RX12 (Nat.le_of_ble_eq_true rfl) ?_
  refine Ev.iload_n (k := 1) (pc' := 1) dX12_untell_0 rfl rfl rfl ?_
  refine Ev.if_lt (pc' := 4) (tgt := 21) dX12_untell_1 rfl rfl (fun hc => ?_) (fun hc => ?_)
  · have h := h.1 hc
    refine Ev.iconst (pc' := 22) dX12_untell_21 rfl ki_0 ?_
    exact Ef.zret (b := false) dX12_untell_22 rfl h
  · have h := h.2 hc
    refine Ev.iload_n (k := 1) (pc' := 5) dX12_untell_4 rfl rfl rfl ?_
    refine Ev.aload_n (k := 0) (pc' := 6) dX12_untell_5 rfl rfl rfl ?_
    refine Ev.getI (pc' := 9) dX12_untell_6 rfl fa_RX12_455 ob_120 fk_12_93 ?_
    refine Ev.icmp_ge (pc' := 12) (tgt := 21) dX12_untell_9 rfl rfl (fun hc => ?_) (fun hc => ?_)
    · have h := h.1 hc
      refine Ev.iconst (pc' := 22) dX12_untell_21 rfl ki_0 ?_
      exact Ef.zret (b := false) dX12_untell_22 rfl h
    · have h := h.2 hc
      refine Ev.aload_n (k := 0) (pc' := 13) dX12_untell_12 rfl rfl rfl ?_
      refine Ev.getR (pc' := 16) dX12_untell_13 rfl fa_RX12_163 ob_120 fk_12_92 rf_120_92 ?_
      refine Ev.iload_n (k := 1) (pc' := 17) dX12_untell_16 rfl rfl rfl ?_
      refine Ev.iaload (j := _) (pc' := 18) dX12_untell_17 rfl ar_168 h.1 rfl ?_
      have h := h.2
      refine Ev.if_lt (pc' := 21) (tgt := 23) dX12_untell_18 rfl rfl (fun hc => ?_) (fun hc => ?_)
      · have h := h.1 hc
        refine Ev.aload_n (k := 0) (pc' := 24) dX12_untell_23 rfl rfl rfl ?_
        refine Ev.getR (pc' := 27) dX12_untell_24 rfl fa_RX12_163 ob_120 fk_12_92 rf_120_92 ?_
        refine Ev.iload_n (k := 1) (pc' := 28) dX12_untell_27 rfl rfl rfl ?_
        refine Ev.aload_n (k := 0) (pc' := 29) dX12_untell_28 rfl rfl rfl ?_
        refine Ev.getI (pc' := 32) dX12_untell_29 rfl fa_RX12_665 ob_120 fk_12_94 ?_
        refine Ev.iastore (j := _) (pc' := 33) dX12_untell_32 rfl ar_168 h.1 rfl (fun I1 eI1 => ?_)
        have h := h.2 I1 eI1
        refine Ev.iconst (pc' := 34) dX12_untell_33 rfl ki_1 ?_
        exact Ef.zret (b := true) dX12_untell_34 rfl h
      · have h := h.2 hc
        refine Ev.iconst (pc' := 22) dX12_untell_21 rfl ki_0 ?_
        exact Ef.zret (b := false) dX12_untell_22 rfl h
def wpX12_later (a1 : Int32) (I : Ix) (L : Lx) (Q : Int32 → Ix → Lx → Prop) : Prop := (a1 < 0 → Q (-1) I L) ∧ (¬ a1 < 0 → (1000 < a1 → Q (-1) I L) ∧ (¬ 1000 < a1 → (((I 120 94) + a1) ≤ 100000 → ∀ I1 : Ix, I1 = pu I 120 94 ((I 120 94) + a1) → Q (I1 120 94) I1 L) ∧ (¬ ((I 120 94) + a1) ≤ 100000 → Q (-1) I L)))
set_option maxRecDepth 10000 in
theorem okX12_later {G : Gx} {a1 : Int32} {I : Ix} {L : Lx} {Q : Int32 → Ix → Lx → Prop} (h : wpX12_later a1 I L Q) : Mf G MX12_later [.ref 120, .int a1] I L (qI Q) := by
  unfold wpX12_later at h
  refine Mf.of pn_RX12 (Nat.le_of_ble_eq_true rfl) ?_
  refine Ev.iload_n (k := 1) (pc' := 1) dX12_later_0 rfl rfl rfl ?_
  refine Ev.if_lt (pc' := 4) (tgt := 23) dX12_later_1 rfl rfl (fun hc => ?_) (fun hc => ?_)
  · have h := h.1 hc
    refine Ev.iconst (pc' := 24) dX12_later_23 rfl ki_m1 ?_
    exact Ef.iret dX12_later_24 rfl h
  · have h := h.2 hc
    refine Ev.iload_n (k := 1) (pc' := 5) dX12_later_4 rfl rfl rfl ?_
    refine Ev.sipush (pc' := 8) dX12_later_5 rfl ks_1000 ?_
    refine Ev.icmp_gt (pc' := 11) (tgt := 23) dX12_later_8 rfl rfl (fun hc => ?_) (fun hc => ?_)
    · have h := h.1 hc
      refine Ev.iconst (pc' := 24) dX12_later_23 rfl ki_m1 ?_
      exact Ef.iret dX12_later_24 rfl h
    · have h := h.2 hc
      refine Ev.aload_n (k := 0) (pc' := 12) dX12_later_11 rfl rfl rfl ?_
      refine Ev.getI (pc' := 15) dX12_later_12 rfl fa_RX12_665 ob_120 fk_12_94 ?_
      refine Ev.iload_n (k := 1) (pc' := 16) dX12_later_15 rfl rfl rfl ?_
      refine Ev.iadd (pc' := 17) dX12_later_16 rfl ?_
      refine Ev.ldc_w (pc' := 20) dX12_later_17 rfl lc_RX12_668 ?_
      refine Ev.icmp_le (pc' := 23) (tgt := 25) dX12_later_20 rfl rfl (fun hc => ?_) (fun hc => ?_)
      · have h := h.1 hc
        refine Ev.aload_n (k := 0) (pc' := 26) dX12_later_25 rfl rfl rfl ?_
        refine Ev.dup (pc' := 27) dX12_later_26 rfl rfl ?_
        refine Ev.getI (pc' := 30) dX12_later_27 rfl fa_RX12_665 ob_120 fk_12_94 ?_
        refine Ev.iload_n (k := 1) (pc' := 31) dX12_later_30 rfl rfl rfl ?_
        refine Ev.iadd (pc' := 32) dX12_later_31 rfl ?_
        refine Ev.putI (pc' := 35) dX12_later_32 rfl fa_RX12_665 ob_120 fk_12_94 rfl rfl (fun I1 eI1 => ?_)
        have h := h I1 eI1
        refine Ev.aload_n (k := 0) (pc' := 36) dX12_later_35 rfl rfl rfl ?_
        refine Ev.getI (pc' := 39) dX12_later_36 rfl fa_RX12_665 ob_120 fk_12_94 ?_
        exact Ef.iret dX12_later_39 rfl h
      · have h := h.2 hc
        refine Ev.iconst (pc' := 24) dX12_later_23 rfl ki_m1 ?_
        exact Ef.iret dX12_later_24 rfl h
def wpX12_counts_b29 (Q : Bool → Ix → Lx → Prop) (I : Ix) (L : Lx) : Prop := Q true I L
def wpX12_counts (a1 : Int32) (a2 : Int32) (I : Ix) (L : Lx) (Q : Bool → Ix → Lx → Prop) : Prop := vp_in a1 40 ∧ (a2 < (I 167 a1.toNatClampNeg) → Q false I L) ∧ (¬ a2 < (I 167 a1.toNatClampNeg) → vp_in a1 40 ∧ ((I 168 a1.toNatClampNeg) < 0 → wpX12_counts_b29 Q I L) ∧ (¬ (I 168 a1.toNatClampNeg) < 0 → vp_in a1 40 ∧ ((I 168 a1.toNatClampNeg) ≤ a2 → Q false I L) ∧ (¬ (I 168 a1.toNatClampNeg) ≤ a2 → wpX12_counts_b29 Q I L)))
set_option maxRecDepth 10000 in
theorem okX12_counts_b29 {G : Gx} {Q : Bool → Ix → Lx → Prop} {I : Ix} {L : Lx} (h : wpX12_counts_b29 Q I L) : Ef G MX12_counts (qZ Q) 29 [] [] I L := by
  unfold wpX12_counts_b29 at h
  refine Ev.iconst (pc' := 30) dX12_counts_29 rfl ki_1 ?_
  refine Ev.goto (tgt := 34) dX12_counts_30 rfl ?_
  exact Ef.zret (b := true) dX12_counts_34 rfl h
set_option maxRecDepth 10000 in
theorem okX12_counts {G : Gx} {a1 : Int32} {a2 : Int32} {I : Ix} {L : Lx} {Q : Bool → Ix → Lx → Prop} (h : wpX12_counts a1 a2 I L Q) : Mf G MX12_counts [.ref 120, .int a1, .int a2] I L (qZ Q) := by
  unfold wpX12_counts at h
  refine Mf.of pn_RX12 (Nat.le_of_ble_eq_true rfl) ?_
  refine Ev.aload_n (k := 0) (pc' := 1) dX12_counts_0 rfl rfl rfl ?_
  refine Ev.getR (pc' := 4) dX12_counts_1 rfl fa_RX12_160 ob_120 fk_12_91 rf_120_91 ?_
  refine Ev.iload_n (k := 1) (pc' := 5) dX12_counts_4 rfl rfl rfl ?_
  refine Ev.iaload (j := _) (pc' := 6) dX12_counts_5 rfl ar_167 h.1 rfl ?_
  have h := h.2
  refine Ev.iload_n (k := 2) (pc' := 7) dX12_counts_6 rfl rfl rfl ?_
  refine Ev.icmp_gt (pc' := 10) (tgt := 33) dX12_counts_7 rfl rfl (fun hc => ?_) (fun hc => ?_)
  · have h := h.1 hc
    refine Ev.iconst (pc' := 34) dX12_counts_33 rfl ki_0 ?_
    exact Ef.zret (b := false) dX12_counts_34 rfl h
  · have h := h.2 hc
    refine Ev.aload_n (k := 0) (pc' := 11) dX12_counts_10 rfl rfl rfl ?_
    refine Ev.getR (pc' := 14) dX12_counts_11 rfl fa_RX12_163 ob_120 fk_12_92 rf_120_92 ?_
    refine Ev.iload_n (k := 1) (pc' := 15) dX12_counts_14 rfl rfl rfl ?_
    refine Ev.iaload (j := _) (pc' := 16) dX12_counts_15 rfl ar_168 h.1 rfl ?_
    have h := h.2
    refine Ev.if_lt (pc' := 19) (tgt := 29) dX12_counts_16 rfl rfl (fun hc => ?_) (fun hc => ?_)
    · have h := h.1 hc
      exact Ev.sub [] rfl (okX12_counts_b29 h)
    · have h := h.2 hc
      refine Ev.aload_n (k := 0) (pc' := 20) dX12_counts_19 rfl rfl rfl ?_
      refine Ev.getR (pc' := 23) dX12_counts_20 rfl fa_RX12_163 ob_120 fk_12_92 rf_120_92 ?_
      refine Ev.iload_n (k := 1) (pc' := 24) dX12_counts_23 rfl rfl rfl ?_
      refine Ev.iaload (j := _) (pc' := 25) dX12_counts_24 rfl ar_168 h.1 rfl ?_
      have h := h.2
      refine Ev.iload_n (k := 2) (pc' := 26) dX12_counts_25 rfl rfl rfl ?_
      refine Ev.icmp_le (pc' := 29) (tgt := 33) dX12_counts_26 rfl rfl (fun hc => ?_) (fun hc => ?_)
      · have h := h.1 hc
        refine Ev.iconst (pc' := 34) dX12_counts_33 rfl ki_0 ?_
        exact Ef.zret (b := false) dX12_counts_34 rfl h
      · have h := h.2 hc
        exact Ev.sub [] rfl (okX12_counts_b29 h)
def wpX12_isFalse (a1 : Int32) (I : Ix) (L : Lx) (Q : Bool → Ix → Lx → Prop) : Prop := vp_in a1 40 ∧ ((I 120 57) < (I 164 a1.toNatClampNeg) → Q false I L) ∧ (¬ (I 120 57) < (I 164 a1.toNatClampNeg) → vp_in a1 40 ∧ vp_in a1 40 ∧ vp_in ((10 * (I 164 a1.toNatClampNeg)) + (I 165 a1.toNatClampNeg)) 610 ∧ vp_in a1 40 ∧ ((I 150 ((10 * (I 164 a1.toNatClampNeg)) + (I 165 a1.toNatClampNeg)).toNatClampNeg) = (I 166 a1.toNatClampNeg) → Q false I L) ∧ (¬ (I 150 ((10 * (I 164 a1.toNatClampNeg)) + (I 165 a1.toNatClampNeg)).toNatClampNeg) = (I 166 a1.toNatClampNeg) → Q true I L))
set_option maxRecDepth 10000 in
theorem okX12_isFalse {G : Gx} {a1 : Int32} {I : Ix} {L : Lx} {Q : Bool → Ix → Lx → Prop} (h : wpX12_isFalse a1 I L Q) : Mf G MX12_isFalse [.ref 120, .int a1] I L (qZ Q) := by
  unfold wpX12_isFalse at h
  refine Mf.of pn_RX12 (Nat.le_of_ble_eq_true rfl) ?_
  refine Ev.aload_n (k := 0) (pc' := 1) dX12_isFalse_0 rfl rfl rfl ?_
  refine Ev.getR (pc' := 4) dX12_isFalse_1 rfl fa_RX12_151 ob_120 fk_12_88 rf_120_88 ?_
  refine Ev.iload_n (k := 1) (pc' := 5) dX12_isFalse_4 rfl rfl rfl ?_
  refine Ev.iaload (j := _) (pc' := 6) dX12_isFalse_5 rfl ar_164 h.1 rfl ?_
  have h := h.2
  refine Ev.aload_n (k := 0) (pc' := 7) dX12_isFalse_6 rfl rfl rfl ?_
  refine Ev.getI (pc' := 10) dX12_isFalse_7 rfl fa_RX12_464 ob_120 fk_12_57 ?_
  refine Ev.icmp_gt (pc' := 13) (tgt := 47) dX12_isFalse_10 rfl rfl (fun hc => ?_) (fun hc => ?_)
  · have h := h.1 hc
    refine Ev.iconst (pc' := 48) dX12_isFalse_47 rfl ki_0 ?_
    exact Ef.zret (b := false) dX12_isFalse_48 rfl h
  · have h := h.2 hc
    refine Ev.aload_n (k := 0) (pc' := 14) dX12_isFalse_13 rfl rfl rfl ?_
    refine Ev.getR (pc' := 17) dX12_isFalse_14 rfl fa_RX12_106 ob_120 fk_12_60 rf_120_60 ?_
    refine Ev.bipush (pc' := 19) dX12_isFalse_17 rfl kb_10 ?_
    refine Ev.aload_n (k := 0) (pc' := 20) dX12_isFalse_19 rfl rfl rfl ?_
    refine Ev.getR (pc' := 23) dX12_isFalse_20 rfl fa_RX12_151 ob_120 fk_12_88 rf_120_88 ?_
    refine Ev.iload_n (k := 1) (pc' := 24) dX12_isFalse_23 rfl rfl rfl ?_
    refine Ev.iaload (j := _) (pc' := 25) dX12_isFalse_24 rfl ar_164 h.1 rfl ?_
    have h := h.2
    refine Ev.imul (pc' := 26) dX12_isFalse_25 rfl ?_
    refine Ev.aload_n (k := 0) (pc' := 27) dX12_isFalse_26 rfl rfl rfl ?_
    refine Ev.getR (pc' := 30) dX12_isFalse_27 rfl fa_RX12_154 ob_120 fk_12_89 rf_120_89 ?_
    refine Ev.iload_n (k := 1) (pc' := 31) dX12_isFalse_30 rfl rfl rfl ?_
    refine Ev.iaload (j := _) (pc' := 32) dX12_isFalse_31 rfl ar_165 h.1 rfl ?_
    have h := h.2
    refine Ev.iadd (pc' := 33) dX12_isFalse_32 rfl ?_
    refine Ev.iaload (j := _) (pc' := 34) dX12_isFalse_33 rfl ar_150 h.1 rfl ?_
    have h := h.2
    refine Ev.aload_n (k := 0) (pc' := 35) dX12_isFalse_34 rfl rfl rfl ?_
    refine Ev.getR (pc' := 38) dX12_isFalse_35 rfl fa_RX12_157 ob_120 fk_12_90 rf_120_90 ?_
    refine Ev.iload_n (k := 1) (pc' := 39) dX12_isFalse_38 rfl rfl rfl ?_
    refine Ev.iaload (j := _) (pc' := 40) dX12_isFalse_39 rfl ar_166 h.1 rfl ?_
    have h := h.2
    refine Ev.icmp_eq (pc' := 43) (tgt := 47) dX12_isFalse_40 rfl rfl (fun hc => ?_) (fun hc => ?_)
    · have h := h.1 hc
      refine Ev.iconst (pc' := 48) dX12_isFalse_47 rfl ki_0 ?_
      exact Ef.zret (b := false) dX12_isFalse_48 rfl h
    · have h := h.2 hc
      refine Ev.iconst (pc' := 44) dX12_isFalse_43 rfl ki_1 ?_
      refine Ev.goto (tgt := 48) dX12_isFalse_44 rfl ?_
      exact Ef.zret (b := true) dX12_isFalse_48 rfl h
def wpX12_isDouble_b73 (Q : Bool → Ix → Lx → Prop) (P5 : Int32 → Int32 → Int32 → Int32 → Ix → Lx → Prop) (v1 : Int32) (v2 : Int32) (v4 : Int32) (I : Ix) (L : Lx) : Prop := P5 v1 v2 1 (v4 + 1) I L
def wpX12_isDouble_l5 (Q : Bool → Ix → Lx → Prop) (P5 : Int32 → Int32 → Int32 → Int32 → Ix → Lx → Prop) (v1 : Int32) (v2 : Int32) (v3 : Int32) (v4 : Int32) (I : Ix) (L : Lx) : Prop := (v1 ≤ v4 → ∃ b, v3 = b2i b ∧ Q b I L) ∧ (¬ v1 ≤ v4 → (¬ v3 = 0 → wpX12_isDouble_b73 Q P5 v1 v2 v4 I L) ∧ (v3 = 0 → wpX12_counts v4 v2 I L (fun r3 I1 L2 => (r3 = false → P5 v1 v2 0 (v4 + 1) I1 L2) ∧ (r3 = true → vp_in v4 40 ∧ vp_in v1 40 ∧ (¬ (I1 164 v4.toNatClampNeg) = (I1 164 v1.toNatClampNeg) → P5 v1 v2 0 (v4 + 1) I1 L2) ∧ ((I1 164 v4.toNatClampNeg) = (I1 164 v1.toNatClampNeg) → vp_in v4 40 ∧ vp_in v1 40 ∧ (¬ (I1 165 v4.toNatClampNeg) = (I1 165 v1.toNatClampNeg) → P5 v1 v2 0 (v4 + 1) I1 L2) ∧ ((I1 165 v4.toNatClampNeg) = (I1 165 v1.toNatClampNeg) → vp_in v4 40 ∧ vp_in v1 40 ∧ ((I1 166 v4.toNatClampNeg) = (I1 166 v1.toNatClampNeg) → P5 v1 v2 0 (v4 + 1) I1 L2) ∧ (¬ (I1 166 v4.toNatClampNeg) = (I1 166 v1.toNatClampNeg) → wpX12_isDouble_b73 Q P5 v1 v2 v4 I1 L2)))))))
def wpX12_isDouble_h5 (Q : Bool → Ix → Lx → Prop) (v1 : Int32) (v2 : Int32) (v3 : Int32) (v4 : Int32) (I : Ix) (L : Lx) : Prop := Lfp (X := Int32 × Int32 × Int32 × Int32 × Ix × Lx) (fun P z => wpX12_isDouble_l5 Q (fun v1 v2 v3 v4 I L => P (v1, v2, v3, v4, I, L)) z.1 z.2.1 z.2.2.1 z.2.2.2.1 z.2.2.2.2.1 z.2.2.2.2.2) (v1, v2, v3, v4, I, L)
theorem wpX12_isDouble_h5_fold {Q : Bool → Ix → Lx → Prop} {v1 : Int32} {v2 : Int32} {v3 : Int32} {v4 : Int32} {I : Ix} {L : Lx} (h : wpX12_isDouble_l5 Q (wpX12_isDouble_h5 Q) v1 v2 v3 v4 I L) : wpX12_isDouble_h5 Q v1 v2 v3 v4 I L := Lfp.fold h
def wpX12_isDouble (a1 : Int32) (a2 : Int32) (I : Ix) (L : Lx) (Q : Bool → Ix → Lx → Prop) : Prop := wpX12_isDouble_h5 Q a1 a2 0 0 I L
set_option maxRecDepth 10000 in
theorem okX12_isDouble_b73 {G : Gx} {Q : Bool → Ix → Lx → Prop} {P5 : Int32 → Int32 → Int32 → Int32 → Ix → Lx → Prop} (hP5 : ∀ (v1 : Int32) (v2 : Int32) (v3 : Int32) (v4 : Int32) (I : Ix) (L : Lx), P5 v1 v2 v3 v4 I L → Ef G MX12_isDouble (qZ Q) 5 [(0, .ref 120), (1, .int v1), (2, .int v2), (3, .int v3), (4, .int v4)] [] I L) {v1 : Int32} {v2 : Int32} {v4 : Int32} {I : Ix} {L : Lx} (h : wpX12_isDouble_b73 Q P5 v1 v2 v4 I L) : Ef G MX12_isDouble (qZ Q) 73 [(0, .ref 120), (1, .int v1), (2, .int v2), (4, .int v4)] [] I L := by
  unfold wpX12_isDouble_b73 at h
  refine Ev.iconst (pc' := 74) dX12_isDouble_73 rfl ki_1 ?_
  refine Ev.goto (tgt := 78) dX12_isDouble_74 rfl ?_
  refine Ev.istore_n (ls' := [(3, .int _), (0, .ref _), (1, .int _), (2, .int _), (4, .int _)]) (pc' := 79) dX12_isDouble_78 rfl rfl (Nat.le_of_ble_eq_true rfl) rfl ?_
  refine Ev.iinc (k := 4) (v := _) (ls' := [(4, .int _), (3, .int _), (0, .ref _), (1, .int _), (2, .int _)]) (pc' := 82) dX12_isDouble_79 rfl rfl (congrArg (_ + ·) ki_1) (Nat.le_of_ble_eq_true rfl) rfl ?_
  refine Ev.goto (tgt := 5) dX12_isDouble_82 rfl ?_
  exact Ev.sub [2, 3, 4, 1, 0] rfl (hP5 _ _ _ _ _ _ h)
set_option maxRecDepth 10000 in
theorem okX12_isDouble_l5 {G : Gx} {Q : Bool → Ix → Lx → Prop} {P5 : Int32 → Int32 → Int32 → Int32 → Ix → Lx → Prop} (hP5 : ∀ (v1 : Int32) (v2 : Int32) (v3 : Int32) (v4 : Int32) (I : Ix) (L : Lx), P5 v1 v2 v3 v4 I L → Ef G MX12_isDouble (qZ Q) 5 [(0, .ref 120), (1, .int v1), (2, .int v2), (3, .int v3), (4, .int v4)] [] I L) {v1 : Int32} {v2 : Int32} {v3 : Int32} {v4 : Int32} {I : Ix} {L : Lx} (h : wpX12_isDouble_l5 Q P5 v1 v2 v3 v4 I L) : Ef G MX12_isDouble (qZ Q) 5 [(0, .ref 120), (1, .int v1), (2, .int v2), (3, .int v3), (4, .int v4)] [] I L := by
  unfold wpX12_isDouble_l5 at h
  refine Ev.iload (k := 4) (pc' := 7) dX12_isDouble_5 rfl rfl ?_
  refine Ev.iload_n (k := 1) (pc' := 8) dX12_isDouble_7 rfl rfl rfl ?_
  refine Ev.icmp_ge (pc' := 11) (tgt := 85) dX12_isDouble_8 rfl rfl (fun hc => ?_) (fun hc => ?_)
  · have h := h.1 hc
    refine Ev.iload_n (k := 3) (pc' := 86) dX12_isDouble_85 rfl rfl rfl ?_
    exact Ef.zretx dX12_isDouble_86 rfl h
  · have h := h.2 hc
    refine Ev.iload_n (k := 3) (pc' := 12) dX12_isDouble_11 rfl rfl rfl ?_
    refine Ev.if_ne (pc' := 15) (tgt := 73) dX12_isDouble_12 rfl rfl (fun hc => ?_) (fun hc => ?_)
    · have h := h.1 hc
      exact Ev.sub [0, 1, 2, 4] rfl (okX12_isDouble_b73 hP5 h)
    · have h := h.2 hc
      refine Ev.aload_n (k := 0) (pc' := 16) dX12_isDouble_15 rfl rfl rfl ?_
      refine Ev.iload (k := 4) (pc' := 18) dX12_isDouble_16 rfl rfl ?_
      refine Ev.iload_n (k := 2) (pc' := 19) dX12_isDouble_18 rfl rfl rfl ?_
      refine Ef.callVZ [.int _, .int _] [] (pc' := 22) dX12_isDouble_19 rfl cv_RX12_669_X12_counts ⟨Nat.le_of_ble_eq_true rfl, Nat.le_of_ble_eq_true rfl⟩ ob_120 rfl rfl rfl (Nat.le_of_ble_eq_true rfl) (okX12_counts h) (fun r3 I1 L2 h => ?_)
      refine Ef.ifz_eq (pc' := 25) (tgt := 77) dX12_isDouble_22 rfl rfl (fun hc => ?_) (fun hc => ?_)
      · have h := h.1 hc
        refine Ev.iconst (pc' := 78) dX12_isDouble_77 rfl ki_0 ?_
        refine Ev.istore_n (ls' := [(3, .int _), (0, .ref _), (1, .int _), (2, .int _), (4, .int _)]) (pc' := 79) dX12_isDouble_78 rfl rfl (Nat.le_of_ble_eq_true rfl) rfl ?_
        refine Ev.iinc (k := 4) (v := _) (ls' := [(4, .int _), (3, .int _), (0, .ref _), (1, .int _), (2, .int _)]) (pc' := 82) dX12_isDouble_79 rfl rfl (congrArg (_ + ·) ki_1) (Nat.le_of_ble_eq_true rfl) rfl ?_
        refine Ev.goto (tgt := 5) dX12_isDouble_82 rfl ?_
        exact Ev.sub [2, 3, 4, 1, 0] rfl (hP5 _ _ _ _ _ _ h)
      · have h := h.2 hc
        refine Ev.aload_n (k := 0) (pc' := 26) dX12_isDouble_25 rfl rfl rfl ?_
        refine Ev.getR (pc' := 29) dX12_isDouble_26 rfl fa_RX12_151 ob_120 fk_12_88 rf_120_88 ?_
        refine Ev.iload (k := 4) (pc' := 31) dX12_isDouble_29 rfl rfl ?_
        refine Ev.iaload (j := _) (pc' := 32) dX12_isDouble_31 rfl ar_164 h.1 rfl ?_
        have h := h.2
        refine Ev.aload_n (k := 0) (pc' := 33) dX12_isDouble_32 rfl rfl rfl ?_
        refine Ev.getR (pc' := 36) dX12_isDouble_33 rfl fa_RX12_151 ob_120 fk_12_88 rf_120_88 ?_
        refine Ev.iload_n (k := 1) (pc' := 37) dX12_isDouble_36 rfl rfl rfl ?_
        refine Ev.iaload (j := _) (pc' := 38) dX12_isDouble_37 rfl ar_164 h.1 rfl ?_
        have h := h.2
        refine Ev.icmp_ne (pc' := 41) (tgt := 77) dX12_isDouble_38 rfl rfl (fun hc => ?_) (fun hc => ?_)
        · have h := h.1 hc
          refine Ev.iconst (pc' := 78) dX12_isDouble_77 rfl ki_0 ?_
          refine Ev.istore_n (ls' := [(3, .int _), (0, .ref _), (1, .int _), (2, .int _), (4, .int _)]) (pc' := 79) dX12_isDouble_78 rfl rfl (Nat.le_of_ble_eq_true rfl) rfl ?_
          refine Ev.iinc (k := 4) (v := _) (ls' := [(4, .int _), (3, .int _), (0, .ref _), (1, .int _), (2, .int _)]) (pc' := 82) dX12_isDouble_79 rfl rfl (congrArg (_ + ·) ki_1) (Nat.le_of_ble_eq_true rfl) rfl ?_
          refine Ev.goto (tgt := 5) dX12_isDouble_82 rfl ?_
          exact Ev.sub [2, 3, 4, 1, 0] rfl (hP5 _ _ _ _ _ _ h)
        · have h := h.2 hc
          refine Ev.aload_n (k := 0) (pc' := 42) dX12_isDouble_41 rfl rfl rfl ?_
          refine Ev.getR (pc' := 45) dX12_isDouble_42 rfl fa_RX12_154 ob_120 fk_12_89 rf_120_89 ?_
          refine Ev.iload (k := 4) (pc' := 47) dX12_isDouble_45 rfl rfl ?_
          refine Ev.iaload (j := _) (pc' := 48) dX12_isDouble_47 rfl ar_165 h.1 rfl ?_
          have h := h.2
          refine Ev.aload_n (k := 0) (pc' := 49) dX12_isDouble_48 rfl rfl rfl ?_
          refine Ev.getR (pc' := 52) dX12_isDouble_49 rfl fa_RX12_154 ob_120 fk_12_89 rf_120_89 ?_
          refine Ev.iload_n (k := 1) (pc' := 53) dX12_isDouble_52 rfl rfl rfl ?_
          refine Ev.iaload (j := _) (pc' := 54) dX12_isDouble_53 rfl ar_165 h.1 rfl ?_
          have h := h.2
          refine Ev.icmp_ne (pc' := 57) (tgt := 77) dX12_isDouble_54 rfl rfl (fun hc => ?_) (fun hc => ?_)
          · have h := h.1 hc
            refine Ev.iconst (pc' := 78) dX12_isDouble_77 rfl ki_0 ?_
            refine Ev.istore_n (ls' := [(3, .int _), (0, .ref _), (1, .int _), (2, .int _), (4, .int _)]) (pc' := 79) dX12_isDouble_78 rfl rfl (Nat.le_of_ble_eq_true rfl) rfl ?_
            refine Ev.iinc (k := 4) (v := _) (ls' := [(4, .int _), (3, .int _), (0, .ref _), (1, .int _), (2, .int _)]) (pc' := 82) dX12_isDouble_79 rfl rfl (congrArg (_ + ·) ki_1) (Nat.le_of_ble_eq_true rfl) rfl ?_
            refine Ev.goto (tgt := 5) dX12_isDouble_82 rfl ?_
            exact Ev.sub [2, 3, 4, 1, 0] rfl (hP5 _ _ _ _ _ _ h)
          · have h := h.2 hc
            refine Ev.aload_n (k := 0) (pc' := 58) dX12_isDouble_57 rfl rfl rfl ?_
            refine Ev.getR (pc' := 61) dX12_isDouble_58 rfl fa_RX12_157 ob_120 fk_12_90 rf_120_90 ?_
            refine Ev.iload (k := 4) (pc' := 63) dX12_isDouble_61 rfl rfl ?_
            refine Ev.iaload (j := _) (pc' := 64) dX12_isDouble_63 rfl ar_166 h.1 rfl ?_
            have h := h.2
            refine Ev.aload_n (k := 0) (pc' := 65) dX12_isDouble_64 rfl rfl rfl ?_
            refine Ev.getR (pc' := 68) dX12_isDouble_65 rfl fa_RX12_157 ob_120 fk_12_90 rf_120_90 ?_
            refine Ev.iload_n (k := 1) (pc' := 69) dX12_isDouble_68 rfl rfl rfl ?_
            refine Ev.iaload (j := _) (pc' := 70) dX12_isDouble_69 rfl ar_166 h.1 rfl ?_
            have h := h.2
            refine Ev.icmp_eq (pc' := 73) (tgt := 77) dX12_isDouble_70 rfl rfl (fun hc => ?_) (fun hc => ?_)
            · have h := h.1 hc
              refine Ev.iconst (pc' := 78) dX12_isDouble_77 rfl ki_0 ?_
              refine Ev.istore_n (ls' := [(3, .int _), (0, .ref _), (1, .int _), (2, .int _), (4, .int _)]) (pc' := 79) dX12_isDouble_78 rfl rfl (Nat.le_of_ble_eq_true rfl) rfl ?_
              refine Ev.iinc (k := 4) (v := _) (ls' := [(4, .int _), (3, .int _), (0, .ref _), (1, .int _), (2, .int _)]) (pc' := 82) dX12_isDouble_79 rfl rfl (congrArg (_ + ·) ki_1) (Nat.le_of_ble_eq_true rfl) rfl ?_
              refine Ev.goto (tgt := 5) dX12_isDouble_82 rfl ?_
              exact Ev.sub [2, 3, 4, 1, 0] rfl (hP5 _ _ _ _ _ _ h)
            · have h := h.2 hc
              exact Ev.sub [0, 1, 2, 4] rfl (okX12_isDouble_b73 hP5 h)
set_option maxRecDepth 10000 in
theorem okX12_isDouble_h5 {G : Gx} {Q : Bool → Ix → Lx → Prop} {v1 : Int32} {v2 : Int32} {v3 : Int32} {v4 : Int32} {I : Ix} {L : Lx} (h : wpX12_isDouble_h5 Q v1 v2 v3 v4 I L) : Ef G MX12_isDouble (qZ Q) 5 [(0, .ref 120), (1, .int v1), (2, .int v2), (3, .int v3), (4, .int v4)] [] I L := by
  unfold wpX12_isDouble_h5 at h
  refine Lfp.ind (P := fun z => Ef G MX12_isDouble (qZ Q) 5 [(0, .ref 120), (1, .int z.1), (2, .int z.2.1), (3, .int z.2.2.1), (4, .int z.2.2.2.1)] [] z.2.2.2.2.1 z.2.2.2.2.2) ?_ h
  intro z P' hP' h
  obtain ⟨v1, v2, v3, v4, I, L⟩ := z
  exact okX12_isDouble_l5 (fun v1 v2 v3 v4 I L h9 => hP' (v1, v2, v3, v4, I, L) h9) h
set_option maxRecDepth 10000 in
theorem okX12_isDouble {G : Gx} {a1 : Int32} {a2 : Int32} {I : Ix} {L : Lx} {Q : Bool → Ix → Lx → Prop} (h : wpX12_isDouble a1 a2 I L Q) : Mf G MX12_isDouble [.ref 120, .int a1, .int a2] I L (qZ Q) := by
  unfold wpX12_isDouble at h
  refine Mf.of pn_RX12 (Nat.le_of_ble_eq_true rfl) ?_
  refine Ev.iconst (pc' := 1) dX12_isDouble_0 rfl ki_0 ?_
  refine Ev.istore_n (ls' := [(3, .int _), (0, .ref _), (1, .int _), (2, .int _)]) (pc' := 2) dX12_isDouble_1 rfl rfl (Nat.le_of_ble_eq_true rfl) rfl ?_
  refine Ev.iconst (pc' := 3) dX12_isDouble_2 rfl ki_0 ?_
  refine Ev.istore (ls' := [(4, .int _), (3, .int _), (0, .ref _), (1, .int _), (2, .int _)]) (pc' := 5) dX12_isDouble_3 rfl (Nat.le_of_ble_eq_true rfl) rfl ?_
  exact Ev.sub [2, 3, 4, 1, 0] rfl (okX12_isDouble_h5 h)
def wpX12_judge_b92 (Q : Int32 → Ix → Lx → Prop) (P19 : Int32 → Int32 → Int32 → Int32 → Int32 → Ix → Lx → Prop) (v1 : Int32) (v2 : Int32) (v3 : Int32) (v4 : Int32) (v5 : Int32) (t0 : Int32) (I : Ix) (L : Lx) : Prop := (¬ t0 = 0 → (0 ≤ v4 → P19 v1 v2 (v3 + 1) v4 (v5 + 1) I L) ∧ (¬ 0 ≤ v4 → P19 v1 v2 (v3 + 1) v5 (v5 + 1) I L)) ∧ (t0 = 0 → P19 v1 v2 v3 v4 (v5 + 1) I L)
def wpX12_judge_b91 (Q : Int32 → Ix → Lx → Prop) (P19 : Int32 → Int32 → Int32 → Int32 → Int32 → Ix → Lx → Prop) (v1 : Int32) (v2 : Int32) (v3 : Int32) (v4 : Int32) (v5 : Int32) (I : Ix) (L : Lx) : Prop := wpX12_judge_b92 Q P19 v1 v2 v3 v4 v5 0 I L
def wpX12_judge_b87 (Q : Int32 → Ix → Lx → Prop) (P19 : Int32 → Int32 → Int32 → Int32 → Int32 → Ix → Lx → Prop) (v1 : Int32) (v2 : Int32) (v3 : Int32) (v4 : Int32) (v5 : Int32) (I : Ix) (L : Lx) : Prop := wpX12_judge_b92 Q P19 v1 v2 v3 v4 v5 1 I L
def wpX12_judge_l19 (Q : Int32 → Ix → Lx → Prop) (P19 : Int32 → Int32 → Int32 → Int32 → Int32 → Ix → Lx → Prop) (v1 : Int32) (v2 : Int32) (v3 : Int32) (v4 : Int32) (v5 : Int32) (I : Ix) (L : Lx) : Prop := ((I 120 93) ≤ v5 → (2 ≤ v1 → Q v4 I L) ∧ (¬ 2 ≤ v1 → Q v3 I L)) ∧ (¬ (I 120 93) ≤ v5 → wpX12_counts v5 v2 I L (fun r3 I1 L2 => (r3 = false → wpX12_judge_b91 Q P19 v1 v2 v3 v4 v5 I1 L2) ∧ (r3 = true → (¬ v1 = 1 → (¬ v1 = 3 → wpX12_isFalse v5 I1 L2 (fun r6 I4 L5 => (r6 = false → wpX12_judge_b91 Q P19 v1 v2 v3 v4 v5 I4 L5) ∧ (r6 = true → wpX12_judge_b87 Q P19 v1 v2 v3 v4 v5 I4 L5))) ∧ (v1 = 3 → wpX12_isDouble v5 v2 I1 L2 (fun r9 I7 L8 => (r9 = false → wpX12_judge_b91 Q P19 v1 v2 v3 v4 v5 I7 L8) ∧ (r9 = true → wpX12_judge_b87 Q P19 v1 v2 v3 v4 v5 I7 L8)))) ∧ (v1 = 1 → vp_in v5 40 ∧ ((I1 164 v5.toNatClampNeg) ≤ (I1 120 57) → wpX12_judge_b91 Q P19 v1 v2 v3 v4 v5 I1 L2) ∧ (¬ (I1 164 v5.toNatClampNeg) ≤ (I1 120 57) → wpX12_judge_b87 Q P19 v1 v2 v3 v4 v5 I1 L2)))))
def wpX12_judge_h19 (Q : Int32 → Ix → Lx → Prop) (v1 : Int32) (v2 : Int32) (v3 : Int32) (v4 : Int32) (v5 : Int32) (I : Ix) (L : Lx) : Prop := Lfp (X := Int32 × Int32 × Int32 × Int32 × Int32 × Ix × Lx) (fun P z => wpX12_judge_l19 Q (fun v1 v2 v3 v4 v5 I L => P (v1, v2, v3, v4, v5, I, L)) z.1 z.2.1 z.2.2.1 z.2.2.2.1 z.2.2.2.2.1 z.2.2.2.2.2.1 z.2.2.2.2.2.2) (v1, v2, v3, v4, v5, I, L)
theorem wpX12_judge_h19_fold {Q : Int32 → Ix → Lx → Prop} {v1 : Int32} {v2 : Int32} {v3 : Int32} {v4 : Int32} {v5 : Int32} {I : Ix} {L : Lx} (h : wpX12_judge_l19 Q (wpX12_judge_h19 Q) v1 v2 v3 v4 v5 I L) : wpX12_judge_h19 Q v1 v2 v3 v4 v5 I L := Lfp.fold h
def wpX12_judge (a1 : Int32) (a2 : Int32) (I : Ix) (L : Lx) (Q : Int32 → Ix → Lx → Prop) : Prop := (a1 < 0 → Q (-1) I L) ∧ (¬ a1 < 0 → (a1 ≤ 3 → wpX12_judge_h19 Q a1 a2 0 (-1) 0 I L) ∧ (¬ a1 ≤ 3 → Q (-1) I L))
set_option maxRecDepth 10000 in
theorem okX12_judge_b92 {G : Gx} {Q : Int32 → Ix → Lx → Prop} {P19 : Int32 → Int32 → Int32 → Int32 → Int32 → Ix → Lx → Prop} (hP19 : ∀ (v1 : Int32) (v2 : Int32) (v3 : Int32) (v4 : Int32) (v5 : Int32) (I : Ix) (L : Lx), P19 v1 v2 v3 v4 v5 I L → Ef G MX12_judge (qI Q) 19 [(0, .ref 120), (1, .int v1), (2, .int v2), (3, .int v3), (4, .int v4), (5, .int v5)] [] I L) {v1 : Int32} {v2 : Int32} {v3 : Int32} {v4 : Int32} {v5 : Int32} {t0 : Int32} {I : Ix} {L : Lx} (h : wpX12_judge_b92 Q P19 v1 v2 v3 v4 v5 t0 I L) : Ef G MX12_judge (qI Q) 92 [(0, .ref 120), (1, .int v1), (2, .int v2), (3, .int v3), (4, .int v4), (5, .int v5)] [.int t0] I L := by
  unfold wpX12_judge_b92 at h
  refine Ev.istore (ls' := [(6, .int _), (0, .ref _), (1, .int _), (2, .int _), (3, .int _), (4, .int _), (5, .int _)]) (pc' := 94) dX12_judge_92 rfl (Nat.le_of_ble_eq_true rfl) rfl ?_
  refine Ev.iload (k := 0) (pc' := 96) dX12_judge_94 rfl rfl ?_
  refine Ev.if_ne (pc' := 99) (tgt := 102) dX12_judge_96 rfl rfl (fun hc => ?_) (fun hc => ?_)
  · have h := h.1 hc
    refine Ev.iinc (k := 4) (v := _) (ls' := [(3, .int _), (6, .int _), (0, .ref _), (1, .int _), (2, .int _), (4, .int _), (5, .int _)]) (pc' := 105) dX12_judge_102 rfl rfl (congrArg (_ + ·) ki_1) (Nat.le_of_ble_eq_true rfl) rfl ?_
    refine Ev.iload (k := 5) (pc' := 107) dX12_judge_105 rfl rfl ?_
    refine Ev.if_ge (pc' := 110) (tgt := 115) dX12_judge_107 rfl rfl (fun hc => ?_) (fun hc => ?_)
    · have h := h.1 hc
      refine Ev.iload (k := 5) (pc' := 117) dX12_judge_115 rfl rfl ?_
      refine Ev.istore (ls' := [(4, .int _), (3, .int _), (6, .int _), (0, .ref _), (1, .int _), (2, .int _), (5, .int _)]) (pc' := 119) dX12_judge_117 rfl (Nat.le_of_ble_eq_true rfl) rfl ?_
      refine Ev.iinc (k := 6) (v := _) (ls' := [(5, .int _), (4, .int _), (3, .int _), (6, .int _), (0, .ref _), (1, .int _), (2, .int _)]) (pc' := 122) dX12_judge_119 rfl rfl (congrArg (_ + ·) ki_1) (Nat.le_of_ble_eq_true rfl) rfl ?_
      refine Ev.goto (tgt := 19) dX12_judge_122 rfl ?_
      exact Ev.sub [4, 5, 6, 2, 1, 0] rfl (hP19 _ _ _ _ _ _ _ h)
    · have h := h.2 hc
      refine Ev.iload (k := 6) (pc' := 112) dX12_judge_110 rfl rfl ?_
      refine Ev.goto (tgt := 117) dX12_judge_112 rfl ?_
      refine Ev.istore (ls' := [(4, .int _), (3, .int _), (6, .int _), (0, .ref _), (1, .int _), (2, .int _), (5, .int _)]) (pc' := 119) dX12_judge_117 rfl (Nat.le_of_ble_eq_true rfl) rfl ?_
      refine Ev.iinc (k := 6) (v := _) (ls' := [(5, .int _), (4, .int _), (3, .int _), (6, .int _), (0, .ref _), (1, .int _), (2, .int _)]) (pc' := 122) dX12_judge_119 rfl rfl (congrArg (_ + ·) ki_1) (Nat.le_of_ble_eq_true rfl) rfl ?_
      refine Ev.goto (tgt := 19) dX12_judge_122 rfl ?_
      exact Ev.sub [4, 5, 6, 2, 1, 0] rfl (hP19 _ _ _ _ _ _ _ h)
  · have h := h.2 hc
    refine Ev.goto (tgt := 119) dX12_judge_99 rfl ?_
    refine Ev.iinc (k := 6) (v := _) (ls' := [(5, .int _), (6, .int _), (0, .ref _), (1, .int _), (2, .int _), (3, .int _), (4, .int _)]) (pc' := 122) dX12_judge_119 rfl rfl (congrArg (_ + ·) ki_1) (Nat.le_of_ble_eq_true rfl) rfl ?_
    refine Ev.goto (tgt := 19) dX12_judge_122 rfl ?_
    exact Ev.sub [2, 3, 4, 5, 6, 0] rfl (hP19 _ _ _ _ _ _ _ h)
set_option maxRecDepth 10000 in
theorem okX12_judge_b91 {G : Gx} {Q : Int32 → Ix → Lx → Prop} {P19 : Int32 → Int32 → Int32 → Int32 → Int32 → Ix → Lx → Prop} (hP19 : ∀ (v1 : Int32) (v2 : Int32) (v3 : Int32) (v4 : Int32) (v5 : Int32) (I : Ix) (L : Lx), P19 v1 v2 v3 v4 v5 I L → Ef G MX12_judge (qI Q) 19 [(0, .ref 120), (1, .int v1), (2, .int v2), (3, .int v3), (4, .int v4), (5, .int v5)] [] I L) {v1 : Int32} {v2 : Int32} {v3 : Int32} {v4 : Int32} {v5 : Int32} {I : Ix} {L : Lx} (h : wpX12_judge_b91 Q P19 v1 v2 v3 v4 v5 I L) : Ef G MX12_judge (qI Q) 91 [(0, .ref 120), (1, .int v1), (2, .int v2), (3, .int v3), (4, .int v4), (5, .int v5)] [] I L := by
  unfold wpX12_judge_b91 at h
  refine Ev.iconst (pc' := 92) dX12_judge_91 rfl ki_0 ?_
  exact okX12_judge_b92 hP19 h
set_option maxRecDepth 10000 in
theorem okX12_judge_b87 {G : Gx} {Q : Int32 → Ix → Lx → Prop} {P19 : Int32 → Int32 → Int32 → Int32 → Int32 → Ix → Lx → Prop} (hP19 : ∀ (v1 : Int32) (v2 : Int32) (v3 : Int32) (v4 : Int32) (v5 : Int32) (I : Ix) (L : Lx), P19 v1 v2 v3 v4 v5 I L → Ef G MX12_judge (qI Q) 19 [(0, .ref 120), (1, .int v1), (2, .int v2), (3, .int v3), (4, .int v4), (5, .int v5)] [] I L) {v1 : Int32} {v2 : Int32} {v3 : Int32} {v4 : Int32} {v5 : Int32} {I : Ix} {L : Lx} (h : wpX12_judge_b87 Q P19 v1 v2 v3 v4 v5 I L) : Ef G MX12_judge (qI Q) 87 [(0, .ref 120), (1, .int v1), (2, .int v2), (3, .int v3), (4, .int v4), (5, .int v5)] [] I L := by
  unfold wpX12_judge_b87 at h
  refine Ev.iconst (pc' := 88) dX12_judge_87 rfl ki_1 ?_
  refine Ev.goto (tgt := 92) dX12_judge_88 rfl ?_
  exact okX12_judge_b92 hP19 h
set_option maxRecDepth 10000 in
theorem okX12_judge_l19 {G : Gx} {Q : Int32 → Ix → Lx → Prop} {P19 : Int32 → Int32 → Int32 → Int32 → Int32 → Ix → Lx → Prop} (hP19 : ∀ (v1 : Int32) (v2 : Int32) (v3 : Int32) (v4 : Int32) (v5 : Int32) (I : Ix) (L : Lx), P19 v1 v2 v3 v4 v5 I L → Ef G MX12_judge (qI Q) 19 [(0, .ref 120), (1, .int v1), (2, .int v2), (3, .int v3), (4, .int v4), (5, .int v5)] [] I L) {v1 : Int32} {v2 : Int32} {v3 : Int32} {v4 : Int32} {v5 : Int32} {I : Ix} {L : Lx} (h : wpX12_judge_l19 Q P19 v1 v2 v3 v4 v5 I L) : Ef G MX12_judge (qI Q) 19 [(0, .ref 120), (1, .int v1), (2, .int v2), (3, .int v3), (4, .int v4), (5, .int v5)] [] I L := by
  unfold wpX12_judge_l19 at h
  refine Ev.iload (k := 5) (pc' := 21) dX12_judge_19 rfl rfl ?_
  refine Ev.aload_n (k := 0) (pc' := 22) dX12_judge_21 rfl rfl rfl ?_
  refine Ev.getI (pc' := 25) dX12_judge_22 rfl fa_RX12_455 ob_120 fk_12_93 ?_
  refine Ev.icmp_ge (pc' := 28) (tgt := 125) dX12_judge_25 rfl rfl (fun hc => ?_) (fun hc => ?_)
  · have h := h.1 hc
    refine Ev.iload_n (k := 1) (pc' := 126) dX12_judge_125 rfl rfl rfl ?_
    refine Ev.iconst (pc' := 127) dX12_judge_126 rfl ki_2 ?_
    refine Ev.icmp_ge (pc' := 130) (tgt := 134) dX12_judge_127 rfl rfl (fun hc => ?_) (fun hc => ?_)
    · have h := h.1 hc
      refine Ev.iload (k := 4) (pc' := 136) dX12_judge_134 rfl rfl ?_
      exact Ef.iret dX12_judge_136 rfl h
    · have h := h.2 hc
      refine Ev.iload_n (k := 3) (pc' := 131) dX12_judge_130 rfl rfl rfl ?_
      refine Ev.goto (tgt := 136) dX12_judge_131 rfl ?_
      exact Ef.iret dX12_judge_136 rfl h
  · have h := h.2 hc
    refine Ev.aload_n (k := 0) (pc' := 29) dX12_judge_28 rfl rfl rfl ?_
    refine Ev.iload (k := 5) (pc' := 31) dX12_judge_29 rfl rfl ?_
    refine Ev.iload_n (k := 2) (pc' := 32) dX12_judge_31 rfl rfl rfl ?_
    refine Ef.callVZ [.int _, .int _] [] (pc' := 35) dX12_judge_32 rfl cv_RX12_669_X12_counts ⟨Nat.le_of_ble_eq_true rfl, Nat.le_of_ble_eq_true rfl⟩ ob_120 rfl rfl rfl (Nat.le_of_ble_eq_true rfl) (okX12_counts h) (fun r3 I1 L2 h => ?_)
    refine Ef.ifz_eq (pc' := 38) (tgt := 91) dX12_judge_35 rfl rfl (fun hc => ?_) (fun hc => ?_)
    · have h := h.1 hc
      exact okX12_judge_b91 hP19 h
    · have h := h.2 hc
      refine Ev.iload_n (k := 1) (pc' := 39) dX12_judge_38 rfl rfl rfl ?_
      refine Ev.iconst (pc' := 40) dX12_judge_39 rfl ki_1 ?_
      refine Ev.icmp_ne (pc' := 43) (tgt := 60) dX12_judge_40 rfl rfl (fun hc => ?_) (fun hc => ?_)
      · have h := h.1 hc
        refine Ev.iload_n (k := 1) (pc' := 61) dX12_judge_60 rfl rfl rfl ?_
        refine Ev.iconst (pc' := 62) dX12_judge_61 rfl ki_3 ?_
        refine Ev.icmp_ne (pc' := 65) (tgt := 78) dX12_judge_62 rfl rfl (fun hc => ?_) (fun hc => ?_)
        · have h := h.1 hc
          refine Ev.aload_n (k := 0) (pc' := 79) dX12_judge_78 rfl rfl rfl ?_
          refine Ev.iload (k := 5) (pc' := 81) dX12_judge_79 rfl rfl ?_
          refine Ef.callVZ [.int _] [] (pc' := 84) dX12_judge_81 rfl cv_RX12_675_X12_isFalse ⟨Nat.le_of_ble_eq_true rfl, Nat.le_of_ble_eq_true rfl⟩ ob_120 rfl rfl rfl (Nat.le_of_ble_eq_true rfl) (okX12_isFalse h) (fun r6 I4 L5 h => ?_)
          refine Ef.ifz_eq (pc' := 87) (tgt := 91) dX12_judge_84 rfl rfl (fun hc => ?_) (fun hc => ?_)
          · have h := h.1 hc
            exact okX12_judge_b91 hP19 h
          · have h := h.2 hc
            exact okX12_judge_b87 hP19 h
        · have h := h.2 hc
          refine Ev.aload_n (k := 0) (pc' := 66) dX12_judge_65 rfl rfl rfl ?_
          refine Ev.iload (k := 5) (pc' := 68) dX12_judge_66 rfl rfl ?_
          refine Ev.iload_n (k := 2) (pc' := 69) dX12_judge_68 rfl rfl rfl ?_
          refine Ef.callVZ [.int _, .int _] [] (pc' := 72) dX12_judge_69 rfl cv_RX12_672_X12_isDouble ⟨Nat.le_of_ble_eq_true rfl, Nat.le_of_ble_eq_true rfl⟩ ob_120 rfl rfl rfl (Nat.le_of_ble_eq_true rfl) (okX12_isDouble h) (fun r9 I7 L8 h => ?_)
          refine Ef.ifz_eq (pc' := 75) (tgt := 91) dX12_judge_72 rfl rfl (fun hc => ?_) (fun hc => ?_)
          · have h := h.1 hc
            exact okX12_judge_b91 hP19 h
          · have h := h.2 hc
            refine Ev.goto (tgt := 87) dX12_judge_75 rfl ?_
            exact okX12_judge_b87 hP19 h
      · have h := h.2 hc
        refine Ev.aload_n (k := 0) (pc' := 44) dX12_judge_43 rfl rfl rfl ?_
        refine Ev.getR (pc' := 47) dX12_judge_44 rfl fa_RX12_151 ob_120 fk_12_88 rf_120_88 ?_
        refine Ev.iload (k := 5) (pc' := 49) dX12_judge_47 rfl rfl ?_
        refine Ev.iaload (j := _) (pc' := 50) dX12_judge_49 rfl ar_164 h.1 rfl ?_
        have h := h.2
        refine Ev.aload_n (k := 0) (pc' := 51) dX12_judge_50 rfl rfl rfl ?_
        refine Ev.getI (pc' := 54) dX12_judge_51 rfl fa_RX12_464 ob_120 fk_12_57 ?_
        refine Ev.icmp_le (pc' := 57) (tgt := 91) dX12_judge_54 rfl rfl (fun hc => ?_) (fun hc => ?_)
        · have h := h.1 hc
          exact okX12_judge_b91 hP19 h
        · have h := h.2 hc
          refine Ev.goto (tgt := 87) dX12_judge_57 rfl ?_
          exact okX12_judge_b87 hP19 h
set_option maxRecDepth 10000 in
theorem okX12_judge_h19 {G : Gx} {Q : Int32 → Ix → Lx → Prop} {v1 : Int32} {v2 : Int32} {v3 : Int32} {v4 : Int32} {v5 : Int32} {I : Ix} {L : Lx} (h : wpX12_judge_h19 Q v1 v2 v3 v4 v5 I L) : Ef G MX12_judge (qI Q) 19 [(0, .ref 120), (1, .int v1), (2, .int v2), (3, .int v3), (4, .int v4), (5, .int v5)] [] I L := by
  unfold wpX12_judge_h19 at h
  refine Lfp.ind (P := fun z => Ef G MX12_judge (qI Q) 19 [(0, .ref 120), (1, .int z.1), (2, .int z.2.1), (3, .int z.2.2.1), (4, .int z.2.2.2.1), (5, .int z.2.2.2.2.1)] [] z.2.2.2.2.2.1 z.2.2.2.2.2.2) ?_ h
  intro z P' hP' h
  obtain ⟨v1, v2, v3, v4, v5, I, L⟩ := z
  exact okX12_judge_l19 (fun v1 v2 v3 v4 v5 I L h9 => hP' (v1, v2, v3, v4, v5, I, L) h9) h
set_option maxRecDepth 10000 in
theorem okX12_judge {G : Gx} {a1 : Int32} {a2 : Int32} {I : Ix} {L : Lx} {Q : Int32 → Ix → Lx → Prop} (h : wpX12_judge a1 a2 I L Q) : Mf G MX12_judge [.ref 120, .int a1, .int a2] I L (qI Q) := by
  unfold wpX12_judge at h
  refine Mf.of pn_RX12 (Nat.le_of_ble_eq_true rfl) ?_
  refine Ev.iload_n (k := 1) (pc' := 1) dX12_judge_0 rfl rfl rfl ?_
  refine Ev.if_lt (pc' := 4) (tgt := 9) dX12_judge_1 rfl rfl (fun hc => ?_) (fun hc => ?_)
  · have h := h.1 hc
    refine Ev.iconst (pc' := 10) dX12_judge_9 rfl ki_m1 ?_
    exact Ef.iret dX12_judge_10 rfl h
  · have h := h.2 hc
    refine Ev.iload_n (k := 1) (pc' := 5) dX12_judge_4 rfl rfl rfl ?_
    refine Ev.iconst (pc' := 6) dX12_judge_5 rfl ki_3 ?_
    refine Ev.icmp_le (pc' := 9) (tgt := 11) dX12_judge_6 rfl rfl (fun hc => ?_) (fun hc => ?_)
    · have h := h.1 hc
      refine Ev.iconst (pc' := 12) dX12_judge_11 rfl ki_0 ?_
      refine Ev.istore_n (ls' := [(3, .int _), (0, .ref _), (1, .int _), (2, .int _)]) (pc' := 13) dX12_judge_12 rfl rfl (Nat.le_of_ble_eq_true rfl) rfl ?_
      refine Ev.iconst (pc' := 14) dX12_judge_13 rfl ki_m1 ?_
      refine Ev.istore (ls' := [(4, .int _), (3, .int _), (0, .ref _), (1, .int _), (2, .int _)]) (pc' := 16) dX12_judge_14 rfl (Nat.le_of_ble_eq_true rfl) rfl ?_
      refine Ev.iconst (pc' := 17) dX12_judge_16 rfl ki_0 ?_
      refine Ev.istore (ls' := [(5, .int _), (4, .int _), (3, .int _), (0, .ref _), (1, .int _), (2, .int _)]) (pc' := 19) dX12_judge_17 rfl (Nat.le_of_ble_eq_true rfl) rfl ?_
      exact Ev.sub [3, 4, 5, 2, 1, 0] rfl (okX12_judge_h19 h)
    · have h := h.2 hc
      refine Ev.iconst (pc' := 10) dX12_judge_9 rfl ki_m1 ?_
      exact Ef.iret dX12_judge_10 rfl h
def wpX12_seed (a1 : Int32) (I : Ix) (L : Lx) (Q : Int32 → Ix → Lx → Prop) : Prop := ∀ I1 : Ix, I1 = pu I 120 58 a1 → Q (I 120 58) I1 L
set_option maxRecDepth 10000 in
theorem okX12_seed {G : Gx} {a1 : Int32} {I : Ix} {L : Lx} {Q : Int32 → Ix → Lx → Prop} (h : wpX12_seed a1 I L Q) : Mf G MX12_seed [.ref 120, .int a1] I L (qI Q) := by
  unfold wpX12_seed at h
  refine Mf.of pn_RX12 (Nat.le_of_ble_eq_true rfl) ?_
  refine Ev.aload_n (k := 0) (pc' := 1) dX12_seed_0 rfl rfl rfl ?_
  refine Ev.getI (pc' := 4) dX12_seed_1 rfl fa_RX12_103 ob_120 fk_12_58 ?_
  refine Ev.istore_n (ls' := [(2, .int _), (0, .ref _), (1, .int _)]) (pc' := 5) dX12_seed_4 rfl rfl (Nat.le_of_ble_eq_true rfl) rfl ?_
  refine Ev.aload_n (k := 1) (pc' := 6) dX12_seed_5 rfl rfl rfl ?_
  refine Ev.iload_n (k := 2) (pc' := 7) dX12_seed_6 rfl rfl rfl ?_
  refine Ev.putI (pc' := 10) dX12_seed_7 rfl fa_RX12_103 ob_120 fk_12_58 rfl rfl (fun I1 eI1 => ?_)
  have h := h I1 eI1
  refine Ev.iload_n (k := 0) (pc' := 11) dX12_seed_10 rfl rfl rfl ?_
  exact Ef.iret dX12_seed_11 rfl h
def wpX12_isBox (a0 : Int32) (I : Ix) (L : Lx) (Q : Bool → Ix → Lx → Prop) : Prop := (a0 < 0 → Q false I L) ∧ (¬ a0 < 0 → (3 ≤ a0 → Q false I L) ∧ (¬ 3 ≤ a0 → Q true I L))
set_option maxRecDepth 10000 in
theorem okX12_isBox {G : Gx} {a0 : Int32} {I : Ix} {L : Lx} {Q : Bool → Ix → Lx → Prop} (h : wpX12_isBox a0 I L Q) : Mf G MX12_isBox [.int a0] I L (qZ Q) := by
  unfold wpX12_isBox at h
  refine Mf.of pn_RX12 (Nat.le_of_ble_eq_true rfl) ?_
  refine Ev.iload_n (k := 0) (pc' := 1) dX12_isBox_0 rfl rfl rfl ?_
  refine Ev.if_lt (pc' := 4) (tgt := 13) dX12_isBox_1 rfl rfl (fun hc => ?_) (fun hc => ?_)
  · have h := h.1 hc
    refine Ev.iconst (pc' := 14) dX12_isBox_13 rfl ki_0 ?_
    exact Ef.zret (b := false) dX12_isBox_14 rfl h
  · have h := h.2 hc
    refine Ev.iload_n (k := 0) (pc' := 5) dX12_isBox_4 rfl rfl rfl ?_
    refine Ev.iconst (pc' := 6) dX12_isBox_5 rfl ki_3 ?_
    refine Ev.icmp_ge (pc' := 9) (tgt := 13) dX12_isBox_6 rfl rfl (fun hc => ?_) (fun hc => ?_)
    · have h := h.1 hc
      refine Ev.iconst (pc' := 14) dX12_isBox_13 rfl ki_0 ?_
      exact Ef.zret (b := false) dX12_isBox_14 rfl h
    · have h := h.2 hc
      refine Ev.iconst (pc' := 10) dX12_isBox_9 rfl ki_1 ?_
      refine Ev.goto (tgt := 14) dX12_isBox_10 rfl ?_
      exact Ef.zret (b := true) dX12_isBox_14 rfl h
def wpX12_image_l160 (Q : Int32 → Ix → Lx → Prop) (P160 : Int32 → Int32 → Ix → Lx → Prop) (v1 : Int32) (v2 : Int32) (I : Ix) (L : Lx) : Prop := (610 ≤ v2 → vp_in v1 3 ∧ ∀ I1 : Ix, I1 = pu I 175 v1.toNatClampNeg (I 120 57) → vp_in v1 3 ∧ ∀ I2 : Ix, I2 = pu I1 176 v1.toNatClampNeg (I1 120 58) → vp_in v1 3 ∧ ∀ I3 : Ix, I3 = pu I2 177 v1.toNatClampNeg (I2 120 59) → Q (I3 120 57) I3 L) ∧ (¬ 610 ≤ v2 → vp_in v2 610 ∧ vp_in ((610 * v1) + v2) 1830 ∧ ∀ I4 : Ix, I4 = pu I 174 ((610 * v1) + v2).toNatClampNeg (I 150 v2.toNatClampNeg) → P160 v1 (v2 + 1) I4 L)
def wpX12_image_h160 (Q : Int32 → Ix → Lx → Prop) (v1 : Int32) (v2 : Int32) (I : Ix) (L : Lx) : Prop := Lfp (X := Int32 × Int32 × Ix × Lx) (fun P z => wpX12_image_l160 Q (fun v1 v2 I L => P (v1, v2, I, L)) z.1 z.2.1 z.2.2.1 z.2.2.2) (v1, v2, I, L)
theorem wpX12_image_h160_fold {Q : Int32 → Ix → Lx → Prop} {v1 : Int32} {v2 : Int32} {I : Ix} {L : Lx} (h : wpX12_image_l160 Q (wpX12_image_h160 Q) v1 v2 I L) : wpX12_image_h160 Q v1 v2 I L := Lfp.fold h
def wpX12_image_l112 (Q : Int32 → Ix → Lx → Prop) (P112 : Int32 → Int32 → Ix → Lx → Prop) (v1 : Int32) (v2 : Int32) (I : Ix) (L : Lx) : Prop := (6 ≤ v2 → wpX12_image_h160 Q v1 0 I L) ∧ (¬ 6 ≤ v2 → vp_in v2 6 ∧ vp_in ((6 * v1) + v2) 18 ∧ ∀ I1 : Ix, I1 = pu I 172 ((6 * v1) + v2).toNatClampNeg (I 147 v2.toNatClampNeg) → vp_in v2 6 ∧ vp_in ((6 * v1) + v2) 18 ∧ ∀ I2 : Ix, I2 = pu I1 173 ((6 * v1) + v2).toNatClampNeg (I1 148 v2.toNatClampNeg) → P112 v1 (v2 + 1) I2 L)
def wpX12_image_h112 (Q : Int32 → Ix → Lx → Prop) (v1 : Int32) (v2 : Int32) (I : Ix) (L : Lx) : Prop := Lfp (X := Int32 × Int32 × Ix × Lx) (fun P z => wpX12_image_l112 Q (fun v1 v2 I L => P (v1, v2, I, L)) z.1 z.2.1 z.2.2.1 z.2.2.2) (v1, v2, I, L)
theorem wpX12_image_h112_fold {Q : Int32 → Ix → Lx → Prop} {v1 : Int32} {v2 : Int32} {I : Ix} {L : Lx} (h : wpX12_image_l112 Q (wpX12_image_h112 Q) v1 v2 I L) : wpX12_image_h112 Q v1 v2 I L := Lfp.fold h
def wpX12_image_l18 (Q : Int32 → Ix → Lx → Prop) (P18 : Int32 → Int32 → Ix → Lx → Prop) (v1 : Int32) (v2 : Int32) (I : Ix) (L : Lx) : Prop := (10 ≤ v2 → wpX12_image_h112 Q v1 0 I L) ∧ (¬ 10 ≤ v2 → vp_in v2 10 ∧ vp_in (4 * ((10 * v1) + v2)) 120 ∧ ∀ I1 : Ix, I1 = pu I 171 (4 * ((10 * v1) + v2)).toNatClampNeg (I 143 v2.toNatClampNeg) → vp_in v2 10 ∧ vp_in ((4 * ((10 * v1) + v2)) + 1) 120 ∧ ∀ I2 : Ix, I2 = pu I1 171 ((4 * ((10 * v1) + v2)) + 1).toNatClampNeg (I1 144 v2.toNatClampNeg) → vp_in v2 10 ∧ vp_in ((4 * ((10 * v1) + v2)) + 2) 120 ∧ ∀ I3 : Ix, I3 = pu I2 171 ((4 * ((10 * v1) + v2)) + 2).toNatClampNeg (I2 145 v2.toNatClampNeg) → vp_in v2 10 ∧ vp_in ((4 * ((10 * v1) + v2)) + 3) 120 ∧ ∀ I4 : Ix, I4 = pu I3 171 ((4 * ((10 * v1) + v2)) + 3).toNatClampNeg (I3 146 v2.toNatClampNeg) → vp_in v2 10 ∧ vp_in ((10 * v1) + v2) 30 ∧ ∀ I5 : Ix, I5 = pu I4 170 ((10 * v1) + v2).toNatClampNeg ((I4 149 v2.toNatClampNeg) &&& 1) → P18 v1 (v2 + 1) I5 L)
def wpX12_image_h18 (Q : Int32 → Ix → Lx → Prop) (v1 : Int32) (v2 : Int32) (I : Ix) (L : Lx) : Prop := Lfp (X := Int32 × Int32 × Ix × Lx) (fun P z => wpX12_image_l18 Q (fun v1 v2 I L => P (v1, v2, I, L)) z.1 z.2.1 z.2.2.1 z.2.2.2) (v1, v2, I, L)
theorem wpX12_image_h18_fold {Q : Int32 → Ix → Lx → Prop} {v1 : Int32} {v2 : Int32} {I : Ix} {L : Lx} (h : wpX12_image_l18 Q (wpX12_image_h18 Q) v1 v2 I L) : wpX12_image_h18 Q v1 v2 I L := Lfp.fold h
def wpX12_image (a1 : Int32) (I : Ix) (L : Lx) (Q : Int32 → Ix → Lx → Prop) : Prop := wpX12_isBox a1 I L (fun r3 I1 L2 => (r3 = true → vp_in a1 3 ∧ ∀ I4 : Ix, I4 = pu I1 169 a1.toNatClampNeg 1 → wpX12_image_h18 Q a1 0 I4 L2) ∧ (r3 = false → Q (-1) I1 L2))
set_option maxRecDepth 10000 in
theorem okX12_image_l160 {G : Gx} {Q : Int32 → Ix → Lx → Prop} {P160 : Int32 → Int32 → Ix → Lx → Prop} (hP160 : ∀ (v1 : Int32) (v2 : Int32) (I : Ix) (L : Lx), P160 v1 v2 I L → Ef G MX12_image (qI Q) 160 [(0, .ref 120), (1, .int v1), (2, .int v2)] [] I L) {v1 : Int32} {v2 : Int32} {I : Ix} {L : Lx} (h : wpX12_image_l160 Q P160 v1 v2 I L) : Ef G MX12_image (qI Q) 160 [(0, .ref 120), (1, .int v1), (2, .int v2)] [] I L := by
  unfold wpX12_image_l160 at h
  refine Ev.iload_n (k := 2) (pc' := 161) dX12_image_160 rfl rfl rfl ?_
  refine Ev.sipush (pc' := 164) dX12_image_161 rfl ks_610 ?_
  refine Ev.icmp_ge (pc' := 167) (tgt := 191) dX12_image_164 rfl rfl (fun hc => ?_) (fun hc => ?_)
  · have h := h.1 hc
    refine Ev.aload_n (k := 0) (pc' := 192) dX12_image_191 rfl rfl rfl ?_
    refine Ev.getR (pc' := 195) dX12_image_192 rfl fa_RX12_184 ob_120 fk_12_101 rf_120_101 ?_
    refine Ev.iload_n (k := 1) (pc' := 196) dX12_image_195 rfl rfl rfl ?_
    refine Ev.aload_n (k := 0) (pc' := 197) dX12_image_196 rfl rfl rfl ?_
    refine Ev.getI (pc' := 200) dX12_image_197 rfl fa_RX12_464 ob_120 fk_12_57 ?_
    refine Ev.iastore (j := _) (pc' := 201) dX12_image_200 rfl ar_175 h.1 rfl (fun I1 eI1 => ?_)
    have h := h.2 I1 eI1
    refine Ev.aload_n (k := 0) (pc' := 202) dX12_image_201 rfl rfl rfl ?_
    refine Ev.getR (pc' := 205) dX12_image_202 rfl fa_RX12_187 ob_120 fk_12_102 rf_120_102 ?_
    refine Ev.iload_n (k := 1) (pc' := 206) dX12_image_205 rfl rfl rfl ?_
    refine Ev.aload_n (k := 0) (pc' := 207) dX12_image_206 rfl rfl rfl ?_
    refine Ev.getI (pc' := 210) dX12_image_207 rfl fa_RX12_103 ob_120 fk_12_58 ?_
    refine Ev.iastore (j := _) (pc' := 211) dX12_image_210 rfl ar_176 h.1 rfl (fun I2 eI2 => ?_)
    have h := h.2 I2 eI2
    refine Ev.aload_n (k := 0) (pc' := 212) dX12_image_211 rfl rfl rfl ?_
    refine Ev.getR (pc' := 215) dX12_image_212 rfl fa_RX12_190 ob_120 fk_12_103 rf_120_103 ?_
    refine Ev.iload_n (k := 1) (pc' := 216) dX12_image_215 rfl rfl rfl ?_
    refine Ev.aload_n (k := 0) (pc' := 217) dX12_image_216 rfl rfl rfl ?_
    refine Ev.getI (pc' := 220) dX12_image_217 rfl fa_RX12_467 ob_120 fk_12_59 ?_
    refine Ev.iastore (j := _) (pc' := 221) dX12_image_220 rfl ar_177 h.1 rfl (fun I3 eI3 => ?_)
    have h := h.2 I3 eI3
    refine Ev.aload_n (k := 0) (pc' := 222) dX12_image_221 rfl rfl rfl ?_
    refine Ev.getI (pc' := 225) dX12_image_222 rfl fa_RX12_464 ob_120 fk_12_57 ?_
    exact Ef.iret dX12_image_225 rfl h
  · have h := h.2 hc
    refine Ev.aload_n (k := 0) (pc' := 168) dX12_image_167 rfl rfl rfl ?_
    refine Ev.getR (pc' := 171) dX12_image_168 rfl fa_RX12_181 ob_120 fk_12_100 rf_120_100 ?_
    refine Ev.sipush (pc' := 174) dX12_image_171 rfl ks_610 ?_
    refine Ev.iload_n (k := 1) (pc' := 175) dX12_image_174 rfl rfl rfl ?_
    refine Ev.imul (pc' := 176) dX12_image_175 rfl ?_
    refine Ev.iload_n (k := 2) (pc' := 177) dX12_image_176 rfl rfl rfl ?_
    refine Ev.iadd (pc' := 178) dX12_image_177 rfl ?_
    refine Ev.aload_n (k := 0) (pc' := 179) dX12_image_178 rfl rfl rfl ?_
    refine Ev.getR (pc' := 182) dX12_image_179 rfl fa_RX12_106 ob_120 fk_12_60 rf_120_60 ?_
    refine Ev.iload_n (k := 2) (pc' := 183) dX12_image_182 rfl rfl rfl ?_
    refine Ev.iaload (j := _) (pc' := 184) dX12_image_183 rfl ar_150 h.1 rfl ?_
    have h := h.2
    refine Ev.iastore (j := _) (pc' := 185) dX12_image_184 rfl ar_174 h.1 rfl (fun I4 eI4 => ?_)
    have h := h.2 I4 eI4
    refine Ev.iinc (k := 2) (v := _) (ls' := [(2, .int _), (0, .ref _), (1, .int _)]) (pc' := 188) dX12_image_185 rfl rfl (congrArg (_ + ·) ki_1) (Nat.le_of_ble_eq_true rfl) rfl ?_
    refine Ev.goto (tgt := 160) dX12_image_188 rfl ?_
    exact Ev.sub [1, 2, 0] rfl (hP160 _ _ _ _ h)
set_option maxRecDepth 10000 in
theorem okX12_image_h160 {G : Gx} {Q : Int32 → Ix → Lx → Prop} {v1 : Int32} {v2 : Int32} {I : Ix} {L : Lx} (h : wpX12_image_h160 Q v1 v2 I L) : Ef G MX12_image (qI Q) 160 [(0, .ref 120), (1, .int v1), (2, .int v2)] [] I L := by
  unfold wpX12_image_h160 at h
  refine Lfp.ind (P := fun z => Ef G MX12_image (qI Q) 160 [(0, .ref 120), (1, .int z.1), (2, .int z.2.1)] [] z.2.2.1 z.2.2.2) ?_ h
  intro z P' hP' h
  obtain ⟨v1, v2, I, L⟩ := z
  exact okX12_image_l160 (fun v1 v2 I L h9 => hP' (v1, v2, I, L) h9) h
set_option maxRecDepth 10000 in
theorem okX12_image_l112 {G : Gx} {Q : Int32 → Ix → Lx → Prop} {P112 : Int32 → Int32 → Ix → Lx → Prop} (hP112 : ∀ (v1 : Int32) (v2 : Int32) (I : Ix) (L : Lx), P112 v1 v2 I L → Ef G MX12_image (qI Q) 112 [(0, .ref 120), (1, .int v1), (2, .int v2)] [] I L) {v1 : Int32} {v2 : Int32} {I : Ix} {L : Lx} (h : wpX12_image_l112 Q P112 v1 v2 I L) : Ef G MX12_image (qI Q) 112 [(0, .ref 120), (1, .int v1), (2, .int v2)] [] I L := by
  unfold wpX12_image_l112 at h
  refine Ev.iload_n (k := 2) (pc' := 113) dX12_image_112 rfl rfl rfl ?_
  refine Ev.bipush (pc' := 115) dX12_image_113 rfl kb_6 ?_
  refine Ev.icmp_ge (pc' := 118) (tgt := 158) dX12_image_115 rfl rfl (fun hc => ?_) (fun hc => ?_)
  · have h := h.1 hc
    refine Ev.iconst (pc' := 159) dX12_image_158 rfl ki_0 ?_
    refine Ev.istore_n (ls' := [(2, .int _), (0, .ref _), (1, .int _)]) (pc' := 160) dX12_image_159 rfl rfl (Nat.le_of_ble_eq_true rfl) rfl ?_
    exact Ev.sub [1, 2, 0] rfl (okX12_image_h160 h)
  · have h := h.2 hc
    refine Ev.aload_n (k := 0) (pc' := 119) dX12_image_118 rfl rfl rfl ?_
    refine Ev.getR (pc' := 122) dX12_image_119 rfl fa_RX12_175 ob_120 fk_12_98 rf_120_98 ?_
    refine Ev.bipush (pc' := 124) dX12_image_122 rfl kb_6 ?_
    refine Ev.iload_n (k := 1) (pc' := 125) dX12_image_124 rfl rfl rfl ?_
    refine Ev.imul (pc' := 126) dX12_image_125 rfl ?_
    refine Ev.iload_n (k := 2) (pc' := 127) dX12_image_126 rfl rfl rfl ?_
    refine Ev.iadd (pc' := 128) dX12_image_127 rfl ?_
    refine Ev.aload_n (k := 0) (pc' := 129) dX12_image_128 rfl rfl rfl ?_
    refine Ev.getR (pc' := 132) dX12_image_129 rfl fa_RX12_93 ob_120 fk_12_54 rf_120_54 ?_
    refine Ev.iload_n (k := 2) (pc' := 133) dX12_image_132 rfl rfl rfl ?_
    refine Ev.iaload (j := _) (pc' := 134) dX12_image_133 rfl ar_147 h.1 rfl ?_
    have h := h.2
    refine Ev.iastore (j := _) (pc' := 135) dX12_image_134 rfl ar_172 h.1 rfl (fun I1 eI1 => ?_)
    have h := h.2 I1 eI1
    refine Ev.aload_n (k := 0) (pc' := 136) dX12_image_135 rfl rfl rfl ?_
    refine Ev.getR (pc' := 139) dX12_image_136 rfl fa_RX12_178 ob_120 fk_12_99 rf_120_99 ?_
    refine Ev.bipush (pc' := 141) dX12_image_139 rfl kb_6 ?_
    refine Ev.iload_n (k := 1) (pc' := 142) dX12_image_141 rfl rfl rfl ?_
    refine Ev.imul (pc' := 143) dX12_image_142 rfl ?_
    refine Ev.iload_n (k := 2) (pc' := 144) dX12_image_143 rfl rfl rfl ?_
    refine Ev.iadd (pc' := 145) dX12_image_144 rfl ?_
    refine Ev.aload_n (k := 0) (pc' := 146) dX12_image_145 rfl rfl rfl ?_
    refine Ev.getR (pc' := 149) dX12_image_146 rfl fa_RX12_96 ob_120 fk_12_55 rf_120_55 ?_
    refine Ev.iload_n (k := 2) (pc' := 150) dX12_image_149 rfl rfl rfl ?_
    refine Ev.iaload (j := _) (pc' := 151) dX12_image_150 rfl ar_148 h.1 rfl ?_
    have h := h.2
    refine Ev.iastore (j := _) (pc' := 152) dX12_image_151 rfl ar_173 h.1 rfl (fun I2 eI2 => ?_)
    have h := h.2 I2 eI2
    refine Ev.iinc (k := 2) (v := _) (ls' := [(2, .int _), (0, .ref _), (1, .int _)]) (pc' := 155) dX12_image_152 rfl rfl (congrArg (_ + ·) ki_1) (Nat.le_of_ble_eq_true rfl) rfl ?_
    refine Ev.goto (tgt := 112) dX12_image_155 rfl ?_
    exact Ev.sub [1, 2, 0] rfl (hP112 _ _ _ _ h)
set_option maxRecDepth 10000 in
theorem okX12_image_h112 {G : Gx} {Q : Int32 → Ix → Lx → Prop} {v1 : Int32} {v2 : Int32} {I : Ix} {L : Lx} (h : wpX12_image_h112 Q v1 v2 I L) : Ef G MX12_image (qI Q) 112 [(0, .ref 120), (1, .int v1), (2, .int v2)] [] I L := by
  unfold wpX12_image_h112 at h
  refine Lfp.ind (P := fun z => Ef G MX12_image (qI Q) 112 [(0, .ref 120), (1, .int z.1), (2, .int z.2.1)] [] z.2.2.1 z.2.2.2) ?_ h
  intro z P' hP' h
  obtain ⟨v1, v2, I, L⟩ := z
  exact okX12_image_l112 (fun v1 v2 I L h9 => hP' (v1, v2, I, L) h9) h
set_option maxRecDepth 10000 in
theorem okX12_image_l18 {G : Gx} {Q : Int32 → Ix → Lx → Prop} {P18 : Int32 → Int32 → Ix → Lx → Prop} (hP18 : ∀ (v1 : Int32) (v2 : Int32) (I : Ix) (L : Lx), P18 v1 v2 I L → Ef G MX12_image (qI Q) 18 [(0, .ref 120), (1, .int v1), (2, .int v2)] [] I L) {v1 : Int32} {v2 : Int32} {I : Ix} {L : Lx} (h : wpX12_image_l18 Q P18 v1 v2 I L) : Ef G MX12_image (qI Q) 18 [(0, .ref 120), (1, .int v1), (2, .int v2)] [] I L := by
  unfold wpX12_image_l18 at h
  refine Ev.iload_n (k := 2) (pc' := 19) dX12_image_18 rfl rfl rfl ?_
  refine Ev.bipush (pc' := 21) dX12_image_19 rfl kb_10 ?_
  refine Ev.icmp_ge (pc' := 24) (tgt := 110) dX12_image_21 rfl rfl (fun hc => ?_) (fun hc => ?_)
  · have h := h.1 hc
    refine Ev.iconst (pc' := 111) dX12_image_110 rfl ki_0 ?_
    refine Ev.istore_n (ls' := [(2, .int _), (0, .ref _), (1, .int _)]) (pc' := 112) dX12_image_111 rfl rfl (Nat.le_of_ble_eq_true rfl) rfl ?_
    exact Ev.sub [1, 2, 0] rfl (okX12_image_h112 h)
  · have h := h.2 hc
    refine Ev.iconst (pc' := 25) dX12_image_24 rfl ki_4 ?_
    refine Ev.bipush (pc' := 27) dX12_image_25 rfl kb_10 ?_
    refine Ev.iload_n (k := 1) (pc' := 28) dX12_image_27 rfl rfl rfl ?_
    refine Ev.imul (pc' := 29) dX12_image_28 rfl ?_
    refine Ev.iload_n (k := 2) (pc' := 30) dX12_image_29 rfl rfl rfl ?_
    refine Ev.iadd (pc' := 31) dX12_image_30 rfl ?_
    refine Ev.imul (pc' := 32) dX12_image_31 rfl ?_
    refine Ev.istore_n (ls' := [(3, .int _), (0, .ref _), (1, .int _), (2, .int _)]) (pc' := 33) dX12_image_32 rfl rfl (Nat.le_of_ble_eq_true rfl) rfl ?_
    refine Ev.aload_n (k := 1) (pc' := 34) dX12_image_33 rfl rfl rfl ?_
    refine Ev.getR (pc' := 37) dX12_image_34 rfl fa_RX12_172 ob_120 fk_12_97 rf_120_97 ?_
    refine Ev.iload_n (k := 0) (pc' := 38) dX12_image_37 rfl rfl rfl ?_
    refine Ev.aload_n (k := 1) (pc' := 39) dX12_image_38 rfl rfl rfl ?_
    refine Ev.getR (pc' := 42) dX12_image_39 rfl fa_RX12_81 ob_120 fk_12_50 rf_120_50 ?_
    refine Ev.iload_n (k := 3) (pc' := 43) dX12_image_42 rfl rfl rfl ?_
    refine Ev.iaload (j := _) (pc' := 44) dX12_image_43 rfl ar_143 h.1 rfl ?_
    have h := h.2
    refine Ev.iastore (j := _) (pc' := 45) dX12_image_44 rfl ar_171 h.1 rfl (fun I1 eI1 => ?_)
    have h := h.2 I1 eI1
    refine Ev.aload_n (k := 1) (pc' := 46) dX12_image_45 rfl rfl rfl ?_
    refine Ev.getR (pc' := 49) dX12_image_46 rfl fa_RX12_172 ob_120 fk_12_97 rf_120_97 ?_
    refine Ev.iload_n (k := 0) (pc' := 50) dX12_image_49 rfl rfl rfl ?_
    refine Ev.iconst (pc' := 51) dX12_image_50 rfl ki_1 ?_
    refine Ev.iadd (pc' := 52) dX12_image_51 rfl ?_
    refine Ev.aload_n (k := 1) (pc' := 53) dX12_image_52 rfl rfl rfl ?_
    refine Ev.getR (pc' := 56) dX12_image_53 rfl fa_RX12_84 ob_120 fk_12_51 rf_120_51 ?_
    refine Ev.iload_n (k := 3) (pc' := 57) dX12_image_56 rfl rfl rfl ?_
    refine Ev.iaload (j := _) (pc' := 58) dX12_image_57 rfl ar_144 h.1 rfl ?_
    have h := h.2
    refine Ev.iastore (j := _) (pc' := 59) dX12_image_58 rfl ar_171 h.1 rfl (fun I2 eI2 => ?_)
    have h := h.2 I2 eI2
    refine Ev.aload_n (k := 1) (pc' := 60) dX12_image_59 rfl rfl rfl ?_
    refine Ev.getR (pc' := 63) dX12_image_60 rfl fa_RX12_172 ob_120 fk_12_97 rf_120_97 ?_
    refine Ev.iload_n (k := 0) (pc' := 64) dX12_image_63 rfl rfl rfl ?_
    refine Ev.iconst (pc' := 65) dX12_image_64 rfl ki_2 ?_
    refine Ev.iadd (pc' := 66) dX12_image_65 rfl ?_
    refine Ev.aload_n (k := 1) (pc' := 67) dX12_image_66 rfl rfl rfl ?_
    refine Ev.getR (pc' := 70) dX12_image_67 rfl fa_RX12_87 ob_120 fk_12_52 rf_120_52 ?_
    refine Ev.iload_n (k := 3) (pc' := 71) dX12_image_70 rfl rfl rfl ?_
    refine Ev.iaload (j := _) (pc' := 72) dX12_image_71 rfl ar_145 h.1 rfl ?_
    have h := h.2
    refine Ev.iastore (j := _) (pc' := 73) dX12_image_72 rfl ar_171 h.1 rfl (fun I3 eI3 => ?_)
    have h := h.2 I3 eI3
    refine Ev.aload_n (k := 1) (pc' := 74) dX12_image_73 rfl rfl rfl ?_
    refine Ev.getR (pc' := 77) dX12_image_74 rfl fa_RX12_172 ob_120 fk_12_97 rf_120_97 ?_
    refine Ev.iload_n (k := 0) (pc' := 78) dX12_image_77 rfl rfl rfl ?_
    refine Ev.iconst (pc' := 79) dX12_image_78 rfl ki_3 ?_
    refine Ev.iadd (pc' := 80) dX12_image_79 rfl ?_
    refine Ev.aload_n (k := 1) (pc' := 81) dX12_image_80 rfl rfl rfl ?_
    refine Ev.getR (pc' := 84) dX12_image_81 rfl fa_RX12_90 ob_120 fk_12_53 rf_120_53 ?_
    refine Ev.iload_n (k := 3) (pc' := 85) dX12_image_84 rfl rfl rfl ?_
    refine Ev.iaload (j := _) (pc' := 86) dX12_image_85 rfl ar_146 h.1 rfl ?_
    have h := h.2
    refine Ev.iastore (j := _) (pc' := 87) dX12_image_86 rfl ar_171 h.1 rfl (fun I4 eI4 => ?_)
    have h := h.2 I4 eI4
    refine Ev.aload_n (k := 1) (pc' := 88) dX12_image_87 rfl rfl rfl ?_
    refine Ev.getR (pc' := 91) dX12_image_88 rfl fa_RX12_169 ob_120 fk_12_96 rf_120_96 ?_
    refine Ev.bipush (pc' := 93) dX12_image_91 rfl kb_10 ?_
    refine Ev.iload_n (k := 2) (pc' := 94) dX12_image_93 rfl rfl rfl ?_
    refine Ev.imul (pc' := 95) dX12_image_94 rfl ?_
    refine Ev.iload_n (k := 3) (pc' := 96) dX12_image_95 rfl rfl rfl ?_
    refine Ev.iadd (pc' := 97) dX12_image_96 rfl ?_
    refine Ev.aload_n (k := 1) (pc' := 98) dX12_image_97 rfl rfl rfl ?_
    refine Ev.getR (pc' := 101) dX12_image_98 rfl fa_RX12_99 ob_120 fk_12_56 rf_120_56 ?_
    refine Ev.iload_n (k := 3) (pc' := 102) dX12_image_101 rfl rfl rfl ?_
    refine Ev.zaload (j := _) (pc' := 103) dX12_image_102 rfl ar_149 h.1 rfl ?_
    have h := h.2
    refine Ev.zastore (j := _) (pc' := 104) dX12_image_103 rfl ar_170 h.1 rfl rfl (fun I5 eI5 => ?_)
    have h := h.2 I5 eI5
    refine Ev.iinc (k := 3) (v := _) (ls' := [(2, .int _), (3, .int _), (0, .ref _), (1, .int _)]) (pc' := 107) dX12_image_104 rfl rfl (congrArg (_ + ·) ki_1) (Nat.le_of_ble_eq_true rfl) rfl ?_
    refine Ev.goto (tgt := 18) dX12_image_107 rfl ?_
    exact Ev.sub [2, 3, 0] rfl (hP18 _ _ _ _ h)
set_option maxRecDepth 10000 in
theorem okX12_image_h18 {G : Gx} {Q : Int32 → Ix → Lx → Prop} {v1 : Int32} {v2 : Int32} {I : Ix} {L : Lx} (h : wpX12_image_h18 Q v1 v2 I L) : Ef G MX12_image (qI Q) 18 [(0, .ref 120), (1, .int v1), (2, .int v2)] [] I L := by
  unfold wpX12_image_h18 at h
  refine Lfp.ind (P := fun z => Ef G MX12_image (qI Q) 18 [(0, .ref 120), (1, .int z.1), (2, .int z.2.1)] [] z.2.2.1 z.2.2.2) ?_ h
  intro z P' hP' h
  obtain ⟨v1, v2, I, L⟩ := z
  exact okX12_image_l18 (fun v1 v2 I L h9 => hP' (v1, v2, I, L) h9) h
set_option maxRecDepth 10000 in
theorem okX12_image {G : Gx} {a1 : Int32} {I : Ix} {L : Lx} {Q : Int32 → Ix → Lx → Prop} (h : wpX12_image a1 I L Q) : Mf G MX12_image [.ref 120, .int a1] I L (qI Q) := by
  unfold wpX12_image at h
  refine Mf.of pn_RX12 (Nat.le_of_ble_eq_true rfl) ?_
  refine Ev.iload_n (k := 1) (pc' := 1) dX12_image_0 rfl rfl rfl ?_
  refine Ef.callSZ [.int _] [] (pc' := 4) dX12_image_1 rfl cv_RX12_678_X12_isBox ⟨Nat.le_of_ble_eq_true rfl, Nat.le_of_ble_eq_true rfl⟩ rfl rfl (Nat.le_of_ble_eq_true rfl) (okX12_isBox h) (fun r3 I1 L2 h => ?_)
  refine Ef.ifz_ne (pc' := 7) (tgt := 9) dX12_image_4 rfl rfl (fun hc => ?_) (fun hc => ?_)
  · have h := h.1 hc
    refine Ev.aload_n (k := 0) (pc' := 10) dX12_image_9 rfl rfl rfl ?_
    refine Ev.getR (pc' := 13) dX12_image_10 rfl fa_RX12_166 ob_120 fk_12_95 rf_120_95 ?_
    refine Ev.iload_n (k := 1) (pc' := 14) dX12_image_13 rfl rfl rfl ?_
    refine Ev.iconst (pc' := 15) dX12_image_14 rfl ki_1 ?_
    refine Ev.zastore (j := _) (y := 1) (pc' := 16) dX12_image_15 rfl ar_169 h.1 rfl (by decide) (fun I4 eI4 => ?_)
    have h := h.2 I4 eI4
    refine Ev.iconst (pc' := 17) dX12_image_16 rfl ki_0 ?_
    refine Ev.istore_n (ls' := [(2, .int _), (0, .ref _), (1, .int _)]) (pc' := 18) dX12_image_17 rfl rfl (Nat.le_of_ble_eq_true rfl) rfl ?_
    exact Ev.sub [1, 2, 0] rfl (okX12_image_h18 h)
  · have h := h.2 hc
    refine Ev.iconst (pc' := 8) dX12_image_7 rfl ki_m1 ?_
    exact Ef.iret dX12_image_8 rfl h
def wpX12_back_l162 (Q : Int32 → Ix → Lx → Prop) (P162 : Int32 → Int32 → Ix → Lx → Prop) (v1 : Int32) (v2 : Int32) (I : Ix) (L : Lx) : Prop := (610 ≤ v2 → vp_in v1 3 ∧ ∀ I1 : Ix, I1 = pu I 120 57 (I 175 v1.toNatClampNeg) → vp_in v1 3 ∧ ∀ I2 : Ix, I2 = pu I1 120 58 (I1 176 v1.toNatClampNeg) → vp_in v1 3 ∧ ∀ I3 : Ix, I3 = pu I2 120 59 (I2 177 v1.toNatClampNeg) → Q (I3 120 57) I3 L) ∧ (¬ 610 ≤ v2 → vp_in ((610 * v1) + v2) 1830 ∧ vp_in v2 610 ∧ ∀ I4 : Ix, I4 = pu I 150 v2.toNatClampNeg (I 174 ((610 * v1) + v2).toNatClampNeg) → P162 v1 (v2 + 1) I4 L)
def wpX12_back_h162 (Q : Int32 → Ix → Lx → Prop) (v1 : Int32) (v2 : Int32) (I : Ix) (L : Lx) : Prop := Lfp (X := Int32 × Int32 × Ix × Lx) (fun P z => wpX12_back_l162 Q (fun v1 v2 I L => P (v1, v2, I, L)) z.1 z.2.1 z.2.2.1 z.2.2.2) (v1, v2, I, L)
theorem wpX12_back_h162_fold {Q : Int32 → Ix → Lx → Prop} {v1 : Int32} {v2 : Int32} {I : Ix} {L : Lx} (h : wpX12_back_l162 Q (wpX12_back_h162 Q) v1 v2 I L) : wpX12_back_h162 Q v1 v2 I L := Lfp.fold h
def wpX12_back_l114 (Q : Int32 → Ix → Lx → Prop) (P114 : Int32 → Int32 → Ix → Lx → Prop) (v1 : Int32) (v2 : Int32) (I : Ix) (L : Lx) : Prop := (6 ≤ v2 → wpX12_back_h162 Q v1 0 I L) ∧ (¬ 6 ≤ v2 → vp_in ((6 * v1) + v2) 18 ∧ vp_in v2 6 ∧ ∀ I1 : Ix, I1 = pu I 147 v2.toNatClampNeg (I 172 ((6 * v1) + v2).toNatClampNeg) → vp_in ((6 * v1) + v2) 18 ∧ vp_in v2 6 ∧ ∀ I2 : Ix, I2 = pu I1 148 v2.toNatClampNeg (I1 173 ((6 * v1) + v2).toNatClampNeg) → P114 v1 (v2 + 1) I2 L)
def wpX12_back_h114 (Q : Int32 → Ix → Lx → Prop) (v1 : Int32) (v2 : Int32) (I : Ix) (L : Lx) : Prop := Lfp (X := Int32 × Int32 × Ix × Lx) (fun P z => wpX12_back_l114 Q (fun v1 v2 I L => P (v1, v2, I, L)) z.1 z.2.1 z.2.2.1 z.2.2.2) (v1, v2, I, L)
theorem wpX12_back_h114_fold {Q : Int32 → Ix → Lx → Prop} {v1 : Int32} {v2 : Int32} {I : Ix} {L : Lx} (h : wpX12_back_l114 Q (wpX12_back_h114 Q) v1 v2 I L) : wpX12_back_h114 Q v1 v2 I L := Lfp.fold h
def wpX12_back_l20 (Q : Int32 → Ix → Lx → Prop) (P20 : Int32 → Int32 → Ix → Lx → Prop) (v1 : Int32) (v2 : Int32) (I : Ix) (L : Lx) : Prop := (10 ≤ v2 → wpX12_back_h114 Q v1 0 I L) ∧ (¬ 10 ≤ v2 → vp_in (4 * ((10 * v1) + v2)) 120 ∧ vp_in v2 10 ∧ ∀ I1 : Ix, I1 = pu I 143 v2.toNatClampNeg (I 171 (4 * ((10 * v1) + v2)).toNatClampNeg) → vp_in ((4 * ((10 * v1) + v2)) + 1) 120 ∧ vp_in v2 10 ∧ ∀ I2 : Ix, I2 = pu I1 144 v2.toNatClampNeg (I1 171 ((4 * ((10 * v1) + v2)) + 1).toNatClampNeg) → vp_in ((4 * ((10 * v1) + v2)) + 2) 120 ∧ vp_in v2 10 ∧ ∀ I3 : Ix, I3 = pu I2 145 v2.toNatClampNeg (I2 171 ((4 * ((10 * v1) + v2)) + 2).toNatClampNeg) → vp_in ((4 * ((10 * v1) + v2)) + 3) 120 ∧ vp_in v2 10 ∧ ∀ I4 : Ix, I4 = pu I3 146 v2.toNatClampNeg (I3 171 ((4 * ((10 * v1) + v2)) + 3).toNatClampNeg) → vp_in ((10 * v1) + v2) 30 ∧ vp_in v2 10 ∧ ∀ I5 : Ix, I5 = pu I4 149 v2.toNatClampNeg ((I4 170 ((10 * v1) + v2).toNatClampNeg) &&& 1) → P20 v1 (v2 + 1) I5 L)
def wpX12_back_h20 (Q : Int32 → Ix → Lx → Prop) (v1 : Int32) (v2 : Int32) (I : Ix) (L : Lx) : Prop := Lfp (X := Int32 × Int32 × Ix × Lx) (fun P z => wpX12_back_l20 Q (fun v1 v2 I L => P (v1, v2, I, L)) z.1 z.2.1 z.2.2.1 z.2.2.2) (v1, v2, I, L)
theorem wpX12_back_h20_fold {Q : Int32 → Ix → Lx → Prop} {v1 : Int32} {v2 : Int32} {I : Ix} {L : Lx} (h : wpX12_back_l20 Q (wpX12_back_h20 Q) v1 v2 I L) : wpX12_back_h20 Q v1 v2 I L := Lfp.fold h
def wpX12_back (a1 : Int32) (I : Ix) (L : Lx) (Q : Int32 → Ix → Lx → Prop) : Prop := wpX12_isBox a1 I L (fun r3 I1 L2 => (r3 = false → Q (-1) I1 L2) ∧ (r3 = true → vp_in a1 3 ∧ (¬ (I1 169 a1.toNatClampNeg) = 0 → wpX12_back_h20 Q a1 0 I1 L2) ∧ ((I1 169 a1.toNatClampNeg) = 0 → Q (-1) I1 L2)))
set_option maxRecDepth 10000 in
theorem okX12_back_l162 {G : Gx} {Q : Int32 → Ix → Lx → Prop} {P162 : Int32 → Int32 → Ix → Lx → Prop} (hP162 : ∀ (v1 : Int32) (v2 : Int32) (I : Ix) (L : Lx), P162 v1 v2 I L → Ef G MX12_back (qI Q) 162 [(0, .ref 120), (1, .int v1), (2, .int v2)] [] I L) {v1 : Int32} {v2 : Int32} {I : Ix} {L : Lx} (h : wpX12_back_l162 Q P162 v1 v2 I L) : Ef G MX12_back (qI Q) 162 [(0, .ref 120), (1, .int v1), (2, .int v2)] [] I L := by
  unfold wpX12_back_l162 at h
  refine Ev.iload_n (k := 2) (pc' := 163) dX12_back_162 rfl rfl rfl ?_
  refine Ev.sipush (pc' := 166) dX12_back_163 rfl ks_610 ?_
  refine Ev.icmp_ge (pc' := 169) (tgt := 193) dX12_back_166 rfl rfl (fun hc => ?_) (fun hc => ?_)
  · have h := h.1 hc
    refine Ev.aload_n (k := 0) (pc' := 194) dX12_back_193 rfl rfl rfl ?_
    refine Ev.aload_n (k := 0) (pc' := 195) dX12_back_194 rfl rfl rfl ?_
    refine Ev.getR (pc' := 198) dX12_back_195 rfl fa_RX12_184 ob_120 fk_12_101 rf_120_101 ?_
    refine Ev.iload_n (k := 1) (pc' := 199) dX12_back_198 rfl rfl rfl ?_
    refine Ev.iaload (j := _) (pc' := 200) dX12_back_199 rfl ar_175 h.1 rfl ?_
    have h := h.2
    refine Ev.putI (pc' := 203) dX12_back_200 rfl fa_RX12_464 ob_120 fk_12_57 rfl rfl (fun I1 eI1 => ?_)
    have h := h I1 eI1
    refine Ev.aload_n (k := 0) (pc' := 204) dX12_back_203 rfl rfl rfl ?_
    refine Ev.aload_n (k := 0) (pc' := 205) dX12_back_204 rfl rfl rfl ?_
    refine Ev.getR (pc' := 208) dX12_back_205 rfl fa_RX12_187 ob_120 fk_12_102 rf_120_102 ?_
    refine Ev.iload_n (k := 1) (pc' := 209) dX12_back_208 rfl rfl rfl ?_
    refine Ev.iaload (j := _) (pc' := 210) dX12_back_209 rfl ar_176 h.1 rfl ?_
    have h := h.2
    refine Ev.putI (pc' := 213) dX12_back_210 rfl fa_RX12_103 ob_120 fk_12_58 rfl rfl (fun I2 eI2 => ?_)
    have h := h I2 eI2
    refine Ev.aload_n (k := 0) (pc' := 214) dX12_back_213 rfl rfl rfl ?_
    refine Ev.aload_n (k := 0) (pc' := 215) dX12_back_214 rfl rfl rfl ?_
    refine Ev.getR (pc' := 218) dX12_back_215 rfl fa_RX12_190 ob_120 fk_12_103 rf_120_103 ?_
    refine Ev.iload_n (k := 1) (pc' := 219) dX12_back_218 rfl rfl rfl ?_
    refine Ev.iaload (j := _) (pc' := 220) dX12_back_219 rfl ar_177 h.1 rfl ?_
    have h := h.2
    refine Ev.putI (pc' := 223) dX12_back_220 rfl fa_RX12_467 ob_120 fk_12_59 rfl rfl (fun I3 eI3 => ?_)
    have h := h I3 eI3
    refine Ev.aload_n (k := 0) (pc' := 224) dX12_back_223 rfl rfl rfl ?_
    refine Ev.getI (pc' := 227) dX12_back_224 rfl fa_RX12_464 ob_120 fk_12_57 ?_
    exact Ef.iret dX12_back_227 rfl h
  · have h := h.2 hc
    refine Ev.aload_n (k := 0) (pc' := 170) dX12_back_169 rfl rfl rfl ?_
    refine Ev.getR (pc' := 173) dX12_back_170 rfl fa_RX12_106 ob_120 fk_12_60 rf_120_60 ?_
    refine Ev.iload_n (k := 2) (pc' := 174) dX12_back_173 rfl rfl rfl ?_
    refine Ev.aload_n (k := 0) (pc' := 175) dX12_back_174 rfl rfl rfl ?_
    refine Ev.getR (pc' := 178) dX12_back_175 rfl fa_RX12_181 ob_120 fk_12_100 rf_120_100 ?_
    refine Ev.sipush (pc' := 181) dX12_back_178 rfl ks_610 ?_
    refine Ev.iload_n (k := 1) (pc' := 182) dX12_back_181 rfl rfl rfl ?_
    refine Ev.imul (pc' := 183) dX12_back_182 rfl ?_
    refine Ev.iload_n (k := 2) (pc' := 184) dX12_back_183 rfl rfl rfl ?_
    refine Ev.iadd (pc' := 185) dX12_back_184 rfl ?_
    refine Ev.iaload (j := _) (pc' := 186) dX12_back_185 rfl ar_174 h.1 rfl ?_
    have h := h.2
    refine Ev.iastore (j := _) (pc' := 187) dX12_back_186 rfl ar_150 h.1 rfl (fun I4 eI4 => ?_)
    have h := h.2 I4 eI4
    refine Ev.iinc (k := 2) (v := _) (ls' := [(2, .int _), (0, .ref _), (1, .int _)]) (pc' := 190) dX12_back_187 rfl rfl (congrArg (_ + ·) ki_1) (Nat.le_of_ble_eq_true rfl) rfl ?_
    refine Ev.goto (tgt := 162) dX12_back_190 rfl ?_
    exact Ev.sub [1, 2, 0] rfl (hP162 _ _ _ _ h)
set_option maxRecDepth 10000 in
theorem okX12_back_h162 {G : Gx} {Q : Int32 → Ix → Lx → Prop} {v1 : Int32} {v2 : Int32} {I : Ix} {L : Lx} (h : wpX12_back_h162 Q v1 v2 I L) : Ef G MX12_back (qI Q) 162 [(0, .ref 120), (1, .int v1), (2, .int v2)] [] I L := by
  unfold wpX12_back_h162 at h
  refine Lfp.ind (P := fun z => Ef G MX12_back (qI Q) 162 [(0, .ref 120), (1, .int z.1), (2, .int z.2.1)] [] z.2.2.1 z.2.2.2) ?_ h
  intro z P' hP' h
  obtain ⟨v1, v2, I, L⟩ := z
  exact okX12_back_l162 (fun v1 v2 I L h9 => hP' (v1, v2, I, L) h9) h
set_option maxRecDepth 10000 in
theorem okX12_back_l114 {G : Gx} {Q : Int32 → Ix → Lx → Prop} {P114 : Int32 → Int32 → Ix → Lx → Prop} (hP114 : ∀ (v1 : Int32) (v2 : Int32) (I : Ix) (L : Lx), P114 v1 v2 I L → Ef G MX12_back (qI Q) 114 [(0, .ref 120), (1, .int v1), (2, .int v2)] [] I L) {v1 : Int32} {v2 : Int32} {I : Ix} {L : Lx} (h : wpX12_back_l114 Q P114 v1 v2 I L) : Ef G MX12_back (qI Q) 114 [(0, .ref 120), (1, .int v1), (2, .int v2)] [] I L := by
  unfold wpX12_back_l114 at h
  refine Ev.iload_n (k := 2) (pc' := 115) dX12_back_114 rfl rfl rfl ?_
  refine Ev.bipush (pc' := 117) dX12_back_115 rfl kb_6 ?_
  refine Ev.icmp_ge (pc' := 120) (tgt := 160) dX12_back_117 rfl rfl (fun hc => ?_) (fun hc => ?_)
  · have h := h.1 hc
    refine Ev.iconst (pc' := 161) dX12_back_160 rfl ki_0 ?_
    refine Ev.istore_n (ls' := [(2, .int _), (0, .ref _), (1, .int _)]) (pc' := 162) dX12_back_161 rfl rfl (Nat.le_of_ble_eq_true rfl) rfl ?_
    exact Ev.sub [1, 2, 0] rfl (okX12_back_h162 h)
  · have h := h.2 hc
    refine Ev.aload_n (k := 0) (pc' := 121) dX12_back_120 rfl rfl rfl ?_
    refine Ev.getR (pc' := 124) dX12_back_121 rfl fa_RX12_93 ob_120 fk_12_54 rf_120_54 ?_
    refine Ev.iload_n (k := 2) (pc' := 125) dX12_back_124 rfl rfl rfl ?_
    refine Ev.aload_n (k := 0) (pc' := 126) dX12_back_125 rfl rfl rfl ?_
    refine Ev.getR (pc' := 129) dX12_back_126 rfl fa_RX12_175 ob_120 fk_12_98 rf_120_98 ?_
    refine Ev.bipush (pc' := 131) dX12_back_129 rfl kb_6 ?_
    refine Ev.iload_n (k := 1) (pc' := 132) dX12_back_131 rfl rfl rfl ?_
    refine Ev.imul (pc' := 133) dX12_back_132 rfl ?_
    refine Ev.iload_n (k := 2) (pc' := 134) dX12_back_133 rfl rfl rfl ?_
    refine Ev.iadd (pc' := 135) dX12_back_134 rfl ?_
    refine Ev.iaload (j := _) (pc' := 136) dX12_back_135 rfl ar_172 h.1 rfl ?_
    have h := h.2
    refine Ev.iastore (j := _) (pc' := 137) dX12_back_136 rfl ar_147 h.1 rfl (fun I1 eI1 => ?_)
    have h := h.2 I1 eI1
    refine Ev.aload_n (k := 0) (pc' := 138) dX12_back_137 rfl rfl rfl ?_
    refine Ev.getR (pc' := 141) dX12_back_138 rfl fa_RX12_96 ob_120 fk_12_55 rf_120_55 ?_
    refine Ev.iload_n (k := 2) (pc' := 142) dX12_back_141 rfl rfl rfl ?_
    refine Ev.aload_n (k := 0) (pc' := 143) dX12_back_142 rfl rfl rfl ?_
    refine Ev.getR (pc' := 146) dX12_back_143 rfl fa_RX12_178 ob_120 fk_12_99 rf_120_99 ?_
    refine Ev.bipush (pc' := 148) dX12_back_146 rfl kb_6 ?_
    refine Ev.iload_n (k := 1) (pc' := 149) dX12_back_148 rfl rfl rfl ?_
    refine Ev.imul (pc' := 150) dX12_back_149 rfl ?_
    refine Ev.iload_n (k := 2) (pc' := 151) dX12_back_150 rfl rfl rfl ?_
    refine Ev.iadd (pc' := 152) dX12_back_151 rfl ?_
    refine Ev.iaload (j := _) (pc' := 153) dX12_back_152 rfl ar_173 h.1 rfl ?_
    have h := h.2
    refine Ev.iastore (j := _) (pc' := 154) dX12_back_153 rfl ar_148 h.1 rfl (fun I2 eI2 => ?_)
    have h := h.2 I2 eI2
    refine Ev.iinc (k := 2) (v := _) (ls' := [(2, .int _), (0, .ref _), (1, .int _)]) (pc' := 157) dX12_back_154 rfl rfl (congrArg (_ + ·) ki_1) (Nat.le_of_ble_eq_true rfl) rfl ?_
    refine Ev.goto (tgt := 114) dX12_back_157 rfl ?_
    exact Ev.sub [1, 2, 0] rfl (hP114 _ _ _ _ h)
set_option maxRecDepth 10000 in
theorem okX12_back_h114 {G : Gx} {Q : Int32 → Ix → Lx → Prop} {v1 : Int32} {v2 : Int32} {I : Ix} {L : Lx} (h : wpX12_back_h114 Q v1 v2 I L) : Ef G MX12_back (qI Q) 114 [(0, .ref 120), (1, .int v1), (2, .int v2)] [] I L := by
  unfold wpX12_back_h114 at h
  refine Lfp.ind (P := fun z => Ef G MX12_back (qI Q) 114 [(0, .ref 120), (1, .int z.1), (2, .int z.2.1)] [] z.2.2.1 z.2.2.2) ?_ h
  intro z P' hP' h
  obtain ⟨v1, v2, I, L⟩ := z
  exact okX12_back_l114 (fun v1 v2 I L h9 => hP' (v1, v2, I, L) h9) h
set_option maxRecDepth 10000 in
theorem okX12_back_l20 {G : Gx} {Q : Int32 → Ix → Lx → Prop} {P20 : Int32 → Int32 → Ix → Lx → Prop} (hP20 : ∀ (v1 : Int32) (v2 : Int32) (I : Ix) (L : Lx), P20 v1 v2 I L → Ef G MX12_back (qI Q) 20 [(0, .ref 120), (1, .int v1), (2, .int v2)] [] I L) {v1 : Int32} {v2 : Int32} {I : Ix} {L : Lx} (h : wpX12_back_l20 Q P20 v1 v2 I L) : Ef G MX12_back (qI Q) 20 [(0, .ref 120), (1, .int v1), (2, .int v2)] [] I L := by
  unfold wpX12_back_l20 at h
  refine Ev.iload_n (k := 2) (pc' := 21) dX12_back_20 rfl rfl rfl ?_
  refine Ev.bipush (pc' := 23) dX12_back_21 rfl kb_10 ?_
  refine Ev.icmp_ge (pc' := 26) (tgt := 112) dX12_back_23 rfl rfl (fun hc => ?_) (fun hc => ?_)
  · have h := h.1 hc
    refine Ev.iconst (pc' := 113) dX12_back_112 rfl ki_0 ?_
    refine Ev.istore_n (ls' := [(2, .int _), (0, .ref _), (1, .int _)]) (pc' := 114) dX12_back_113 rfl rfl (Nat.le_of_ble_eq_true rfl) rfl ?_
    exact Ev.sub [1, 2, 0] rfl (okX12_back_h114 h)
  · have h := h.2 hc
    refine Ev.iconst (pc' := 27) dX12_back_26 rfl ki_4 ?_
    refine Ev.bipush (pc' := 29) dX12_back_27 rfl kb_10 ?_
    refine Ev.iload_n (k := 1) (pc' := 30) dX12_back_29 rfl rfl rfl ?_
    refine Ev.imul (pc' := 31) dX12_back_30 rfl ?_
    refine Ev.iload_n (k := 2) (pc' := 32) dX12_back_31 rfl rfl rfl ?_
    refine Ev.iadd (pc' := 33) dX12_back_32 rfl ?_
    refine Ev.imul (pc' := 34) dX12_back_33 rfl ?_
    refine Ev.istore_n (ls' := [(3, .int _), (0, .ref _), (1, .int _), (2, .int _)]) (pc' := 35) dX12_back_34 rfl rfl (Nat.le_of_ble_eq_true rfl) rfl ?_
    refine Ev.aload_n (k := 1) (pc' := 36) dX12_back_35 rfl rfl rfl ?_
    refine Ev.getR (pc' := 39) dX12_back_36 rfl fa_RX12_81 ob_120 fk_12_50 rf_120_50 ?_
    refine Ev.iload_n (k := 3) (pc' := 40) dX12_back_39 rfl rfl rfl ?_
    refine Ev.aload_n (k := 1) (pc' := 41) dX12_back_40 rfl rfl rfl ?_
    refine Ev.getR (pc' := 44) dX12_back_41 rfl fa_RX12_172 ob_120 fk_12_97 rf_120_97 ?_
    refine Ev.iload_n (k := 0) (pc' := 45) dX12_back_44 rfl rfl rfl ?_
    refine Ev.iaload (j := _) (pc' := 46) dX12_back_45 rfl ar_171 h.1 rfl ?_
    have h := h.2
    refine Ev.iastore (j := _) (pc' := 47) dX12_back_46 rfl ar_143 h.1 rfl (fun I1 eI1 => ?_)
    have h := h.2 I1 eI1
    refine Ev.aload_n (k := 1) (pc' := 48) dX12_back_47 rfl rfl rfl ?_
    refine Ev.getR (pc' := 51) dX12_back_48 rfl fa_RX12_84 ob_120 fk_12_51 rf_120_51 ?_
    refine Ev.iload_n (k := 3) (pc' := 52) dX12_back_51 rfl rfl rfl ?_
    refine Ev.aload_n (k := 1) (pc' := 53) dX12_back_52 rfl rfl rfl ?_
    refine Ev.getR (pc' := 56) dX12_back_53 rfl fa_RX12_172 ob_120 fk_12_97 rf_120_97 ?_
    refine Ev.iload_n (k := 0) (pc' := 57) dX12_back_56 rfl rfl rfl ?_
    refine Ev.iconst (pc' := 58) dX12_back_57 rfl ki_1 ?_
    refine Ev.iadd (pc' := 59) dX12_back_58 rfl ?_
    refine Ev.iaload (j := _) (pc' := 60) dX12_back_59 rfl ar_171 h.1 rfl ?_
    have h := h.2
    refine Ev.iastore (j := _) (pc' := 61) dX12_back_60 rfl ar_144 h.1 rfl (fun I2 eI2 => ?_)
    have h := h.2 I2 eI2
    refine Ev.aload_n (k := 1) (pc' := 62) dX12_back_61 rfl rfl rfl ?_
    refine Ev.getR (pc' := 65) dX12_back_62 rfl fa_RX12_87 ob_120 fk_12_52 rf_120_52 ?_
    refine Ev.iload_n (k := 3) (pc' := 66) dX12_back_65 rfl rfl rfl ?_
    refine Ev.aload_n (k := 1) (pc' := 67) dX12_back_66 rfl rfl rfl ?_
    refine Ev.getR (pc' := 70) dX12_back_67 rfl fa_RX12_172 ob_120 fk_12_97 rf_120_97 ?_
    refine Ev.iload_n (k := 0) (pc' := 71) dX12_back_70 rfl rfl rfl ?_
    refine Ev.iconst (pc' := 72) dX12_back_71 rfl ki_2 ?_
    refine Ev.iadd (pc' := 73) dX12_back_72 rfl ?_
    refine Ev.iaload (j := _) (pc' := 74) dX12_back_73 rfl ar_171 h.1 rfl ?_
    have h := h.2
    refine Ev.iastore (j := _) (pc' := 75) dX12_back_74 rfl ar_145 h.1 rfl (fun I3 eI3 => ?_)
    have h := h.2 I3 eI3
    refine Ev.aload_n (k := 1) (pc' := 76) dX12_back_75 rfl rfl rfl ?_
    refine Ev.getR (pc' := 79) dX12_back_76 rfl fa_RX12_90 ob_120 fk_12_53 rf_120_53 ?_
    refine Ev.iload_n (k := 3) (pc' := 80) dX12_back_79 rfl rfl rfl ?_
    refine Ev.aload_n (k := 1) (pc' := 81) dX12_back_80 rfl rfl rfl ?_
    refine Ev.getR (pc' := 84) dX12_back_81 rfl fa_RX12_172 ob_120 fk_12_97 rf_120_97 ?_
    refine Ev.iload_n (k := 0) (pc' := 85) dX12_back_84 rfl rfl rfl ?_
    refine Ev.iconst (pc' := 86) dX12_back_85 rfl ki_3 ?_
    refine Ev.iadd (pc' := 87) dX12_back_86 rfl ?_
    refine Ev.iaload (j := _) (pc' := 88) dX12_back_87 rfl ar_171 h.1 rfl ?_
    have h := h.2
    refine Ev.iastore (j := _) (pc' := 89) dX12_back_88 rfl ar_146 h.1 rfl (fun I4 eI4 => ?_)
    have h := h.2 I4 eI4
    refine Ev.aload_n (k := 1) (pc' := 90) dX12_back_89 rfl rfl rfl ?_
    refine Ev.getR (pc' := 93) dX12_back_90 rfl fa_RX12_99 ob_120 fk_12_56 rf_120_56 ?_
    refine Ev.iload_n (k := 3) (pc' := 94) dX12_back_93 rfl rfl rfl ?_
    refine Ev.aload_n (k := 1) (pc' := 95) dX12_back_94 rfl rfl rfl ?_
    refine Ev.getR (pc' := 98) dX12_back_95 rfl fa_RX12_169 ob_120 fk_12_96 rf_120_96 ?_
    refine Ev.bipush (pc' := 100) dX12_back_98 rfl kb_10 ?_
    refine Ev.iload_n (k := 2) (pc' := 101) dX12_back_100 rfl rfl rfl ?_
    refine Ev.imul (pc' := 102) dX12_back_101 rfl ?_
    refine Ev.iload_n (k := 3) (pc' := 103) dX12_back_102 rfl rfl rfl ?_
    refine Ev.iadd (pc' := 104) dX12_back_103 rfl ?_
    refine Ev.zaload (j := _) (pc' := 105) dX12_back_104 rfl ar_170 h.1 rfl ?_
    have h := h.2
    refine Ev.zastore (j := _) (pc' := 106) dX12_back_105 rfl ar_149 h.1 rfl rfl (fun I5 eI5 => ?_)
    have h := h.2 I5 eI5
    refine Ev.iinc (k := 3) (v := _) (ls' := [(2, .int _), (3, .int _), (0, .ref _), (1, .int _)]) (pc' := 109) dX12_back_106 rfl rfl (congrArg (_ + ·) ki_1) (Nat.le_of_ble_eq_true rfl) rfl ?_
    refine Ev.goto (tgt := 20) dX12_back_109 rfl ?_
    exact Ev.sub [2, 3, 0] rfl (hP20 _ _ _ _ h)
set_option maxRecDepth 10000 in
theorem okX12_back_h20 {G : Gx} {Q : Int32 → Ix → Lx → Prop} {v1 : Int32} {v2 : Int32} {I : Ix} {L : Lx} (h : wpX12_back_h20 Q v1 v2 I L) : Ef G MX12_back (qI Q) 20 [(0, .ref 120), (1, .int v1), (2, .int v2)] [] I L := by
  unfold wpX12_back_h20 at h
  refine Lfp.ind (P := fun z => Ef G MX12_back (qI Q) 20 [(0, .ref 120), (1, .int z.1), (2, .int z.2.1)] [] z.2.2.1 z.2.2.2) ?_ h
  intro z P' hP' h
  obtain ⟨v1, v2, I, L⟩ := z
  exact okX12_back_l20 (fun v1 v2 I L h9 => hP' (v1, v2, I, L) h9) h
set_option maxRecDepth 10000 in
theorem okX12_back {G : Gx} {a1 : Int32} {I : Ix} {L : Lx} {Q : Int32 → Ix → Lx → Prop} (h : wpX12_back a1 I L Q) : Mf G MX12_back [.ref 120, .int a1] I L (qI Q) := by
  unfold wpX12_back at h
  refine Mf.of pn_RX12 (Nat.le_of_ble_eq_true rfl) ?_
  refine Ev.iload_n (k := 1) (pc' := 1) dX12_back_0 rfl rfl rfl ?_
  refine Ef.callSZ [.int _] [] (pc' := 4) dX12_back_1 rfl cv_RX12_678_X12_isBox ⟨Nat.le_of_ble_eq_true rfl, Nat.le_of_ble_eq_true rfl⟩ rfl rfl (Nat.le_of_ble_eq_true rfl) (okX12_isBox h) (fun r3 I1 L2 h => ?_)
  refine Ef.ifz_eq (pc' := 7) (tgt := 16) dX12_back_4 rfl rfl (fun hc => ?_) (fun hc => ?_)
  · have h := h.1 hc
    refine Ev.iconst (pc' := 17) dX12_back_16 rfl ki_m1 ?_
    exact Ef.iret dX12_back_17 rfl h
  · have h := h.2 hc
    refine Ev.aload_n (k := 0) (pc' := 8) dX12_back_7 rfl rfl rfl ?_
    refine Ev.getR (pc' := 11) dX12_back_8 rfl fa_RX12_166 ob_120 fk_12_95 rf_120_95 ?_
    refine Ev.iload_n (k := 1) (pc' := 12) dX12_back_11 rfl rfl rfl ?_
    refine Ev.zaload (j := _) (pc' := 13) dX12_back_12 rfl ar_169 h.1 rfl ?_
    have h := h.2
    refine Ev.if_ne (pc' := 16) (tgt := 18) dX12_back_13 rfl rfl (fun hc => ?_) (fun hc => ?_)
    · have h := h.1 hc
      refine Ev.iconst (pc' := 19) dX12_back_18 rfl ki_0 ?_
      refine Ev.istore_n (ls' := [(2, .int _), (0, .ref _), (1, .int _)]) (pc' := 20) dX12_back_19 rfl rfl (Nat.le_of_ble_eq_true rfl) rfl ?_
      exact Ev.sub [1, 2, 0] rfl (okX12_back_h20 h)
    · have h := h.2 hc
      refine Ev.iconst (pc' := 17) dX12_back_16 rfl ki_m1 ?_
      exact Ef.iret dX12_back_17 rfl h
def wpX12_about (a1 : Int32) (I : Ix) (L : Lx) (Q : Int32 → Ix → Lx → Prop) : Prop := (a1 = 0 → Q (I 120 42) I L) ∧ (a1 = 1 → Q (I 120 43) I L) ∧ (a1 = 2 → Q (I 120 44) I L) ∧ (a1 = 3 → Q (I 120 45) I L) ∧ (a1 = 4 → Q (I 120 57) I L) ∧ (a1 = 5 → Q (I 120 93) I L) ∧ (a1 = 6 → Q (I 120 94) I L) ∧ (a1 = 7 → Q (I 120 1) I L) ∧ (a1 = 8 → Q (I 120 58) I L) ∧ (a1 = 9 → Q (I 120 21) I L) ∧ (a1 = 10 → Q (I 120 59) I L) ∧ (¬ a1 = 0 → ¬ a1 = 1 → ¬ a1 = 2 → ¬ a1 = 3 → ¬ a1 = 4 → ¬ a1 = 5 → ¬ a1 = 6 → ¬ a1 = 7 → ¬ a1 = 8 → ¬ a1 = 9 → ¬ a1 = 10 → Q (-1) I L)
set_option maxRecDepth 10000 in
theorem okX12_about {G : Gx} {a1 : Int32} {I : Ix} {L : Lx} {Q : Int32 → Ix → Lx → Prop} (h : wpX12_about a1 I L Q) : Mf G MX12_about [.ref 120, .int a1] I L (qI Q) := by
  unfold wpX12_about at h
  refine Mf.of pn_RX12 (Nat.le_of_ble_eq_true rfl) ?_
  refine Ev.iload_n (k := 1) (pc' := 1) dX12_about_0 rfl rfl rfl ?_
  by_cases e0 : a1 = 0
  · refine Ev.tableIn (off := 59) (tgt := 60) dX12_about_1 (by rw [e0]; decide) (by rw [e0]; decide) (by rw [e0]; decide) rfl ?_
    have h := h.1 e0
    refine Ev.aload_n (k := 0) (pc' := 61) dX12_about_60 rfl rfl rfl ?_
    refine Ev.getI (pc' := 64) dX12_about_61 rfl fa_RX12_431 ob_120 fk_12_42 ?_
    exact Ef.iret dX12_about_64 rfl h
  by_cases e1 : a1 = 1
  · refine Ev.tableIn (off := 64) (tgt := 65) dX12_about_1 (by rw [e1]; decide) (by rw [e1]; decide) (by rw [e1]; decide) rfl ?_
    have h := h.2.1 e1
    refine Ev.aload_n (k := 0) (pc' := 66) dX12_about_65 rfl rfl rfl ?_
    refine Ev.getI (pc' := 69) dX12_about_66 rfl fa_RX12_434 ob_120 fk_12_43 ?_
    exact Ef.iret dX12_about_69 rfl h
  by_cases e2 : a1 = 2
  · refine Ev.tableIn (off := 69) (tgt := 70) dX12_about_1 (by rw [e2]; decide) (by rw [e2]; decide) (by rw [e2]; decide) rfl ?_
    have h := h.2.2.1 e2
    refine Ev.aload_n (k := 0) (pc' := 71) dX12_about_70 rfl rfl rfl ?_
    refine Ev.getI (pc' := 74) dX12_about_71 rfl fa_RX12_437 ob_120 fk_12_44 ?_
    exact Ef.iret dX12_about_74 rfl h
  by_cases e3 : a1 = 3
  · refine Ev.tableIn (off := 74) (tgt := 75) dX12_about_1 (by rw [e3]; decide) (by rw [e3]; decide) (by rw [e3]; decide) rfl ?_
    have h := h.2.2.2.1 e3
    refine Ev.aload_n (k := 0) (pc' := 76) dX12_about_75 rfl rfl rfl ?_
    refine Ev.getI (pc' := 79) dX12_about_76 rfl fa_RX12_440 ob_120 fk_12_45 ?_
    exact Ef.iret dX12_about_79 rfl h
  by_cases e4 : a1 = 4
  · refine Ev.tableIn (off := 79) (tgt := 80) dX12_about_1 (by rw [e4]; decide) (by rw [e4]; decide) (by rw [e4]; decide) rfl ?_
    have h := h.2.2.2.2.1 e4
    refine Ev.aload_n (k := 0) (pc' := 81) dX12_about_80 rfl rfl rfl ?_
    refine Ev.getI (pc' := 84) dX12_about_81 rfl fa_RX12_464 ob_120 fk_12_57 ?_
    exact Ef.iret dX12_about_84 rfl h
  by_cases e5 : a1 = 5
  · refine Ev.tableIn (off := 84) (tgt := 85) dX12_about_1 (by rw [e5]; decide) (by rw [e5]; decide) (by rw [e5]; decide) rfl ?_
    have h := h.2.2.2.2.2.1 e5
    refine Ev.aload_n (k := 0) (pc' := 86) dX12_about_85 rfl rfl rfl ?_
    refine Ev.getI (pc' := 89) dX12_about_86 rfl fa_RX12_455 ob_120 fk_12_93 ?_
    exact Ef.iret dX12_about_89 rfl h
  by_cases e6 : a1 = 6
  · refine Ev.tableIn (off := 89) (tgt := 90) dX12_about_1 (by rw [e6]; decide) (by rw [e6]; decide) (by rw [e6]; decide) rfl ?_
    have h := h.2.2.2.2.2.2.1 e6
    refine Ev.aload_n (k := 0) (pc' := 91) dX12_about_90 rfl rfl rfl ?_
    refine Ev.getI (pc' := 94) dX12_about_91 rfl fa_RX12_665 ob_120 fk_12_94 ?_
    exact Ef.iret dX12_about_94 rfl h
  by_cases e7 : a1 = 7
  · refine Ev.tableIn (off := 94) (tgt := 95) dX12_about_1 (by rw [e7]; decide) (by rw [e7]; decide) (by rw [e7]; decide) rfl ?_
    have h := h.2.2.2.2.2.2.2.1 e7
    refine Ev.aload_n (k := 0) (pc' := 96) dX12_about_95 rfl rfl rfl ?_
    refine Ev.getI (pc' := 99) dX12_about_96 rfl fa_RX12_196 ob_120 fk_12_1 ?_
    exact Ef.iret dX12_about_99 rfl h
  by_cases e8 : a1 = 8
  · refine Ev.tableIn (off := 99) (tgt := 100) dX12_about_1 (by rw [e8]; decide) (by rw [e8]; decide) (by rw [e8]; decide) rfl ?_
    have h := h.2.2.2.2.2.2.2.2.1 e8
    refine Ev.aload_n (k := 0) (pc' := 101) dX12_about_100 rfl rfl rfl ?_
    refine Ev.getI (pc' := 104) dX12_about_101 rfl fa_RX12_103 ob_120 fk_12_58 ?_
    exact Ef.iret dX12_about_104 rfl h
  by_cases e9 : a1 = 9
  · refine Ev.tableIn (off := 104) (tgt := 105) dX12_about_1 (by rw [e9]; decide) (by rw [e9]; decide) (by rw [e9]; decide) rfl ?_
    have h := h.2.2.2.2.2.2.2.2.2.1 e9
    refine Ev.aload_n (k := 0) (pc' := 106) dX12_about_105 rfl rfl rfl ?_
    refine Ev.getI (pc' := 109) dX12_about_106 rfl fa_RX12_449 ob_120 fk_12_21 ?_
    exact Ef.iret dX12_about_109 rfl h
  by_cases e10 : a1 = 10
  · refine Ev.tableIn (off := 109) (tgt := 110) dX12_about_1 (by rw [e10]; decide) (by rw [e10]; decide) (by rw [e10]; decide) rfl ?_
    have h := h.2.2.2.2.2.2.2.2.2.2.1 e10
    refine Ev.aload_n (k := 0) (pc' := 111) dX12_about_110 rfl rfl rfl ?_
    refine Ev.getI (pc' := 114) dX12_about_111 rfl fa_RX12_467 ob_120 fk_12_59 ?_
    exact Ef.iret dX12_about_114 rfl h
  have h := h.2.2.2.2.2.2.2.2.2.2.2 e0 e1 e2 e3 e4 e5 e6 e7 e8 e9 e10
  refine Ev.tableOut (tgt := 115) dX12_about_1 (sw_out fun v h1 h2 => ?_) rfl ?_
  · have h3 : v = 0 ∨ v = 1 ∨ v = 2 ∨ v = 3 ∨ v = 4 ∨ v = 5 ∨ v = 6 ∨ v = 7 ∨ v = 8 ∨ v = 9 ∨ v = 10 := by omega
    rcases h3 with rfl | rfl | rfl | rfl | rfl | rfl | rfl | rfl | rfl | rfl | rfl
    · exact fun q => e0 (q.trans (by decide))
    · exact fun q => e1 (q.trans (by decide))
    · exact fun q => e2 (q.trans (by decide))
    · exact fun q => e3 (q.trans (by decide))
    · exact fun q => e4 (q.trans (by decide))
    · exact fun q => e5 (q.trans (by decide))
    · exact fun q => e6 (q.trans (by decide))
    · exact fun q => e7 (q.trans (by decide))
    · exact fun q => e8 (q.trans (by decide))
    · exact fun q => e9 (q.trans (by decide))
    · exact fun q => e10 (q.trans (by decide))
  · refine Ev.iconst (pc' := 116) dX12_about_115 rfl ki_m1 ?_
    exact Ef.iret dX12_about_116 rfl h
