def wpX12_here (a1 : Int32) (I : Ix) (L : Lx) (Q : Int32 → Ix → Lx → Prop) : Prop := ((I 120 5) ≤ ((I 120 4) + a1) → Q (-1) I L) ∧ (¬ (I 120 5) ≤ ((I 120 4) + a1) → vp_in ((I 120 4) + a1) 1700 ∧ Q (I 121 ((I 120 4) + a1).toNatClampNeg) I L)
set_option maxRecDepth 10000 in
theorem okX12_here {G : Gx} {a1 : Int32} {I : Ix} {L : Lx} {Q : Int32 → Ix → Lx → Prop} (h : wpX12_here a1 I L Q) : Mf G MX12_here [.ref 120, .int a1] I L (qI Q) := by
  unfold wpX12_here at h
  refine Mf.of pn_RX12 (Nat.le_of_ble_eq_true rfl) ?_
  refine Ev.aload_n (k := 0) (pc' := 1) dX12_here_0 rfl rfl rfl ?_
  refine Ev.getI (pc' := 4) dX12_here_1 rfl fa_RX12_203 ob_120 fk_12_4 ?_
  refine Ev.iload_n (k := 1) (pc' := 5) dX12_here_4 rfl rfl rfl ?_
  refine Ev.iadd (pc' := 6) dX12_here_5 rfl ?_
  refine Ev.aload_n (k := 0) (pc' := 7) dX12_here_6 rfl rfl rfl ?_
  refine Ev.getI (pc' := 10) dX12_here_7 rfl fa_RX12_206 ob_120 fk_12_5 ?_
  refine Ev.icmp_ge (pc' := 13) (tgt := 27) dX12_here_10 rfl rfl (fun hc => ?_) (fun hc => ?_)
  · have h := h.1 hc
    refine Ev.iconst (pc' := 28) dX12_here_27 rfl ki_m1 ?_
    exact Ef.iret dX12_here_28 rfl h
  · have h := h.2 hc
    refine Ev.aload_n (k := 0) (pc' := 14) dX12_here_13 rfl rfl rfl ?_
    refine Ev.getR (pc' := 17) dX12_here_14 rfl fa_RX12_7 ob_120 fk_12_0 rf_120_0 ?_
    refine Ev.aload_n (k := 0) (pc' := 18) dX12_here_17 rfl rfl rfl ?_
    refine Ev.getI (pc' := 21) dX12_here_18 rfl fa_RX12_203 ob_120 fk_12_4 ?_
    refine Ev.iload_n (k := 1) (pc' := 22) dX12_here_21 rfl rfl rfl ?_
    refine Ev.iadd (pc' := 23) dX12_here_22 rfl ?_
    refine Ev.iaload (j := _) (pc' := 24) dX12_here_23 rfl ar_121 h.1 rfl ?_
    have h := h.2
    refine Ev.goto (tgt := 28) dX12_here_24 rfl ?_
    exact Ef.iret dX12_here_28 rfl h
def wpX12_isDigit (a0 : Int32) (I : Ix) (L : Lx) (Q : Bool → Ix → Lx → Prop) : Prop := (a0 < 48 → Q false I L) ∧ (¬ a0 < 48 → (57 < a0 → Q false I L) ∧ (¬ 57 < a0 → Q true I L))
set_option maxRecDepth 10000 in
theorem okX12_isDigit {G : Gx} {a0 : Int32} {I : Ix} {L : Lx} {Q : Bool → Ix → Lx → Prop} (h : wpX12_isDigit a0 I L Q) : Mf G MX12_isDigit [.int a0] I L (qZ Q) := by
  unfold wpX12_isDigit at h
  refine Mf.of pn_RX12 (Nat.le_of_ble_eq_true rfl) ?_
  refine Ev.iload_n (k := 0) (pc' := 1) dX12_isDigit_0 rfl rfl rfl ?_
  refine Ev.bipush (pc' := 3) dX12_isDigit_1 rfl kb_48 ?_
  refine Ev.icmp_lt (pc' := 6) (tgt := 16) dX12_isDigit_3 rfl rfl (fun hc => ?_) (fun hc => ?_)
  · have h := h.1 hc
    refine Ev.iconst (pc' := 17) dX12_isDigit_16 rfl ki_0 ?_
    exact Ef.zret (b := false) dX12_isDigit_17 rfl h
  · have h := h.2 hc
    refine Ev.iload_n (k := 0) (pc' := 7) dX12_isDigit_6 rfl rfl rfl ?_
    refine Ev.bipush (pc' := 9) dX12_isDigit_7 rfl kb_57 ?_
    refine Ev.icmp_gt (pc' := 12) (tgt := 16) dX12_isDigit_9 rfl rfl (fun hc => ?_) (fun hc => ?_)
    · have h := h.1 hc
      refine Ev.iconst (pc' := 17) dX12_isDigit_16 rfl ki_0 ?_
      exact Ef.zret (b := false) dX12_isDigit_17 rfl h
    · have h := h.2 hc
      refine Ev.iconst (pc' := 13) dX12_isDigit_12 rfl ki_1 ?_
      refine Ev.goto (tgt := 17) dX12_isDigit_13 rfl ?_
      exact Ef.zret (b := true) dX12_isDigit_17 rfl h
def wpX12_isLetter (a0 : Int32) (I : Ix) (L : Lx) (Q : Bool → Ix → Lx → Prop) : Prop := (a0 < 97 → Q false I L) ∧ (¬ a0 < 97 → (122 < a0 → Q false I L) ∧ (¬ 122 < a0 → Q true I L))
set_option maxRecDepth 10000 in
theorem okX12_isLetter {G : Gx} {a0 : Int32} {I : Ix} {L : Lx} {Q : Bool → Ix → Lx → Prop} (h : wpX12_isLetter a0 I L Q) : Mf G MX12_isLetter [.int a0] I L (qZ Q) := by
  unfold wpX12_isLetter at h
  refine Mf.of pn_RX12 (Nat.le_of_ble_eq_true rfl) ?_
  refine Ev.iload_n (k := 0) (pc' := 1) dX12_isLetter_0 rfl rfl rfl ?_
  refine Ev.bipush (pc' := 3) dX12_isLetter_1 rfl kb_97 ?_
  refine Ev.icmp_lt (pc' := 6) (tgt := 16) dX12_isLetter_3 rfl rfl (fun hc => ?_) (fun hc => ?_)
  · have h := h.1 hc
    refine Ev.iconst (pc' := 17) dX12_isLetter_16 rfl ki_0 ?_
    exact Ef.zret (b := false) dX12_isLetter_17 rfl h
  · have h := h.2 hc
    refine Ev.iload_n (k := 0) (pc' := 7) dX12_isLetter_6 rfl rfl rfl ?_
    refine Ev.bipush (pc' := 9) dX12_isLetter_7 rfl kb_122 ?_
    refine Ev.icmp_gt (pc' := 12) (tgt := 16) dX12_isLetter_9 rfl rfl (fun hc => ?_) (fun hc => ?_)
    · have h := h.1 hc
      refine Ev.iconst (pc' := 17) dX12_isLetter_16 rfl ki_0 ?_
      exact Ef.zret (b := false) dX12_isLetter_17 rfl h
    · have h := h.2 hc
      refine Ev.iconst (pc' := 13) dX12_isLetter_12 rfl ki_1 ?_
      refine Ev.goto (tgt := 17) dX12_isLetter_13 rfl ?_
      exact Ef.zret (b := true) dX12_isLetter_17 rfl h
def wpX12_isSign_b54 (Q : Bool → Ix → Lx → Prop) (I : Ix) (L : Lx) : Prop := Q true I L
def wpX12_isSign (a0 : Int32) (I : Ix) (L : Lx) (Q : Bool → Ix → Lx → Prop) : Prop := (a0 = 59 → wpX12_isSign_b54 Q I L) ∧ (¬ a0 = 59 → (a0 = 40 → wpX12_isSign_b54 Q I L) ∧ (¬ a0 = 40 → (a0 = 41 → wpX12_isSign_b54 Q I L) ∧ (¬ a0 = 41 → (a0 = 60 → wpX12_isSign_b54 Q I L) ∧ (¬ a0 = 60 → (a0 = 62 → wpX12_isSign_b54 Q I L) ∧ (¬ a0 = 62 → (a0 = 61 → wpX12_isSign_b54 Q I L) ∧ (¬ a0 = 61 → (a0 = 43 → wpX12_isSign_b54 Q I L) ∧ (¬ a0 = 43 → (a0 = 45 → wpX12_isSign_b54 Q I L) ∧ (¬ a0 = 45 → (¬ a0 = 42 → Q false I L) ∧ (a0 = 42 → wpX12_isSign_b54 Q I L)))))))))
set_option maxRecDepth 10000 in
theorem okX12_isSign_b54 {G : Gx} {Q : Bool → Ix → Lx → Prop} {I : Ix} {L : Lx} (h : wpX12_isSign_b54 Q I L) : Ef G MX12_isSign (qZ Q) 54 [] [] I L := by
  unfold wpX12_isSign_b54 at h
  refine Ev.iconst (pc' := 55) dX12_isSign_54 rfl ki_1 ?_
  refine Ev.goto (tgt := 59) dX12_isSign_55 rfl ?_
  exact Ef.zret (b := true) dX12_isSign_59 rfl h
set_option maxRecDepth 10000 in
theorem okX12_isSign {G : Gx} {a0 : Int32} {I : Ix} {L : Lx} {Q : Bool → Ix → Lx → Prop} (h : wpX12_isSign a0 I L Q) : Mf G MX12_isSign [.int a0] I L (qZ Q) := by
  unfold wpX12_isSign at h
  refine Mf.of pn_RX12 (Nat.le_of_ble_eq_true rfl) ?_
  refine Ev.iload_n (k := 0) (pc' := 1) dX12_isSign_0 rfl rfl rfl ?_
  refine Ev.bipush (pc' := 3) dX12_isSign_1 rfl kb_59 ?_
  refine Ev.icmp_eq (pc' := 6) (tgt := 54) dX12_isSign_3 rfl rfl (fun hc => ?_) (fun hc => ?_)
  · have h := h.1 hc
    exact Ev.sub [] rfl (okX12_isSign_b54 h)
  · have h := h.2 hc
    refine Ev.iload_n (k := 0) (pc' := 7) dX12_isSign_6 rfl rfl rfl ?_
    refine Ev.bipush (pc' := 9) dX12_isSign_7 rfl kb_40 ?_
    refine Ev.icmp_eq (pc' := 12) (tgt := 54) dX12_isSign_9 rfl rfl (fun hc => ?_) (fun hc => ?_)
    · have h := h.1 hc
      exact Ev.sub [] rfl (okX12_isSign_b54 h)
    · have h := h.2 hc
      refine Ev.iload_n (k := 0) (pc' := 13) dX12_isSign_12 rfl rfl rfl ?_
      refine Ev.bipush (pc' := 15) dX12_isSign_13 rfl kb_41 ?_
      refine Ev.icmp_eq (pc' := 18) (tgt := 54) dX12_isSign_15 rfl rfl (fun hc => ?_) (fun hc => ?_)
      · have h := h.1 hc
        exact Ev.sub [] rfl (okX12_isSign_b54 h)
      · have h := h.2 hc
        refine Ev.iload_n (k := 0) (pc' := 19) dX12_isSign_18 rfl rfl rfl ?_
        refine Ev.bipush (pc' := 21) dX12_isSign_19 rfl kb_60 ?_
        refine Ev.icmp_eq (pc' := 24) (tgt := 54) dX12_isSign_21 rfl rfl (fun hc => ?_) (fun hc => ?_)
        · have h := h.1 hc
          exact Ev.sub [] rfl (okX12_isSign_b54 h)
        · have h := h.2 hc
          refine Ev.iload_n (k := 0) (pc' := 25) dX12_isSign_24 rfl rfl rfl ?_
          refine Ev.bipush (pc' := 27) dX12_isSign_25 rfl kb_62 ?_
          refine Ev.icmp_eq (pc' := 30) (tgt := 54) dX12_isSign_27 rfl rfl (fun hc => ?_) (fun hc => ?_)
          · have h := h.1 hc
            exact Ev.sub [] rfl (okX12_isSign_b54 h)
          · have h := h.2 hc
            refine Ev.iload_n (k := 0) (pc' := 31) dX12_isSign_30 rfl rfl rfl ?_
            refine Ev.bipush (pc' := 33) dX12_isSign_31 rfl kb_61 ?_
            refine Ev.icmp_eq (pc' := 36) (tgt := 54) dX12_isSign_33 rfl rfl (fun hc => ?_) (fun hc => ?_)
            · have h := h.1 hc
              exact Ev.sub [] rfl (okX12_isSign_b54 h)
            · have h := h.2 hc
              refine Ev.iload_n (k := 0) (pc' := 37) dX12_isSign_36 rfl rfl rfl ?_
              refine Ev.bipush (pc' := 39) dX12_isSign_37 rfl kb_43 ?_
              refine Ev.icmp_eq (pc' := 42) (tgt := 54) dX12_isSign_39 rfl rfl (fun hc => ?_) (fun hc => ?_)
              · have h := h.1 hc
                exact Ev.sub [] rfl (okX12_isSign_b54 h)
              · have h := h.2 hc
                refine Ev.iload_n (k := 0) (pc' := 43) dX12_isSign_42 rfl rfl rfl ?_
                refine Ev.bipush (pc' := 45) dX12_isSign_43 rfl kb_45 ?_
                refine Ev.icmp_eq (pc' := 48) (tgt := 54) dX12_isSign_45 rfl rfl (fun hc => ?_) (fun hc => ?_)
                · have h := h.1 hc
                  exact Ev.sub [] rfl (okX12_isSign_b54 h)
                · have h := h.2 hc
                  refine Ev.iload_n (k := 0) (pc' := 49) dX12_isSign_48 rfl rfl rfl ?_
                  refine Ev.bipush (pc' := 51) dX12_isSign_49 rfl kb_42 ?_
                  refine Ev.icmp_ne (pc' := 54) (tgt := 58) dX12_isSign_51 rfl rfl (fun hc => ?_) (fun hc => ?_)
                  · have h := h.1 hc
                    refine Ev.iconst (pc' := 59) dX12_isSign_58 rfl ki_0 ?_
                    exact Ef.zret (b := false) dX12_isSign_59 rfl h
                  · have h := h.2 hc
                    exact Ev.sub [] rfl (okX12_isSign_b54 h)
def wpX12_token_b232 (Q : Ix → Lx → Prop) (v2 : Int32) (I : Ix) (L : Lx) : Prop := ((I 120 6) = 3 → Q I L) ∧ (¬ (I 120 6) = 3 → ∀ I1 : Ix, I1 = pu I 120 4 ((I 120 4) + v2) → Q I1 L)
def wpX12_token_b229 (Q : Ix → Lx → Prop) (v2 : Int32) (t1 : Int32) (I : Ix) (L : Lx) : Prop := ∀ I1 : Ix, I1 = pu I 120 6 t1 → wpX12_token_b232 Q v2 I1 L
def wpX12_token_b208 (Q : Ix → Lx → Prop) (v2 : Int32) (t1 : Int32) (I : Ix) (L : Lx) : Prop := ∀ I1 : Ix, I1 = pu I 120 6 t1 → wpX12_token_b232 Q v2 I1 L
def wpX12_token_b203 (Q : Ix → Lx → Prop) (v2 : Int32) (I : Ix) (L : Lx) : Prop := wpX12_token_b208 Q v2 3 I L
def wpX12_token_l144 (Q : Ix → Lx → Prop) (P144 : Int32 → Ix → Lx → Prop) (v2 : Int32) (I : Ix) (L : Lx) : Prop := wpX12_here v2 I L (fun r3 I1 L2 => wpX12_isDigit r3 I1 L2 (fun r6 I4 L5 => (r6 = false → (4 < v2 → wpX12_token_b203 Q v2 I4 L5) ∧ (¬ 4 < v2 → wpX12_here v2 I4 L5 (fun r9 I7 L8 => wpX12_isLetter r9 I7 L8 (fun r12 I10 L11 => (r12 = false → wpX12_token_b208 Q v2 2 I10 L11) ∧ (r12 = true → wpX12_token_b203 Q v2 I10 L11))))) ∧ (r6 = true → (4 ≤ v2 → P144 (v2 + 1) I4 L5) ∧ (¬ 4 ≤ v2 → wpX12_here v2 I4 L5 (fun r15 I13 L14 => ∀ I16 : Ix, I16 = pu I13 120 8 (((10 * (I4 120 8)) + r15) - 48) → P144 (v2 + 1) I16 L14)))))
def wpX12_token_h144 (Q : Ix → Lx → Prop) (v2 : Int32) (I : Ix) (L : Lx) : Prop := Lfp (X := Int32 × Ix × Lx) (fun P z => wpX12_token_l144 Q (fun v2 I L => P (v2, I, L)) z.1 z.2.1 z.2.2) (v2, I, L)
theorem wpX12_token_h144_fold {Q : Ix → Lx → Prop} {v2 : Int32} {I : Ix} {L : Lx} (h : wpX12_token_l144 Q (wpX12_token_h144 Q) v2 I L) : wpX12_token_h144 Q v2 I L := Lfp.fold h
def wpX12_token_b131 (Q : Ix → Lx → Prop) (v2 : Int32) (t1 : Int32) (I : Ix) (L : Lx) : Prop := ∀ I1 : Ix, I1 = pu I 120 6 t1 → wpX12_token_b232 Q v2 I1 L
def wpX12_token_l78 (Q : Ix → Lx → Prop) (P78 : Int32 → Ix → Lx → Prop) (v2 : Int32) (I : Ix) (L : Lx) : Prop := wpX12_here v2 I L (fun r3 I1 L2 => wpX12_isLetter r3 I1 L2 (fun r6 I4 L5 => (r6 = false → (v2 ≤ 8 → wpX12_token_b131 Q v2 1 I4 L5) ∧ (¬ v2 ≤ 8 → wpX12_token_b131 Q v2 3 I4 L5)) ∧ (r6 = true → (8 ≤ v2 → P78 (v2 + 1) I4 L5) ∧ (¬ 8 ≤ v2 → wpX12_here v2 I4 L5 (fun r9 I7 L8 => ∀ L10 : Lx, L10 = pu L8 120 9 ((jlshl (L5 120 9) 8) ||| (r9.toInt64)) → P78 (v2 + 1) I7 L10)))))
def wpX12_token_h78 (Q : Ix → Lx → Prop) (v2 : Int32) (I : Ix) (L : Lx) : Prop := Lfp (X := Int32 × Ix × Lx) (fun P z => wpX12_token_l78 Q (fun v2 I L => P (v2, I, L)) z.1 z.2.1 z.2.2) (v2, I, L)
theorem wpX12_token_h78_fold {Q : Ix → Lx → Prop} {v2 : Int32} {I : Ix} {L : Lx} (h : wpX12_token_l78 Q (wpX12_token_h78 Q) v2 I L) : wpX12_token_h78 Q v2 I L := Lfp.fold h
def wpX12_token_b20 (Q : Ix → Lx → Prop) (P0 : Ix → Lx → Prop) (I : Ix) (L : Lx) : Prop := ∀ I1 : Ix, I1 = pu I 120 4 ((I 120 4) + 1) → P0 I1 L
def wpX12_token_l0 (Q : Ix → Lx → Prop) (P0 : Ix → Lx → Prop) (I : Ix) (L : Lx) : Prop := wpX12_here 0 I L (fun r3 I1 L2 => (r3 = 32 → wpX12_token_b20 Q P0 I1 L2) ∧ (¬ r3 = 32 → wpX12_here 0 I1 L2 (fun r6 I4 L5 => (¬ r6 = 10 → ∀ I7 : Ix, I7 = pu I4 120 7 (I4 120 4) → wpX12_here 0 I7 L5 (fun r10 I8 L9 => ∀ L11 : Lx, L11 = pu L9 120 9 0 → ∀ I12 : Ix, I12 = pu I8 120 8 0 → (0 ≤ r10 → wpX12_isLetter r10 I12 L11 (fun r15 I13 L14 => (r15 = false → wpX12_isDigit r10 I13 L14 (fun r18 I16 L17 => (r18 = false → wpX12_isSign r10 I16 L17 (fun r21 I19 L20 => (r21 = false → wpX12_token_b229 Q 1 3 I19 L20) ∧ (r21 = true → wpX12_token_b229 Q 1 r10 I19 L20))) ∧ (r18 = true → wpX12_token_h144 Q 0 I16 L17))) ∧ (r15 = true → wpX12_token_h78 Q 0 I13 L14))) ∧ (¬ 0 ≤ r10 → ∀ I22 : Ix, I22 = pu I12 120 6 0 → wpX12_token_b232 Q 0 I22 L11))) ∧ (r6 = 10 → wpX12_token_b20 Q P0 I4 L5))))
def wpX12_token_h0 (Q : Ix → Lx → Prop) (I : Ix) (L : Lx) : Prop := Lfp (X := Ix × Lx) (fun P z => wpX12_token_l0 Q (fun I L => P (I, L)) z.1 z.2) (I, L)
theorem wpX12_token_h0_fold {Q : Ix → Lx → Prop} {I : Ix} {L : Lx} (h : wpX12_token_l0 Q (wpX12_token_h0 Q) I L) : wpX12_token_h0 Q I L := Lfp.fold h
def wpX12_token (I : Ix) (L : Lx) (Q : Ix → Lx → Prop) : Prop := wpX12_token_h0 Q I L
set_option maxRecDepth 10000 in
theorem okX12_token_b232 {G : Gx} {Q : Ix → Lx → Prop} {v2 : Int32} {I : Ix} {L : Lx} (h : wpX12_token_b232 Q v2 I L) : Ef G MX12_token (qV Q) 232 [(0, .ref 120), (2, .int v2)] [] I L := by
  unfold wpX12_token_b232 at h
  refine Ev.aload_n (k := 0) (pc' := 233) dX12_token_232 rfl rfl rfl ?_
  refine Ev.getI (pc' := 236) dX12_token_233 rfl fa_RX12_223 ob_120 fk_12_6 ?_
  refine Ev.iconst (pc' := 237) dX12_token_236 rfl ki_3 ?_
  refine Ev.icmp_eq (pc' := 240) (tgt := 250) dX12_token_237 rfl rfl (fun hc => ?_) (fun hc => ?_)
  · have h := h.1 hc
    exact Ef.vret dX12_token_250 rfl h
  · have h := h.2 hc
    refine Ev.aload_n (k := 0) (pc' := 241) dX12_token_240 rfl rfl rfl ?_
    refine Ev.dup (pc' := 242) dX12_token_241 rfl rfl ?_
    refine Ev.getI (pc' := 245) dX12_token_242 rfl fa_RX12_203 ob_120 fk_12_4 ?_
    refine Ev.iload_n (k := 1) (pc' := 246) dX12_token_245 rfl rfl rfl ?_
    refine Ev.iadd (pc' := 247) dX12_token_246 rfl ?_
    refine Ev.putI (pc' := 250) dX12_token_247 rfl fa_RX12_203 ob_120 fk_12_4 rfl rfl (fun I1 eI1 => ?_)
    have h := h I1 eI1
    exact Ef.vret dX12_token_250 rfl h
set_option maxRecDepth 10000 in
theorem okX12_token_b229 {G : Gx} {Q : Ix → Lx → Prop} {v2 : Int32} {t1 : Int32} {I : Ix} {L : Lx} (h : wpX12_token_b229 Q v2 t1 I L) : Ef G MX12_token (qV Q) 229 [(0, .ref 120), (2, .int v2)] [.int t1, .ref 120] I L := by
  unfold wpX12_token_b229 at h
  refine Ev.putI (pc' := 232) dX12_token_229 rfl fa_RX12_223 ob_120 fk_12_6 rfl rfl (fun I1 eI1 => ?_)
  have h := h I1 eI1
  exact okX12_token_b232 h
set_option maxRecDepth 10000 in
theorem okX12_token_b208 {G : Gx} {Q : Ix → Lx → Prop} {v2 : Int32} {t1 : Int32} {I : Ix} {L : Lx} (h : wpX12_token_b208 Q v2 t1 I L) : Ef G MX12_token (qV Q) 208 [(0, .ref 120), (2, .int v2)] [.int t1, .ref 120] I L := by
  unfold wpX12_token_b208 at h
  refine Ev.putI (pc' := 211) dX12_token_208 rfl fa_RX12_223 ob_120 fk_12_6 rfl rfl (fun I1 eI1 => ?_)
  have h := h I1 eI1
  refine Ev.goto (tgt := 232) dX12_token_211 rfl ?_
  exact okX12_token_b232 h
set_option maxRecDepth 10000 in
theorem okX12_token_b203 {G : Gx} {Q : Ix → Lx → Prop} {v2 : Int32} {I : Ix} {L : Lx} (h : wpX12_token_b203 Q v2 I L) : Ef G MX12_token (qV Q) 203 [(0, .ref 120), (2, .int v2)] [.ref 120] I L := by
  unfold wpX12_token_b203 at h
  refine Ev.iconst (pc' := 204) dX12_token_203 rfl ki_3 ?_
  refine Ev.goto (tgt := 208) dX12_token_204 rfl ?_
  exact okX12_token_b208 h
set_option maxRecDepth 10000 in
theorem okX12_token_l144 {G : Gx} {Q : Ix → Lx → Prop} {P144 : Int32 → Ix → Lx → Prop} (hP144 : ∀ (v2 : Int32) (I : Ix) (L : Lx), P144 v2 I L → Ef G MX12_token (qV Q) 144 [(0, .ref 120), (2, .int v2)] [] I L) {v2 : Int32} {I : Ix} {L : Lx} (h : wpX12_token_l144 Q P144 v2 I L) : Ef G MX12_token (qV Q) 144 [(0, .ref 120), (2, .int v2)] [] I L := by
  unfold wpX12_token_l144 at h
  refine Ev.aload_n (k := 0) (pc' := 145) dX12_token_144 rfl rfl rfl ?_
  refine Ev.iload_n (k := 1) (pc' := 146) dX12_token_145 rfl rfl rfl ?_
  refine Ef.callVI [.int _] [] (pc' := 149) dX12_token_146 rfl cv_RX12_209_X12_here ⟨Nat.le_of_ble_eq_true rfl, Nat.le_of_ble_eq_true rfl⟩ ob_120 rfl rfl rfl (Nat.le_of_ble_eq_true rfl) (okX12_here h) (fun r3 I1 L2 h => ?_)
  refine Ef.callSZ [.int _] [] (pc' := 152) dX12_token_149 rfl cv_RX12_230_X12_isDigit ⟨Nat.le_of_ble_eq_true rfl, Nat.le_of_ble_eq_true rfl⟩ rfl rfl (Nat.le_of_ble_eq_true rfl) (okX12_isDigit h) (fun r6 I4 L5 h => ?_)
  refine Ef.ifz_eq (pc' := 155) (tgt := 186) dX12_token_152 rfl rfl (fun hc => ?_) (fun hc => ?_)
  · have h := h.1 hc
    refine Ev.aload_n (k := 0) (pc' := 187) dX12_token_186 rfl rfl rfl ?_
    refine Ev.iload_n (k := 1) (pc' := 188) dX12_token_187 rfl rfl rfl ?_
    refine Ev.iconst (pc' := 189) dX12_token_188 rfl ki_4 ?_
    refine Ev.icmp_gt (pc' := 192) (tgt := 203) dX12_token_189 rfl rfl (fun hc => ?_) (fun hc => ?_)
    · have h := h.1 hc
      exact okX12_token_b203 h
    · have h := h.2 hc
      refine Ev.aload_n (k := 0) (pc' := 193) dX12_token_192 rfl rfl rfl ?_
      refine Ev.iload_n (k := 1) (pc' := 194) dX12_token_193 rfl rfl rfl ?_
      refine Ef.callVI [.int _] [.ref _] (pc' := 197) dX12_token_194 rfl cv_RX12_209_X12_here ⟨Nat.le_of_ble_eq_true rfl, Nat.le_of_ble_eq_true rfl⟩ ob_120 rfl rfl rfl (Nat.le_of_ble_eq_true rfl) (okX12_here h) (fun r9 I7 L8 h => ?_)
      refine Ef.callSZ [.int _] [.ref _] (pc' := 200) dX12_token_197 rfl cv_RX12_226_X12_isLetter ⟨Nat.le_of_ble_eq_true rfl, Nat.le_of_ble_eq_true rfl⟩ rfl rfl (Nat.le_of_ble_eq_true rfl) (okX12_isLetter h) (fun r12 I10 L11 h => ?_)
      refine Ef.ifz_eq (pc' := 203) (tgt := 207) dX12_token_200 rfl rfl (fun hc => ?_) (fun hc => ?_)
      · have h := h.1 hc
        refine Ev.iconst (pc' := 208) dX12_token_207 rfl ki_2 ?_
        exact okX12_token_b208 h
      · have h := h.2 hc
        exact okX12_token_b203 h
  · have h := h.2 hc
    refine Ev.iload_n (k := 1) (pc' := 156) dX12_token_155 rfl rfl rfl ?_
    refine Ev.iconst (pc' := 157) dX12_token_156 rfl ki_4 ?_
    refine Ev.icmp_ge (pc' := 160) (tgt := 180) dX12_token_157 rfl rfl (fun hc => ?_) (fun hc => ?_)
    · have h := h.1 hc
      refine Ev.iinc (k := 1) (v := _) (ls' := [(2, .int _), (0, .ref _)]) (pc' := 183) dX12_token_180 rfl rfl (congrArg (_ + ·) ki_1) (Nat.le_of_ble_eq_true rfl) rfl ?_
      refine Ev.goto (tgt := 144) dX12_token_183 rfl ?_
      exact Ev.sub [1, 0] rfl (hP144 _ _ _ h)
    · have h := h.2 hc
      refine Ev.aload_n (k := 0) (pc' := 161) dX12_token_160 rfl rfl rfl ?_
      refine Ev.bipush (pc' := 163) dX12_token_161 rfl kb_10 ?_
      refine Ev.aload_n (k := 0) (pc' := 164) dX12_token_163 rfl rfl rfl ?_
      refine Ev.getI (pc' := 167) dX12_token_164 rfl fa_RX12_220 ob_120 fk_12_8 ?_
      refine Ev.imul (pc' := 168) dX12_token_167 rfl ?_
      refine Ev.aload_n (k := 0) (pc' := 169) dX12_token_168 rfl rfl rfl ?_
      refine Ev.iload_n (k := 1) (pc' := 170) dX12_token_169 rfl rfl rfl ?_
      refine Ef.callVI [.int _] [.int _, .ref _] (pc' := 173) dX12_token_170 rfl cv_RX12_209_X12_here ⟨Nat.le_of_ble_eq_true rfl, Nat.le_of_ble_eq_true rfl⟩ ob_120 rfl rfl rfl (Nat.le_of_ble_eq_true rfl) (okX12_here h) (fun r15 I13 L14 h => ?_)
      refine Ev.iadd (pc' := 174) dX12_token_173 rfl ?_
      refine Ev.bipush (pc' := 176) dX12_token_174 rfl kb_48 ?_
      refine Ev.isub (pc' := 177) dX12_token_176 rfl ?_
      refine Ev.putI (pc' := 180) dX12_token_177 rfl fa_RX12_220 ob_120 fk_12_8 rfl rfl (fun I16 eI16 => ?_)
      have h := h I16 eI16
      refine Ev.iinc (k := 1) (v := _) (ls' := [(2, .int _), (0, .ref _)]) (pc' := 183) dX12_token_180 rfl rfl (congrArg (_ + ·) ki_1) (Nat.le_of_ble_eq_true rfl) rfl ?_
      refine Ev.goto (tgt := 144) dX12_token_183 rfl ?_
      exact Ev.sub [1, 0] rfl (hP144 _ _ _ h)
set_option maxRecDepth 10000 in
theorem okX12_token_h144 {G : Gx} {Q : Ix → Lx → Prop} {v2 : Int32} {I : Ix} {L : Lx} (h : wpX12_token_h144 Q v2 I L) : Ef G MX12_token (qV Q) 144 [(0, .ref 120), (2, .int v2)] [] I L := by
  unfold wpX12_token_h144 at h
  refine Lfp.ind (P := fun z => Ef G MX12_token (qV Q) 144 [(0, .ref 120), (2, .int z.1)] [] z.2.1 z.2.2) ?_ h
  intro z P' hP' h
  obtain ⟨v2, I, L⟩ := z
  exact okX12_token_l144 (fun v2 I L h9 => hP' (v2, I, L) h9) h
set_option maxRecDepth 10000 in
theorem okX12_token_b131 {G : Gx} {Q : Ix → Lx → Prop} {v2 : Int32} {t1 : Int32} {I : Ix} {L : Lx} (h : wpX12_token_b131 Q v2 t1 I L) : Ef G MX12_token (qV Q) 131 [(0, .ref 120), (2, .int v2)] [.int t1, .ref 120] I L := by
  unfold wpX12_token_b131 at h
  refine Ev.putI (pc' := 134) dX12_token_131 rfl fa_RX12_223 ob_120 fk_12_6 rfl rfl (fun I1 eI1 => ?_)
  have h := h I1 eI1
  refine Ev.goto (tgt := 232) dX12_token_134 rfl ?_
  exact okX12_token_b232 h
set_option maxRecDepth 10000 in
theorem okX12_token_l78 {G : Gx} {Q : Ix → Lx → Prop} {P78 : Int32 → Ix → Lx → Prop} (hP78 : ∀ (v2 : Int32) (I : Ix) (L : Lx), P78 v2 I L → Ef G MX12_token (qV Q) 78 [(0, .ref 120), (2, .int v2)] [] I L) {v2 : Int32} {I : Ix} {L : Lx} (h : wpX12_token_l78 Q P78 v2 I L) : Ef G MX12_token (qV Q) 78 [(0, .ref 120), (2, .int v2)] [] I L := by
  unfold wpX12_token_l78 at h
  refine Ev.aload_n (k := 0) (pc' := 79) dX12_token_78 rfl rfl rfl ?_
  refine Ev.iload_n (k := 1) (pc' := 80) dX12_token_79 rfl rfl rfl ?_
  refine Ef.callVI [.int _] [] (pc' := 83) dX12_token_80 rfl cv_RX12_209_X12_here ⟨Nat.le_of_ble_eq_true rfl, Nat.le_of_ble_eq_true rfl⟩ ob_120 rfl rfl rfl (Nat.le_of_ble_eq_true rfl) (okX12_here h) (fun r3 I1 L2 h => ?_)
  refine Ef.callSZ [.int _] [] (pc' := 86) dX12_token_83 rfl cv_RX12_226_X12_isLetter ⟨Nat.le_of_ble_eq_true rfl, Nat.le_of_ble_eq_true rfl⟩ rfl rfl (Nat.le_of_ble_eq_true rfl) (okX12_isLetter h) (fun r6 I4 L5 h => ?_)
  refine Ef.ifz_eq (pc' := 89) (tgt := 119) dX12_token_86 rfl rfl (fun hc => ?_) (fun hc => ?_)
  · have h := h.1 hc
    refine Ev.aload_n (k := 0) (pc' := 120) dX12_token_119 rfl rfl rfl ?_
    refine Ev.iload_n (k := 1) (pc' := 121) dX12_token_120 rfl rfl rfl ?_
    refine Ev.bipush (pc' := 123) dX12_token_121 rfl kb_8 ?_
    refine Ev.icmp_le (pc' := 126) (tgt := 130) dX12_token_123 rfl rfl (fun hc => ?_) (fun hc => ?_)
    · have h := h.1 hc
      refine Ev.iconst (pc' := 131) dX12_token_130 rfl ki_1 ?_
      exact okX12_token_b131 h
    · have h := h.2 hc
      refine Ev.iconst (pc' := 127) dX12_token_126 rfl ki_3 ?_
      refine Ev.goto (tgt := 131) dX12_token_127 rfl ?_
      exact okX12_token_b131 h
  · have h := h.2 hc
    refine Ev.iload_n (k := 1) (pc' := 90) dX12_token_89 rfl rfl rfl ?_
    refine Ev.bipush (pc' := 92) dX12_token_90 rfl kb_8 ?_
    refine Ev.icmp_ge (pc' := 95) (tgt := 113) dX12_token_92 rfl rfl (fun hc => ?_) (fun hc => ?_)
    · have h := h.1 hc
      refine Ev.iinc (k := 1) (v := _) (ls' := [(2, .int _), (0, .ref _)]) (pc' := 116) dX12_token_113 rfl rfl (congrArg (_ + ·) ki_1) (Nat.le_of_ble_eq_true rfl) rfl ?_
      refine Ev.goto (tgt := 78) dX12_token_116 rfl ?_
      exact Ev.sub [1, 0] rfl (hP78 _ _ _ h)
    · have h := h.2 hc
      refine Ev.aload_n (k := 0) (pc' := 96) dX12_token_95 rfl rfl rfl ?_
      refine Ev.aload_n (k := 0) (pc' := 97) dX12_token_96 rfl rfl rfl ?_
      refine Ev.getL (pc' := 100) dX12_token_97 rfl fa_RX12_216 ob_120 fk_12_9 ?_
      refine Ev.bipush (pc' := 102) dX12_token_100 rfl kb_8 ?_
      refine Ev.lshl (pc' := 103) dX12_token_102 rfl ?_
      refine Ev.aload_n (k := 0) (pc' := 104) dX12_token_103 rfl rfl rfl ?_
      refine Ev.iload_n (k := 1) (pc' := 105) dX12_token_104 rfl rfl rfl ?_
      refine Ef.callVI [.int _] [.long _, .ref _] (pc' := 108) dX12_token_105 rfl cv_RX12_209_X12_here ⟨Nat.le_of_ble_eq_true rfl, Nat.le_of_ble_eq_true rfl⟩ ob_120 rfl rfl rfl (Nat.le_of_ble_eq_true rfl) (okX12_here h) (fun r9 I7 L8 h => ?_)
      refine Ev.i2l (pc' := 109) dX12_token_108 rfl ?_
      refine Ev.lor (pc' := 110) dX12_token_109 rfl ?_
      refine Ev.putL (pc' := 113) dX12_token_110 rfl fa_RX12_216 ob_120 fk_12_9 (fun L10 eL10 => ?_)
      have h := h L10 eL10
      refine Ev.iinc (k := 1) (v := _) (ls' := [(2, .int _), (0, .ref _)]) (pc' := 116) dX12_token_113 rfl rfl (congrArg (_ + ·) ki_1) (Nat.le_of_ble_eq_true rfl) rfl ?_
      refine Ev.goto (tgt := 78) dX12_token_116 rfl ?_
      exact Ev.sub [1, 0] rfl (hP78 _ _ _ h)
set_option maxRecDepth 10000 in
theorem okX12_token_h78 {G : Gx} {Q : Ix → Lx → Prop} {v2 : Int32} {I : Ix} {L : Lx} (h : wpX12_token_h78 Q v2 I L) : Ef G MX12_token (qV Q) 78 [(0, .ref 120), (2, .int v2)] [] I L := by
  unfold wpX12_token_h78 at h
  refine Lfp.ind (P := fun z => Ef G MX12_token (qV Q) 78 [(0, .ref 120), (2, .int z.1)] [] z.2.1 z.2.2) ?_ h
  intro z P' hP' h
  obtain ⟨v2, I, L⟩ := z
  exact okX12_token_l78 (fun v2 I L h9 => hP' (v2, I, L) h9) h
set_option maxRecDepth 10000 in
theorem okX12_token_b20 {G : Gx} {Q : Ix → Lx → Prop} {P0 : Ix → Lx → Prop} (hP0 : ∀ (I : Ix) (L : Lx), P0 I L → Ef G MX12_token (qV Q) 0 [(0, .ref 120)] [] I L) {I : Ix} {L : Lx} (h : wpX12_token_b20 Q P0 I L) : Ef G MX12_token (qV Q) 20 [(0, .ref 120)] [] I L := by
  unfold wpX12_token_b20 at h
  refine Ev.aload_n (k := 0) (pc' := 21) dX12_token_20 rfl rfl rfl ?_
  refine Ev.dup (pc' := 22) dX12_token_21 rfl rfl ?_
  refine Ev.getI (pc' := 25) dX12_token_22 rfl fa_RX12_203 ob_120 fk_12_4 ?_
  refine Ev.iconst (pc' := 26) dX12_token_25 rfl ki_1 ?_
  refine Ev.iadd (pc' := 27) dX12_token_26 rfl ?_
  refine Ev.putI (pc' := 30) dX12_token_27 rfl fa_RX12_203 ob_120 fk_12_4 rfl rfl (fun I1 eI1 => ?_)
  have h := h I1 eI1
  refine Ev.goto (tgt := 0) dX12_token_30 rfl ?_
  exact hP0 _ _ h
set_option maxRecDepth 10000 in
theorem okX12_token_l0 {G : Gx} {Q : Ix → Lx → Prop} {P0 : Ix → Lx → Prop} (hP0 : ∀ (I : Ix) (L : Lx), P0 I L → Ef G MX12_token (qV Q) 0 [(0, .ref 120)] [] I L) {I : Ix} {L : Lx} (h : wpX12_token_l0 Q P0 I L) : Ef G MX12_token (qV Q) 0 [(0, .ref 120)] [] I L := by
  unfold wpX12_token_l0 at h
  refine Ev.aload_n (k := 0) (pc' := 1) dX12_token_0 rfl rfl rfl ?_
  refine Ev.iconst (pc' := 2) dX12_token_1 rfl ki_0 ?_
  refine Ef.callVI [.int _] [] (pc' := 5) dX12_token_2 rfl cv_RX12_209_X12_here ⟨Nat.le_of_ble_eq_true rfl, Nat.le_of_ble_eq_true rfl⟩ ob_120 rfl rfl rfl (Nat.le_of_ble_eq_true rfl) (okX12_here h) (fun r3 I1 L2 h => ?_)
  refine Ev.bipush (pc' := 7) dX12_token_5 rfl kb_32 ?_
  refine Ev.icmp_eq (pc' := 10) (tgt := 20) dX12_token_7 rfl rfl (fun hc => ?_) (fun hc => ?_)
  · have h := h.1 hc
    exact okX12_token_b20 hP0 h
  · have h := h.2 hc
    refine Ev.aload_n (k := 0) (pc' := 11) dX12_token_10 rfl rfl rfl ?_
    refine Ev.iconst (pc' := 12) dX12_token_11 rfl ki_0 ?_
    refine Ef.callVI [.int _] [] (pc' := 15) dX12_token_12 rfl cv_RX12_209_X12_here ⟨Nat.le_of_ble_eq_true rfl, Nat.le_of_ble_eq_true rfl⟩ ob_120 rfl rfl rfl (Nat.le_of_ble_eq_true rfl) (okX12_here h) (fun r6 I4 L5 h => ?_)
    refine Ev.bipush (pc' := 17) dX12_token_15 rfl kb_10 ?_
    refine Ev.icmp_ne (pc' := 20) (tgt := 33) dX12_token_17 rfl rfl (fun hc => ?_) (fun hc => ?_)
    · have h := h.1 hc
      refine Ev.aload_n (k := 0) (pc' := 34) dX12_token_33 rfl rfl rfl ?_
      refine Ev.aload_n (k := 0) (pc' := 35) dX12_token_34 rfl rfl rfl ?_
      refine Ev.getI (pc' := 38) dX12_token_35 rfl fa_RX12_203 ob_120 fk_12_4 ?_
      refine Ev.putI (pc' := 41) dX12_token_38 rfl fa_RX12_213 ob_120 fk_12_7 rfl rfl (fun I7 eI7 => ?_)
      have h := h I7 eI7
      refine Ev.aload_n (k := 0) (pc' := 42) dX12_token_41 rfl rfl rfl ?_
      refine Ev.iconst (pc' := 43) dX12_token_42 rfl ki_0 ?_
      refine Ef.callVI [.int _] [] (pc' := 46) dX12_token_43 rfl cv_RX12_209_X12_here ⟨Nat.le_of_ble_eq_true rfl, Nat.le_of_ble_eq_true rfl⟩ ob_120 rfl rfl rfl (Nat.le_of_ble_eq_true rfl) (okX12_here h) (fun r10 I8 L9 h => ?_)
      refine Ev.istore_n (ls' := [(1, .int _), (0, .ref _)]) (pc' := 47) dX12_token_46 rfl rfl (Nat.le_of_ble_eq_true rfl) rfl ?_
      refine Ev.iconst (pc' := 48) dX12_token_47 rfl ki_0 ?_
      refine Ev.istore_n (ls' := [(2, .int _), (1, .int _), (0, .ref _)]) (pc' := 49) dX12_token_48 rfl rfl (Nat.le_of_ble_eq_true rfl) rfl ?_
      refine Ev.aload_n (k := 2) (pc' := 50) dX12_token_49 rfl rfl rfl ?_
      refine Ev.lconst (v := 0) (pc' := 51) dX12_token_50 rfl rfl ?_
      refine Ev.putL (pc' := 54) dX12_token_51 rfl fa_RX12_216 ob_120 fk_12_9 (fun L11 eL11 => ?_)
      have h := h L11 eL11
      refine Ev.aload_n (k := 2) (pc' := 55) dX12_token_54 rfl rfl rfl ?_
      refine Ev.iconst (pc' := 56) dX12_token_55 rfl ki_0 ?_
      refine Ev.putI (pc' := 59) dX12_token_56 rfl fa_RX12_220 ob_120 fk_12_8 rfl rfl (fun I12 eI12 => ?_)
      have h := h I12 eI12
      refine Ev.iload_n (k := 1) (pc' := 60) dX12_token_59 rfl rfl rfl ?_
      refine Ev.if_ge (pc' := 63) (tgt := 71) dX12_token_60 rfl rfl (fun hc => ?_) (fun hc => ?_)
      · have h := h.1 hc
        refine Ev.iload_n (k := 1) (pc' := 72) dX12_token_71 rfl rfl rfl ?_
        refine Ef.callSZ [.int _] [] (pc' := 75) dX12_token_72 rfl cv_RX12_226_X12_isLetter ⟨Nat.le_of_ble_eq_true rfl, Nat.le_of_ble_eq_true rfl⟩ rfl rfl (Nat.le_of_ble_eq_true rfl) (okX12_isLetter h) (fun r15 I13 L14 h => ?_)
        refine Ef.ifz_eq (pc' := 78) (tgt := 137) dX12_token_75 rfl rfl (fun hc => ?_) (fun hc => ?_)
        · have h := h.1 hc
          refine Ev.iload_n (k := 1) (pc' := 138) dX12_token_137 rfl rfl rfl ?_
          refine Ef.callSZ [.int _] [] (pc' := 141) dX12_token_138 rfl cv_RX12_230_X12_isDigit ⟨Nat.le_of_ble_eq_true rfl, Nat.le_of_ble_eq_true rfl⟩ rfl rfl (Nat.le_of_ble_eq_true rfl) (okX12_isDigit h) (fun r18 I16 L17 h => ?_)
          refine Ef.ifz_eq (pc' := 144) (tgt := 214) dX12_token_141 rfl rfl (fun hc => ?_) (fun hc => ?_)
          · have h := h.1 hc
            refine Ev.iconst (pc' := 215) dX12_token_214 rfl ki_1 ?_
            refine Ev.istore_n (ls' := [(2, .int _), (1, .int _), (0, .ref _)]) (pc' := 216) dX12_token_215 rfl rfl (Nat.le_of_ble_eq_true rfl) rfl ?_
            refine Ev.aload_n (k := 2) (pc' := 217) dX12_token_216 rfl rfl rfl ?_
            refine Ev.iload_n (k := 1) (pc' := 218) dX12_token_217 rfl rfl rfl ?_
            refine Ef.callSZ [.int _] [.ref _] (pc' := 221) dX12_token_218 rfl cv_RX12_233_X12_isSign ⟨Nat.le_of_ble_eq_true rfl, Nat.le_of_ble_eq_true rfl⟩ rfl rfl (Nat.le_of_ble_eq_true rfl) (okX12_isSign h) (fun r21 I19 L20 h => ?_)
            refine Ef.ifz_eq (pc' := 224) (tgt := 228) dX12_token_221 rfl rfl (fun hc => ?_) (fun hc => ?_)
            · have h := h.1 hc
              refine Ev.iconst (pc' := 229) dX12_token_228 rfl ki_3 ?_
              exact Ev.sub [2, 0] rfl (okX12_token_b229 h)
            · have h := h.2 hc
              refine Ev.iload_n (k := 1) (pc' := 225) dX12_token_224 rfl rfl rfl ?_
              refine Ev.goto (tgt := 229) dX12_token_225 rfl ?_
              exact Ev.sub [2, 0] rfl (okX12_token_b229 h)
          · have h := h.2 hc
            exact Ev.sub [2, 0] rfl (okX12_token_h144 h)
        · have h := h.2 hc
          exact Ev.sub [2, 0] rfl (okX12_token_h78 h)
      · have h := h.2 hc
        refine Ev.aload_n (k := 2) (pc' := 64) dX12_token_63 rfl rfl rfl ?_
        refine Ev.iconst (pc' := 65) dX12_token_64 rfl ki_0 ?_
        refine Ev.putI (pc' := 68) dX12_token_65 rfl fa_RX12_223 ob_120 fk_12_6 rfl rfl (fun I22 eI22 => ?_)
        have h := h I22 eI22
        refine Ev.goto (tgt := 232) dX12_token_68 rfl ?_
        exact Ev.sub [2, 0] rfl (okX12_token_b232 h)
    · have h := h.2 hc
      exact okX12_token_b20 hP0 h
set_option maxRecDepth 10000 in
theorem okX12_token_h0 {G : Gx} {Q : Ix → Lx → Prop} {I : Ix} {L : Lx} (h : wpX12_token_h0 Q I L) : Ef G MX12_token (qV Q) 0 [(0, .ref 120)] [] I L := by
  unfold wpX12_token_h0 at h
  refine Lfp.ind (P := fun z => Ef G MX12_token (qV Q) 0 [(0, .ref 120)] [] z.1 z.2) ?_ h
  intro z P' hP' h
  obtain ⟨I, L⟩ := z
  exact okX12_token_l0 (fun I L h9 => hP' (I, L) h9) h
set_option maxRecDepth 10000 in
theorem okX12_token {G : Gx} {I : Ix} {L : Lx} {Q : Ix → Lx → Prop} (h : wpX12_token I L Q) : Mf G MX12_token [.ref 120] I L (qV Q) := by
  unfold wpX12_token at h
  refine Mf.of pn_RX12 (Nat.le_of_ble_eq_true rfl) ?_
  exact okX12_token_h0 h
def wpX12_wrong_b22 (Q : Ix → Lx → Prop) (t1 : Int32) (I : Ix) (L : Lx) : Prop := ∀ I1 : Ix, I1 = pu I 120 2 t1 → ∀ I2 : Ix, I2 = pu I1 120 3 (I1 120 7) → Q I2 L
def wpX12_wrong (a1 : Int32) (I : Ix) (L : Lx) (Q : Ix → Lx → Prop) : Prop := ((I 120 2) ≤ 0 → (¬ (I 120 6) = 3 → wpX12_wrong_b22 Q a1 I L) ∧ ((I 120 6) = 3 → wpX12_wrong_b22 Q 1 I L)) ∧ (¬ (I 120 2) ≤ 0 → Q I L)
set_option maxRecDepth 10000 in
theorem okX12_wrong_b22 {G : Gx} {Q : Ix → Lx → Prop} {t1 : Int32} {I : Ix} {L : Lx} (h : wpX12_wrong_b22 Q t1 I L) : Ef G MX12_wrong (qV Q) 22 [(0, .ref 120)] [.int t1, .ref 120] I L := by
  unfold wpX12_wrong_b22 at h
  refine Ev.putI (pc' := 25) dX12_wrong_22 rfl fa_RX12_236 ob_120 fk_12_2 rfl rfl (fun I1 eI1 => ?_)
  have h := h I1 eI1
  refine Ev.aload_n (k := 0) (pc' := 26) dX12_wrong_25 rfl rfl rfl ?_
  refine Ev.aload_n (k := 0) (pc' := 27) dX12_wrong_26 rfl rfl rfl ?_
  refine Ev.getI (pc' := 30) dX12_wrong_27 rfl fa_RX12_213 ob_120 fk_12_7 ?_
  refine Ev.putI (pc' := 33) dX12_wrong_30 rfl fa_RX12_13 ob_120 fk_12_3 rfl rfl (fun I2 eI2 => ?_)
  have h := h I2 eI2
  exact Ef.vret dX12_wrong_33 rfl h
set_option maxRecDepth 10000 in
theorem okX12_wrong {G : Gx} {a1 : Int32} {I : Ix} {L : Lx} {Q : Ix → Lx → Prop} (h : wpX12_wrong a1 I L Q) : Mf G MX12_wrong [.ref 120, .int a1] I L (qV Q) := by
  unfold wpX12_wrong at h
  refine Mf.of pn_RX12 (Nat.le_of_ble_eq_true rfl) ?_
  refine Ev.aload_n (k := 0) (pc' := 1) dX12_wrong_0 rfl rfl rfl ?_
  refine Ev.getI (pc' := 4) dX12_wrong_1 rfl fa_RX12_236 ob_120 fk_12_2 ?_
  refine Ev.if_le (pc' := 7) (tgt := 8) dX12_wrong_4 rfl rfl (fun hc => ?_) (fun hc => ?_)
  · have h := h.1 hc
    refine Ev.aload_n (k := 0) (pc' := 9) dX12_wrong_8 rfl rfl rfl ?_
    refine Ev.aload_n (k := 0) (pc' := 10) dX12_wrong_9 rfl rfl rfl ?_
    refine Ev.getI (pc' := 13) dX12_wrong_10 rfl fa_RX12_223 ob_120 fk_12_6 ?_
    refine Ev.iconst (pc' := 14) dX12_wrong_13 rfl ki_3 ?_
    refine Ev.icmp_ne (pc' := 17) (tgt := 21) dX12_wrong_14 rfl rfl (fun hc => ?_) (fun hc => ?_)
    · have h := h.1 hc
      refine Ev.iload_n (k := 1) (pc' := 22) dX12_wrong_21 rfl rfl rfl ?_
      exact Ev.sub [0] rfl (okX12_wrong_b22 h)
    · have h := h.2 hc
      refine Ev.iconst (pc' := 18) dX12_wrong_17 rfl ki_1 ?_
      refine Ev.goto (tgt := 22) dX12_wrong_18 rfl ?_
      exact Ev.sub [0] rfl (okX12_wrong_b22 h)
  · have h := h.2 hc
    exact Ef.vret dX12_wrong_7 rfl h
def wpX12_isWord (a1 : Int64) (I : Ix) (L : Lx) (Q : Bool → Ix → Lx → Prop) : Prop := (¬ (I 120 6) = 1 → Q false I L) ∧ ((I 120 6) = 1 → (¬ (L 120 9) = a1 → Q false I L) ∧ ((L 120 9) = a1 → Q true I L))
set_option maxRecDepth 10000 in
theorem okX12_isWord {G : Gx} {a1 : Int64} {I : Ix} {L : Lx} {Q : Bool → Ix → Lx → Prop} (h : wpX12_isWord a1 I L Q) : Mf G MX12_isWord [.ref 120, .long a1] I L (qZ Q) := by
  unfold wpX12_isWord at h
  refine Mf.of pn_RX12 (Nat.le_of_ble_eq_true rfl) ?_
  refine Ev.aload_n (k := 0) (pc' := 1) dX12_isWord_0 rfl rfl rfl ?_
  refine Ev.getI (pc' := 4) dX12_isWord_1 rfl fa_RX12_223 ob_120 fk_12_6 ?_
  refine Ev.iconst (pc' := 5) dX12_isWord_4 rfl ki_1 ?_
  refine Ev.icmp_ne (pc' := 8) (tgt := 21) dX12_isWord_5 rfl rfl (fun hc => ?_) (fun hc => ?_)
  · have h := h.1 hc
    refine Ev.iconst (pc' := 22) dX12_isWord_21 rfl ki_0 ?_
    exact Ef.zret (b := false) dX12_isWord_22 rfl h
  · have h := h.2 hc
    refine Ev.aload_n (k := 0) (pc' := 9) dX12_isWord_8 rfl rfl rfl ?_
    refine Ev.getL (pc' := 12) dX12_isWord_9 rfl fa_RX12_216 ob_120 fk_12_9 ?_
    refine Ev.lload_n (k := 1) (pc' := 13) dX12_isWord_12 rfl rfl rfl ?_
    refine Ef.lc_ne (pc1 := 14) (pc' := 17) (tgt := 21) dX12_isWord_13 rfl dX12_isWord_14 rfl rfl (fun hc => ?_) (fun hc => ?_)
    · have h := h.1 hc
      refine Ev.iconst (pc' := 22) dX12_isWord_21 rfl ki_0 ?_
      exact Ef.zret (b := false) dX12_isWord_22 rfl h
    · have h := h.2 hc
      refine Ev.iconst (pc' := 18) dX12_isWord_17 rfl ki_1 ?_
      refine Ev.goto (tgt := 22) dX12_isWord_18 rfl ?_
      exact Ef.zret (b := true) dX12_isWord_22 rfl h
def wpX12_toldNumber_b46 (Q : Int32 → Ix → Lx → Prop) (I : Ix) (L : Lx) : Prop := (¬ (I 120 2) = 0 → Q (I 120 8) I L) ∧ ((I 120 2) = 0 → wpX12_token I L (fun I1 L2 => Q (I 120 8) I1 L2))
def wpX12_toldNumber_b41 (Q : Int32 → Ix → Lx → Prop) (I : Ix) (L : Lx) : Prop := wpX12_wrong 4 I L (fun I1 L2 => wpX12_toldNumber_b46 Q I1 L2)
def wpX12_toldNumber (a1 : Int32) (a2 : Int32) (I : Ix) (L : Lx) (Q : Int32 → Ix → Lx → Prop) : Prop := ((I 120 2) ≤ 0 → ((I 120 6) = 2 → ((I 120 8) < a1 → wpX12_toldNumber_b41 Q I L) ∧ (¬ (I 120 8) < a1 → ((I 120 8) ≤ a2 → wpX12_toldNumber_b46 Q I L) ∧ (¬ (I 120 8) ≤ a2 → wpX12_toldNumber_b41 Q I L))) ∧ (¬ (I 120 6) = 2 → wpX12_wrong 2 I L (fun I1 L2 => wpX12_toldNumber_b46 Q I1 L2))) ∧ (¬ (I 120 2) ≤ 0 → Q 0 I L)
set_option maxRecDepth 10000 in
theorem okX12_toldNumber_b46 {G : Gx} {Q : Int32 → Ix → Lx → Prop} {I : Ix} {L : Lx} (h : wpX12_toldNumber_b46 Q I L) : Ef G MX12_toldNumber (qI Q) 46 [(0, .ref 120)] [] I L := by
  unfold wpX12_toldNumber_b46 at h
  refine Ev.aload_n (k := 0) (pc' := 47) dX12_toldNumber_46 rfl rfl rfl ?_
  refine Ev.getI (pc' := 50) dX12_toldNumber_47 rfl fa_RX12_220 ob_120 fk_12_8 ?_
  refine Ev.istore_n (ls' := [(3, .int _), (0, .ref _)]) (pc' := 51) dX12_toldNumber_50 rfl rfl (Nat.le_of_ble_eq_true rfl) rfl ?_
  refine Ev.aload_n (k := 1) (pc' := 52) dX12_toldNumber_51 rfl rfl rfl ?_
  refine Ev.getI (pc' := 55) dX12_toldNumber_52 rfl fa_RX12_236 ob_120 fk_12_2 ?_
  refine Ev.if_ne (pc' := 58) (tgt := 62) dX12_toldNumber_55 rfl rfl (fun hc => ?_) (fun hc => ?_)
  · have h := h.1 hc
    refine Ev.iload_n (k := 0) (pc' := 63) dX12_toldNumber_62 rfl rfl rfl ?_
    exact Ef.iret dX12_toldNumber_63 rfl h
  · have h := h.2 hc
    refine Ev.aload_n (k := 1) (pc' := 59) dX12_toldNumber_58 rfl rfl rfl ?_
    refine Ef.callVV [] [] (pc' := 62) dX12_toldNumber_59 rfl cv_RX12_302_X12_token ⟨Nat.le_of_ble_eq_true rfl, Nat.le_of_ble_eq_true rfl⟩ ob_120 rfl rfl rfl (Nat.le_of_ble_eq_true rfl) (okX12_token h) (fun I1 L2 h => ?_)
    refine Ev.iload_n (k := 0) (pc' := 63) dX12_toldNumber_62 rfl rfl rfl ?_
    exact Ef.iret dX12_toldNumber_63 rfl h
set_option maxRecDepth 10000 in
theorem okX12_toldNumber_b41 {G : Gx} {Q : Int32 → Ix → Lx → Prop} {I : Ix} {L : Lx} (h : wpX12_toldNumber_b41 Q I L) : Ef G MX12_toldNumber (qI Q) 41 [(0, .ref 120)] [] I L := by
  unfold wpX12_toldNumber_b41 at h
  refine Ev.aload_n (k := 0) (pc' := 42) dX12_toldNumber_41 rfl rfl rfl ?_
  refine Ev.iconst (pc' := 43) dX12_toldNumber_42 rfl ki_4 ?_
  refine Ef.callVV [.int _] [] (pc' := 46) dX12_toldNumber_43 rfl cv_RX12_299_X12_wrong ⟨Nat.le_of_ble_eq_true rfl, Nat.le_of_ble_eq_true rfl⟩ ob_120 rfl rfl rfl (Nat.le_of_ble_eq_true rfl) (okX12_wrong h) (fun I1 L2 h => ?_)
  exact okX12_toldNumber_b46 h
set_option maxRecDepth 10000 in
theorem okX12_toldNumber {G : Gx} {a1 : Int32} {a2 : Int32} {I : Ix} {L : Lx} {Q : Int32 → Ix → Lx → Prop} (h : wpX12_toldNumber a1 a2 I L Q) : Mf G MX12_toldNumber [.ref 120, .int a1, .int a2] I L (qI Q) := by
  unfold wpX12_toldNumber at h
  refine Mf.of pn_RX12 (Nat.le_of_ble_eq_true rfl) ?_
  refine Ev.aload_n (k := 0) (pc' := 1) dX12_toldNumber_0 rfl rfl rfl ?_
  refine Ev.getI (pc' := 4) dX12_toldNumber_1 rfl fa_RX12_236 ob_120 fk_12_2 ?_
  refine Ev.if_le (pc' := 7) (tgt := 9) dX12_toldNumber_4 rfl rfl (fun hc => ?_) (fun hc => ?_)
  · have h := h.1 hc
    refine Ev.aload_n (k := 0) (pc' := 10) dX12_toldNumber_9 rfl rfl rfl ?_
    refine Ev.getI (pc' := 13) dX12_toldNumber_10 rfl fa_RX12_223 ob_120 fk_12_6 ?_
    refine Ev.iconst (pc' := 14) dX12_toldNumber_13 rfl ki_2 ?_
    refine Ev.icmp_eq (pc' := 17) (tgt := 25) dX12_toldNumber_14 rfl rfl (fun hc => ?_) (fun hc => ?_)
    · have h := h.1 hc
      refine Ev.aload_n (k := 0) (pc' := 26) dX12_toldNumber_25 rfl rfl rfl ?_
      refine Ev.getI (pc' := 29) dX12_toldNumber_26 rfl fa_RX12_220 ob_120 fk_12_8 ?_
      refine Ev.iload_n (k := 1) (pc' := 30) dX12_toldNumber_29 rfl rfl rfl ?_
      refine Ev.icmp_lt (pc' := 33) (tgt := 41) dX12_toldNumber_30 rfl rfl (fun hc => ?_) (fun hc => ?_)
      · have h := h.1 hc
        exact Ev.sub [0] rfl (okX12_toldNumber_b41 h)
      · have h := h.2 hc
        refine Ev.aload_n (k := 0) (pc' := 34) dX12_toldNumber_33 rfl rfl rfl ?_
        refine Ev.getI (pc' := 37) dX12_toldNumber_34 rfl fa_RX12_220 ob_120 fk_12_8 ?_
        refine Ev.iload_n (k := 2) (pc' := 38) dX12_toldNumber_37 rfl rfl rfl ?_
        refine Ev.icmp_le (pc' := 41) (tgt := 46) dX12_toldNumber_38 rfl rfl (fun hc => ?_) (fun hc => ?_)
        · have h := h.1 hc
          exact Ev.sub [0] rfl (okX12_toldNumber_b46 h)
        · have h := h.2 hc
          exact Ev.sub [0] rfl (okX12_toldNumber_b41 h)
    · have h := h.2 hc
      refine Ev.aload_n (k := 0) (pc' := 18) dX12_toldNumber_17 rfl rfl rfl ?_
      refine Ev.iconst (pc' := 19) dX12_toldNumber_18 rfl ki_2 ?_
      refine Ef.callVV [.int _] [] (pc' := 22) dX12_toldNumber_19 rfl cv_RX12_299_X12_wrong ⟨Nat.le_of_ble_eq_true rfl, Nat.le_of_ble_eq_true rfl⟩ ob_120 rfl rfl rfl (Nat.le_of_ble_eq_true rfl) (okX12_wrong h) (fun I1 L2 h => ?_)
      refine Ev.goto (tgt := 46) dX12_toldNumber_22 rfl ?_
      exact Ev.sub [0] rfl (okX12_toldNumber_b46 h)
  · have h := h.2 hc
    refine Ev.iconst (pc' := 8) dX12_toldNumber_7 rfl ki_0 ?_
    exact Ef.iret dX12_toldNumber_8 rfl h
def wpX12_readLate (I : Ix) (L : Lx) (Q : Ix → Lx → Prop) : Prop := wpX12_token I L (fun I1 L2 => ∀ I3 : Ix, I3 = pu I1 120 49 1 → wpX12_toldNumber 0 100 I3 L2 (fun r6 I4 L5 => ∀ I7 : Ix, I7 = pu I4 120 41 r6 → Q I7 L5))
set_option maxRecDepth 10000 in
theorem okX12_readLate {G : Gx} {I : Ix} {L : Lx} {Q : Ix → Lx → Prop} (h : wpX12_readLate I L Q) : Mf G MX12_readLate [.ref 120] I L (qV Q) := by
  unfold wpX12_readLate at h
  refine Mf.of pn_RX12 (Nat.le_of_ble_eq_true rfl) ?_
  refine Ev.aload_n (k := 0) (pc' := 1) dX12_readLate_0 rfl rfl rfl ?_
  refine Ef.callVV [] [] (pc' := 4) dX12_readLate_1 rfl cv_RX12_302_X12_token ⟨Nat.le_of_ble_eq_true rfl, Nat.le_of_ble_eq_true rfl⟩ ob_120 rfl rfl rfl (Nat.le_of_ble_eq_true rfl) (okX12_token h) (fun I1 L2 h => ?_)
  refine Ev.aload_n (k := 0) (pc' := 5) dX12_readLate_4 rfl rfl rfl ?_
  refine Ev.iconst (pc' := 6) dX12_readLate_5 rfl ki_1 ?_
  refine Ev.putI (pc' := 9) dX12_readLate_6 rfl fa_RX12_404 ob_120 fk_12_49 rfl rfl (fun I3 eI3 => ?_)
  have h := h I3 eI3
  refine Ev.aload_n (k := 0) (pc' := 10) dX12_readLate_9 rfl rfl rfl ?_
  refine Ev.aload_n (k := 0) (pc' := 11) dX12_readLate_10 rfl rfl rfl ?_
  refine Ev.iconst (pc' := 12) dX12_readLate_11 rfl ki_0 ?_
  refine Ev.bipush (pc' := 14) dX12_readLate_12 rfl kb_100 ?_
  refine Ef.callVI [.int _, .int _] [.ref _] (pc' := 17) dX12_readLate_14 rfl cv_RX12_309_X12_toldNumber ⟨Nat.le_of_ble_eq_true rfl, Nat.le_of_ble_eq_true rfl⟩ ob_120 rfl rfl rfl (Nat.le_of_ble_eq_true rfl) (okX12_toldNumber h) (fun r6 I4 L5 h => ?_)
  refine Ev.putI (pc' := 20) dX12_readLate_17 rfl fa_RX12_407 ob_120 fk_12_41 rfl rfl (fun I7 eI7 => ?_)
  have h := h I7 eI7
  exact Ef.vret dX12_readLate_20 rfl h
def wpX12_readLaw_b74 (Q : Ix → Lx → Prop) (t1 : Int32) (I : Ix) (L : Lx) : Prop := ∀ I1 : Ix, I1 = pu I 120 40 t1 → (¬ (I1 120 2) = 0 → Q I1 L) ∧ ((I1 120 2) = 0 → wpX12_token I1 L (fun I2 L3 => Q I2 L3))
def wpX12_readLaw_b44 (Q : Ix → Lx → Prop) (I : Ix) (L : Lx) : Prop := wpX12_isWord 439956431717 I L (fun r3 I1 L2 => (r3 = false → wpX12_isWord 7106420 I1 L2 (fun r6 I4 L5 => (r6 = false → wpX12_readLaw_b74 Q 0 I4 L5) ∧ (r6 = true → wpX12_readLaw_b74 Q 2 I4 L5))) ∧ (r3 = true → wpX12_readLaw_b74 Q 1 I1 L2))
def wpX12_readLaw (I : Ix) (L : Lx) (Q : Ix → Lx → Prop) : Prop := wpX12_token I L (fun I1 L2 => ∀ I3 : Ix, I3 = pu I1 120 48 1 → wpX12_isWord 1852137842 I3 L2 (fun r6 I4 L5 => (r6 = true → wpX12_readLaw_b44 Q I4 L5) ∧ (r6 = false → wpX12_isWord 439956431717 I4 L5 (fun r9 I7 L8 => (r9 = true → wpX12_readLaw_b44 Q I7 L8) ∧ (r9 = false → wpX12_isWord 7106420 I7 L8 (fun r12 I10 L11 => (r12 = true → wpX12_readLaw_b44 Q I10 L11) ∧ (r12 = false → wpX12_wrong 2 I10 L11 (fun I13 L14 => wpX12_readLaw_b44 Q I13 L14))))))))
set_option maxRecDepth 10000 in
theorem okX12_readLaw_b74 {G : Gx} {Q : Ix → Lx → Prop} {t1 : Int32} {I : Ix} {L : Lx} (h : wpX12_readLaw_b74 Q t1 I L) : Ef G MX12_readLaw (qV Q) 74 [(0, .ref 120)] [.int t1, .ref 120] I L := by
  unfold wpX12_readLaw_b74 at h
  refine Ev.putI (pc' := 77) dX12_readLaw_74 rfl fa_RX12_401 ob_120 fk_12_40 rfl rfl (fun I1 eI1 => ?_)
  have h := h I1 eI1
  refine Ev.aload_n (k := 0) (pc' := 78) dX12_readLaw_77 rfl rfl rfl ?_
  refine Ev.getI (pc' := 81) dX12_readLaw_78 rfl fa_RX12_236 ob_120 fk_12_2 ?_
  refine Ev.if_ne (pc' := 84) (tgt := 88) dX12_readLaw_81 rfl rfl (fun hc => ?_) (fun hc => ?_)
  · have h := h.1 hc
    exact Ef.vret dX12_readLaw_88 rfl h
  · have h := h.2 hc
    refine Ev.aload_n (k := 0) (pc' := 85) dX12_readLaw_84 rfl rfl rfl ?_
    refine Ef.callVV [] [] (pc' := 88) dX12_readLaw_85 rfl cv_RX12_302_X12_token ⟨Nat.le_of_ble_eq_true rfl, Nat.le_of_ble_eq_true rfl⟩ ob_120 rfl rfl rfl (Nat.le_of_ble_eq_true rfl) (okX12_token h) (fun I2 L3 h => ?_)
    exact Ef.vret dX12_readLaw_88 rfl h
set_option maxRecDepth 10000 in
theorem okX12_readLaw_b44 {G : Gx} {Q : Ix → Lx → Prop} {I : Ix} {L : Lx} (h : wpX12_readLaw_b44 Q I L) : Ef G MX12_readLaw (qV Q) 44 [(0, .ref 120)] [] I L := by
  unfold wpX12_readLaw_b44 at h
  refine Ev.aload_n (k := 0) (pc' := 45) dX12_readLaw_44 rfl rfl rfl ?_
  refine Ev.aload_n (k := 0) (pc' := 46) dX12_readLaw_45 rfl rfl rfl ?_
  refine Ev.ldc2 (pc' := 49) dX12_readLaw_46 rfl ll_RX12_263 ?_
  refine Ef.callVZ [.long _] [.ref _] (pc' := 52) dX12_readLaw_49 rfl cv_RX12_295_X12_isWord ⟨Nat.le_of_ble_eq_true rfl, Nat.le_of_ble_eq_true rfl⟩ ob_120 rfl rfl rfl (Nat.le_of_ble_eq_true rfl) (okX12_isWord h) (fun r3 I1 L2 h => ?_)
  refine Ef.ifz_eq (pc' := 55) (tgt := 59) dX12_readLaw_52 rfl rfl (fun hc => ?_) (fun hc => ?_)
  · have h := h.1 hc
    refine Ev.aload_n (k := 0) (pc' := 60) dX12_readLaw_59 rfl rfl rfl ?_
    refine Ev.ldc2 (pc' := 63) dX12_readLaw_60 rfl ll_RX12_273 ?_
    refine Ef.callVZ [.long _] [.ref _] (pc' := 66) dX12_readLaw_63 rfl cv_RX12_295_X12_isWord ⟨Nat.le_of_ble_eq_true rfl, Nat.le_of_ble_eq_true rfl⟩ ob_120 rfl rfl rfl (Nat.le_of_ble_eq_true rfl) (okX12_isWord h) (fun r6 I4 L5 h => ?_)
    refine Ef.ifz_eq (pc' := 69) (tgt := 73) dX12_readLaw_66 rfl rfl (fun hc => ?_) (fun hc => ?_)
    · have h := h.1 hc
      refine Ev.iconst (pc' := 74) dX12_readLaw_73 rfl ki_0 ?_
      exact okX12_readLaw_b74 h
    · have h := h.2 hc
      refine Ev.iconst (pc' := 70) dX12_readLaw_69 rfl ki_2 ?_
      refine Ev.goto (tgt := 74) dX12_readLaw_70 rfl ?_
      exact okX12_readLaw_b74 h
  · have h := h.2 hc
    refine Ev.iconst (pc' := 56) dX12_readLaw_55 rfl ki_1 ?_
    refine Ev.goto (tgt := 74) dX12_readLaw_56 rfl ?_
    exact okX12_readLaw_b74 h
set_option maxRecDepth 10000 in
theorem okX12_readLaw {G : Gx} {I : Ix} {L : Lx} {Q : Ix → Lx → Prop} (h : wpX12_readLaw I L Q) : Mf G MX12_readLaw [.ref 120] I L (qV Q) := by
  unfold wpX12_readLaw at h
  refine Mf.of pn_RX12 (Nat.le_of_ble_eq_true rfl) ?_
  refine Ev.aload_n (k := 0) (pc' := 1) dX12_readLaw_0 rfl rfl rfl ?_
  refine Ef.callVV [] [] (pc' := 4) dX12_readLaw_1 rfl cv_RX12_302_X12_token ⟨Nat.le_of_ble_eq_true rfl, Nat.le_of_ble_eq_true rfl⟩ ob_120 rfl rfl rfl (Nat.le_of_ble_eq_true rfl) (okX12_token h) (fun I1 L2 h => ?_)
  refine Ev.aload_n (k := 0) (pc' := 5) dX12_readLaw_4 rfl rfl rfl ?_
  refine Ev.iconst (pc' := 6) dX12_readLaw_5 rfl ki_1 ?_
  refine Ev.putI (pc' := 9) dX12_readLaw_6 rfl fa_RX12_397 ob_120 fk_12_48 rfl rfl (fun I3 eI3 => ?_)
  have h := h I3 eI3
  refine Ev.aload_n (k := 0) (pc' := 10) dX12_readLaw_9 rfl rfl rfl ?_
  refine Ev.ldc2 (pc' := 13) dX12_readLaw_10 rfl ll_RX12_271 ?_
  refine Ef.callVZ [.long _] [] (pc' := 16) dX12_readLaw_13 rfl cv_RX12_295_X12_isWord ⟨Nat.le_of_ble_eq_true rfl, Nat.le_of_ble_eq_true rfl⟩ ob_120 rfl rfl rfl (Nat.le_of_ble_eq_true rfl) (okX12_isWord h) (fun r6 I4 L5 h => ?_)
  refine Ef.ifz_ne (pc' := 19) (tgt := 44) dX12_readLaw_16 rfl rfl (fun hc => ?_) (fun hc => ?_)
  · have h := h.1 hc
    exact okX12_readLaw_b44 h
  · have h := h.2 hc
    refine Ev.aload_n (k := 0) (pc' := 20) dX12_readLaw_19 rfl rfl rfl ?_
    refine Ev.ldc2 (pc' := 23) dX12_readLaw_20 rfl ll_RX12_263 ?_
    refine Ef.callVZ [.long _] [] (pc' := 26) dX12_readLaw_23 rfl cv_RX12_295_X12_isWord ⟨Nat.le_of_ble_eq_true rfl, Nat.le_of_ble_eq_true rfl⟩ ob_120 rfl rfl rfl (Nat.le_of_ble_eq_true rfl) (okX12_isWord h) (fun r9 I7 L8 h => ?_)
    refine Ef.ifz_ne (pc' := 29) (tgt := 44) dX12_readLaw_26 rfl rfl (fun hc => ?_) (fun hc => ?_)
    · have h := h.1 hc
      exact okX12_readLaw_b44 h
    · have h := h.2 hc
      refine Ev.aload_n (k := 0) (pc' := 30) dX12_readLaw_29 rfl rfl rfl ?_
      refine Ev.ldc2 (pc' := 33) dX12_readLaw_30 rfl ll_RX12_273 ?_
      refine Ef.callVZ [.long _] [] (pc' := 36) dX12_readLaw_33 rfl cv_RX12_295_X12_isWord ⟨Nat.le_of_ble_eq_true rfl, Nat.le_of_ble_eq_true rfl⟩ ob_120 rfl rfl rfl (Nat.le_of_ble_eq_true rfl) (okX12_isWord h) (fun r12 I10 L11 h => ?_)
      refine Ef.ifz_ne (pc' := 39) (tgt := 44) dX12_readLaw_36 rfl rfl (fun hc => ?_) (fun hc => ?_)
      · have h := h.1 hc
        exact okX12_readLaw_b44 h
      · have h := h.2 hc
        refine Ev.aload_n (k := 0) (pc' := 40) dX12_readLaw_39 rfl rfl rfl ?_
        refine Ev.iconst (pc' := 41) dX12_readLaw_40 rfl ki_2 ?_
        refine Ef.callVV [.int _] [] (pc' := 44) dX12_readLaw_41 rfl cv_RX12_299_X12_wrong ⟨Nat.le_of_ble_eq_true rfl, Nat.le_of_ble_eq_true rfl⟩ ob_120 rfl rfl rfl (Nat.le_of_ble_eq_true rfl) (okX12_wrong h) (fun I13 L14 h => ?_)
        exact okX12_readLaw_b44 h
def wpX12_isName_b329 (Q : Bool → Ix → Lx → Prop) (v1 : Int32) (t0 : Int32) (I : Ix) (L : Lx) : Prop := (¬ v1 = 0 → Q false I L) ∧ (v1 = 0 → (¬ t0 = 0 → Q false I L) ∧ (t0 = 0 → Q true I L))
def wpX12_isName_b324 (Q : Bool → Ix → Lx → Prop) (v1 : Int32) (I : Ix) (L : Lx) : Prop := wpX12_isName_b329 Q v1 1 I L
def wpX12_isName_b169 (Q : Bool → Ix → Lx → Prop) (t0 : Int32) (I : Ix) (L : Lx) : Prop := ((L 120 9) = 126943688025203 → wpX12_isName_b324 Q t0 I L) ∧ (¬ (L 120 9) = 126943688025203 → ((L 120 9) = 7102839 → wpX12_isName_b324 Q t0 I L) ∧ (¬ (L 120 9) = 7102839 → ((L 120 9) = 1852137842 → wpX12_isName_b324 Q t0 I L) ∧ (¬ (L 120 9) = 1852137842 → ((L 120 9) = 7106420 → wpX12_isName_b324 Q t0 I L) ∧ (¬ (L 120 9) = 7106420 → ((L 120 9) = 1818326117 → wpX12_isName_b324 Q t0 I L) ∧ (¬ (L 120 9) = 1818326117 → ((L 120 9) = 1818584692 → wpX12_isName_b324 Q t0 I L) ∧ (¬ (L 120 9) = 1818584692 → ((L 120 9) = 6709618 → wpX12_isName_b324 Q t0 I L) ∧ (¬ (L 120 9) = 6709618 → ((L 120 9) = 1835626085 → wpX12_isName_b324 Q t0 I L) ∧ (¬ (L 120 9) = 1835626085 → ((L 120 9) = 1751477348 → wpX12_isName_b324 Q t0 I L) ∧ (¬ (L 120 9) = 1751477348 → ((L 120 9) = 427121669988 → wpX12_isName_b324 Q t0 I L) ∧ (¬ (L 120 9) = 427121669988 → ((L 120 9) = 6578553 → wpX12_isName_b324 Q t0 I L) ∧ (¬ (L 120 9) = 6578553 → ((L 120 9) = 6385252 → wpX12_isName_b324 Q t0 I L) ∧ (¬ (L 120 9) = 6385252 → ((L 120 9) = 28530 → wpX12_isName_b324 Q t0 I L) ∧ (¬ (L 120 9) = 28530 → (¬ (L 120 9) = 7237492 → wpX12_isName_b329 Q t0 0 I L) ∧ ((L 120 9) = 7237492 → wpX12_isName_b324 Q t0 I L))))))))))))))
def wpX12_isName_b164 (Q : Bool → Ix → Lx → Prop) (I : Ix) (L : Lx) : Prop := wpX12_isName_b169 Q 1 I L
def wpX12_isName (I : Ix) (L : Lx) (Q : Bool → Ix → Lx → Prop) : Prop := ((I 120 6) = 1 → ((L 120 9) = 482854658917 → wpX12_isName_b164 Q I L) ∧ (¬ (L 120 9) = 482854658917 → ((L 120 9) = 1852796782 → wpX12_isName_b164 Q I L) ∧ (¬ (L 120 9) = 1852796782 → ((L 120 9) = 1919902052 → wpX12_isName_b164 Q I L) ∧ (¬ (L 120 9) = 1919902052 → ((L 120 9) = 30796695599342963 → wpX12_isName_b164 Q I L) ∧ (¬ (L 120 9) = 30796695599342963 → ((L 120 9) = 499967946343 → wpX12_isName_b164 Q I L) ∧ (¬ (L 120 9) = 499967946343 → ((L 120 9) = 24948 → wpX12_isName_b164 Q I L) ∧ (¬ (L 120 9) = 24948 → ((L 120 9) = 512970880104 → wpX12_isName_b164 Q I L) ∧ (¬ (L 120 9) = 512970880104 → ((L 120 9) = 2003132786 → wpX12_isName_b164 Q I L) ∧ (¬ (L 120 9) = 2003132786 → ((L 120 9) = 448377484921 → wpX12_isName_b164 Q I L) ∧ (¬ (L 120 9) = 448377484921 → ((L 120 9) = 1718579044 → wpX12_isName_b164 Q I L) ∧ (¬ (L 120 9) = 1718579044 → ((L 120 9) = 123581014175598 → wpX12_isName_b164 Q I L) ∧ (¬ (L 120 9) = 123581014175598 → ((L 120 9) = 427120748148 → wpX12_isName_b164 Q I L) ∧ (¬ (L 120 9) = 427120748148 → ((L 120 9) = 439956431717 → wpX12_isName_b164 Q I L) ∧ (¬ (L 120 9) = 439956431717 → (¬ (L 120 9) = 1751216740 → wpX12_isName_b169 Q 0 I L) ∧ ((L 120 9) = 1751216740 → wpX12_isName_b164 Q I L))))))))))))))) ∧ (¬ (I 120 6) = 1 → Q false I L)
set_option maxRecDepth 10000 in
theorem okX12_isName_b329 {G : Gx} {Q : Bool → Ix → Lx → Prop} {v1 : Int32} {t0 : Int32} {I : Ix} {L : Lx} (h : wpX12_isName_b329 Q v1 t0 I L) : Ef G MX12_isName (qZ Q) 329 [(1, .int v1)] [.int t0] I L := by
  unfold wpX12_isName_b329 at h
  refine Ev.istore_n (ls' := [(2, .int _), (1, .int _)]) (pc' := 330) dX12_isName_329 rfl rfl (Nat.le_of_ble_eq_true rfl) rfl ?_
  refine Ev.iload_n (k := 1) (pc' := 331) dX12_isName_330 rfl rfl rfl ?_
  refine Ev.if_ne (pc' := 334) (tgt := 342) dX12_isName_331 rfl rfl (fun hc => ?_) (fun hc => ?_)
  · have h := h.1 hc
    refine Ev.iconst (pc' := 343) dX12_isName_342 rfl ki_0 ?_
    exact Ef.zret (b := false) dX12_isName_343 rfl h
  · have h := h.2 hc
    refine Ev.iload_n (k := 0) (pc' := 335) dX12_isName_334 rfl rfl rfl ?_
    refine Ev.if_ne (pc' := 338) (tgt := 342) dX12_isName_335 rfl rfl (fun hc => ?_) (fun hc => ?_)
    · have h := h.1 hc
      refine Ev.iconst (pc' := 343) dX12_isName_342 rfl ki_0 ?_
      exact Ef.zret (b := false) dX12_isName_343 rfl h
    · have h := h.2 hc
      refine Ev.iconst (pc' := 339) dX12_isName_338 rfl ki_1 ?_
      refine Ev.goto (tgt := 343) dX12_isName_339 rfl ?_
      exact Ef.zret (b := true) dX12_isName_343 rfl h
set_option maxRecDepth 10000 in
theorem okX12_isName_b324 {G : Gx} {Q : Bool → Ix → Lx → Prop} {v1 : Int32} {I : Ix} {L : Lx} (h : wpX12_isName_b324 Q v1 I L) : Ef G MX12_isName (qZ Q) 324 [(1, .int v1)] [] I L := by
  unfold wpX12_isName_b324 at h
  refine Ev.iconst (pc' := 325) dX12_isName_324 rfl ki_1 ?_
  refine Ev.goto (tgt := 329) dX12_isName_325 rfl ?_
  exact okX12_isName_b329 h
set_option maxRecDepth 10000 in
theorem okX12_isName_b169 {G : Gx} {Q : Bool → Ix → Lx → Prop} {t0 : Int32} {I : Ix} {L : Lx} (h : wpX12_isName_b169 Q t0 I L) : Ef G MX12_isName (qZ Q) 169 [(0, .ref 120)] [.int t0] I L := by
  unfold wpX12_isName_b169 at h
  refine Ev.istore_n (ls' := [(1, .int _), (0, .ref _)]) (pc' := 170) dX12_isName_169 rfl rfl (Nat.le_of_ble_eq_true rfl) rfl ?_
  refine Ev.aload_n (k := 1) (pc' := 171) dX12_isName_170 rfl rfl rfl ?_
  refine Ev.getL (pc' := 174) dX12_isName_171 rfl fa_RX12_216 ob_120 fk_12_9 ?_
  refine Ev.ldc2 (pc' := 177) dX12_isName_174 rfl ll_RX12_267 ?_
  refine Ef.lc_eq (pc1 := 178) (pc' := 181) (tgt := 324) dX12_isName_177 rfl dX12_isName_178 rfl rfl (fun hc => ?_) (fun hc => ?_)
  · have h := h.1 hc
    exact Ev.sub [0] rfl (okX12_isName_b324 h)
  · have h := h.2 hc
    refine Ev.aload_n (k := 1) (pc' := 182) dX12_isName_181 rfl rfl rfl ?_
    refine Ev.getL (pc' := 185) dX12_isName_182 rfl fa_RX12_216 ob_120 fk_12_9 ?_
    refine Ev.ldc2 (pc' := 188) dX12_isName_185 rfl ll_RX12_269 ?_
    refine Ef.lc_eq (pc1 := 189) (pc' := 192) (tgt := 324) dX12_isName_188 rfl dX12_isName_189 rfl rfl (fun hc => ?_) (fun hc => ?_)
    · have h := h.1 hc
      exact Ev.sub [0] rfl (okX12_isName_b324 h)
    · have h := h.2 hc
      refine Ev.aload_n (k := 1) (pc' := 193) dX12_isName_192 rfl rfl rfl ?_
      refine Ev.getL (pc' := 196) dX12_isName_193 rfl fa_RX12_216 ob_120 fk_12_9 ?_
      refine Ev.ldc2 (pc' := 199) dX12_isName_196 rfl ll_RX12_271 ?_
      refine Ef.lc_eq (pc1 := 200) (pc' := 203) (tgt := 324) dX12_isName_199 rfl dX12_isName_200 rfl rfl (fun hc => ?_) (fun hc => ?_)
      · have h := h.1 hc
        exact Ev.sub [0] rfl (okX12_isName_b324 h)
      · have h := h.2 hc
        refine Ev.aload_n (k := 1) (pc' := 204) dX12_isName_203 rfl rfl rfl ?_
        refine Ev.getL (pc' := 207) dX12_isName_204 rfl fa_RX12_216 ob_120 fk_12_9 ?_
        refine Ev.ldc2 (pc' := 210) dX12_isName_207 rfl ll_RX12_273 ?_
        refine Ef.lc_eq (pc1 := 211) (pc' := 214) (tgt := 324) dX12_isName_210 rfl dX12_isName_211 rfl rfl (fun hc => ?_) (fun hc => ?_)
        · have h := h.1 hc
          exact Ev.sub [0] rfl (okX12_isName_b324 h)
        · have h := h.2 hc
          refine Ev.aload_n (k := 1) (pc' := 215) dX12_isName_214 rfl rfl rfl ?_
          refine Ev.getL (pc' := 218) dX12_isName_215 rfl fa_RX12_216 ob_120 fk_12_9 ?_
          refine Ev.ldc2 (pc' := 221) dX12_isName_218 rfl ll_RX12_275 ?_
          refine Ef.lc_eq (pc1 := 222) (pc' := 225) (tgt := 324) dX12_isName_221 rfl dX12_isName_222 rfl rfl (fun hc => ?_) (fun hc => ?_)
          · have h := h.1 hc
            exact Ev.sub [0] rfl (okX12_isName_b324 h)
          · have h := h.2 hc
            refine Ev.aload_n (k := 1) (pc' := 226) dX12_isName_225 rfl rfl rfl ?_
            refine Ev.getL (pc' := 229) dX12_isName_226 rfl fa_RX12_216 ob_120 fk_12_9 ?_
            refine Ev.ldc2 (pc' := 232) dX12_isName_229 rfl ll_RX12_277 ?_
            refine Ef.lc_eq (pc1 := 233) (pc' := 236) (tgt := 324) dX12_isName_232 rfl dX12_isName_233 rfl rfl (fun hc => ?_) (fun hc => ?_)
            · have h := h.1 hc
              exact Ev.sub [0] rfl (okX12_isName_b324 h)
            · have h := h.2 hc
              refine Ev.aload_n (k := 1) (pc' := 237) dX12_isName_236 rfl rfl rfl ?_
              refine Ev.getL (pc' := 240) dX12_isName_237 rfl fa_RX12_216 ob_120 fk_12_9 ?_
              refine Ev.ldc2 (pc' := 243) dX12_isName_240 rfl ll_RX12_279 ?_
              refine Ef.lc_eq (pc1 := 244) (pc' := 247) (tgt := 324) dX12_isName_243 rfl dX12_isName_244 rfl rfl (fun hc => ?_) (fun hc => ?_)
              · have h := h.1 hc
                exact Ev.sub [0] rfl (okX12_isName_b324 h)
              · have h := h.2 hc
                refine Ev.aload_n (k := 1) (pc' := 248) dX12_isName_247 rfl rfl rfl ?_
                refine Ev.getL (pc' := 251) dX12_isName_248 rfl fa_RX12_216 ob_120 fk_12_9 ?_
                refine Ev.ldc2 (pc' := 254) dX12_isName_251 rfl ll_RX12_281 ?_
                refine Ef.lc_eq (pc1 := 255) (pc' := 258) (tgt := 324) dX12_isName_254 rfl dX12_isName_255 rfl rfl (fun hc => ?_) (fun hc => ?_)
                · have h := h.1 hc
                  exact Ev.sub [0] rfl (okX12_isName_b324 h)
                · have h := h.2 hc
                  refine Ev.aload_n (k := 1) (pc' := 259) dX12_isName_258 rfl rfl rfl ?_
                  refine Ev.getL (pc' := 262) dX12_isName_259 rfl fa_RX12_216 ob_120 fk_12_9 ?_
                  refine Ev.ldc2 (pc' := 265) dX12_isName_262 rfl ll_RX12_283 ?_
                  refine Ef.lc_eq (pc1 := 266) (pc' := 269) (tgt := 324) dX12_isName_265 rfl dX12_isName_266 rfl rfl (fun hc => ?_) (fun hc => ?_)
                  · have h := h.1 hc
                    exact Ev.sub [0] rfl (okX12_isName_b324 h)
                  · have h := h.2 hc
                    refine Ev.aload_n (k := 1) (pc' := 270) dX12_isName_269 rfl rfl rfl ?_
                    refine Ev.getL (pc' := 273) dX12_isName_270 rfl fa_RX12_216 ob_120 fk_12_9 ?_
                    refine Ev.ldc2 (pc' := 276) dX12_isName_273 rfl ll_RX12_285 ?_
                    refine Ef.lc_eq (pc1 := 277) (pc' := 280) (tgt := 324) dX12_isName_276 rfl dX12_isName_277 rfl rfl (fun hc => ?_) (fun hc => ?_)
                    · have h := h.1 hc
                      exact Ev.sub [0] rfl (okX12_isName_b324 h)
                    · have h := h.2 hc
                      refine Ev.aload_n (k := 1) (pc' := 281) dX12_isName_280 rfl rfl rfl ?_
                      refine Ev.getL (pc' := 284) dX12_isName_281 rfl fa_RX12_216 ob_120 fk_12_9 ?_
                      refine Ev.ldc2 (pc' := 287) dX12_isName_284 rfl ll_RX12_287 ?_
                      refine Ef.lc_eq (pc1 := 288) (pc' := 291) (tgt := 324) dX12_isName_287 rfl dX12_isName_288 rfl rfl (fun hc => ?_) (fun hc => ?_)
                      · have h := h.1 hc
                        exact Ev.sub [0] rfl (okX12_isName_b324 h)
                      · have h := h.2 hc
                        refine Ev.aload_n (k := 1) (pc' := 292) dX12_isName_291 rfl rfl rfl ?_
                        refine Ev.getL (pc' := 295) dX12_isName_292 rfl fa_RX12_216 ob_120 fk_12_9 ?_
                        refine Ev.ldc2 (pc' := 298) dX12_isName_295 rfl ll_RX12_289 ?_
                        refine Ef.lc_eq (pc1 := 299) (pc' := 302) (tgt := 324) dX12_isName_298 rfl dX12_isName_299 rfl rfl (fun hc => ?_) (fun hc => ?_)
                        · have h := h.1 hc
                          exact Ev.sub [0] rfl (okX12_isName_b324 h)
                        · have h := h.2 hc
                          refine Ev.aload_n (k := 1) (pc' := 303) dX12_isName_302 rfl rfl rfl ?_
                          refine Ev.getL (pc' := 306) dX12_isName_303 rfl fa_RX12_216 ob_120 fk_12_9 ?_
                          refine Ev.ldc2 (pc' := 309) dX12_isName_306 rfl ll_RX12_291 ?_
                          refine Ef.lc_eq (pc1 := 310) (pc' := 313) (tgt := 324) dX12_isName_309 rfl dX12_isName_310 rfl rfl (fun hc => ?_) (fun hc => ?_)
                          · have h := h.1 hc
                            exact Ev.sub [0] rfl (okX12_isName_b324 h)
                          · have h := h.2 hc
                            refine Ev.aload_n (k := 1) (pc' := 314) dX12_isName_313 rfl rfl rfl ?_
                            refine Ev.getL (pc' := 317) dX12_isName_314 rfl fa_RX12_216 ob_120 fk_12_9 ?_
                            refine Ev.ldc2 (pc' := 320) dX12_isName_317 rfl ll_RX12_293 ?_
                            refine Ef.lc_ne (pc1 := 321) (pc' := 324) (tgt := 328) dX12_isName_320 rfl dX12_isName_321 rfl rfl (fun hc => ?_) (fun hc => ?_)
                            · have h := h.1 hc
                              refine Ev.iconst (pc' := 329) dX12_isName_328 rfl ki_0 ?_
                              exact Ev.sub [0] rfl (okX12_isName_b329 h)
                            · have h := h.2 hc
                              exact Ev.sub [0] rfl (okX12_isName_b324 h)
set_option maxRecDepth 10000 in
theorem okX12_isName_b164 {G : Gx} {Q : Bool → Ix → Lx → Prop} {I : Ix} {L : Lx} (h : wpX12_isName_b164 Q I L) : Ef G MX12_isName (qZ Q) 164 [(0, .ref 120)] [] I L := by
  unfold wpX12_isName_b164 at h
  refine Ev.iconst (pc' := 165) dX12_isName_164 rfl ki_1 ?_
  refine Ev.goto (tgt := 169) dX12_isName_165 rfl ?_
  exact okX12_isName_b169 h
set_option maxRecDepth 10000 in
theorem okX12_isName {G : Gx} {I : Ix} {L : Lx} {Q : Bool → Ix → Lx → Prop} (h : wpX12_isName I L Q) : Mf G MX12_isName [.ref 120] I L (qZ Q) := by
  unfold wpX12_isName at h
  refine Mf.of pn_RX12 (Nat.le_of_ble_eq_true rfl) ?_
  refine Ev.aload_n (k := 0) (pc' := 1) dX12_isName_0 rfl rfl rfl ?_
  refine Ev.getI (pc' := 4) dX12_isName_1 rfl fa_RX12_223 ob_120 fk_12_6 ?_
  refine Ev.iconst (pc' := 5) dX12_isName_4 rfl ki_1 ?_
  refine Ev.icmp_eq (pc' := 8) (tgt := 10) dX12_isName_5 rfl rfl (fun hc => ?_) (fun hc => ?_)
  · have h := h.1 hc
    refine Ev.aload_n (k := 0) (pc' := 11) dX12_isName_10 rfl rfl rfl ?_
    refine Ev.getL (pc' := 14) dX12_isName_11 rfl fa_RX12_216 ob_120 fk_12_9 ?_
    refine Ev.ldc2 (pc' := 17) dX12_isName_14 rfl ll_RX12_239 ?_
    refine Ef.lc_eq (pc1 := 18) (pc' := 21) (tgt := 164) dX12_isName_17 rfl dX12_isName_18 rfl rfl (fun hc => ?_) (fun hc => ?_)
    · have h := h.1 hc
      exact okX12_isName_b164 h
    · have h := h.2 hc
      refine Ev.aload_n (k := 0) (pc' := 22) dX12_isName_21 rfl rfl rfl ?_
      refine Ev.getL (pc' := 25) dX12_isName_22 rfl fa_RX12_216 ob_120 fk_12_9 ?_
      refine Ev.ldc2 (pc' := 28) dX12_isName_25 rfl ll_RX12_241 ?_
      refine Ef.lc_eq (pc1 := 29) (pc' := 32) (tgt := 164) dX12_isName_28 rfl dX12_isName_29 rfl rfl (fun hc => ?_) (fun hc => ?_)
      · have h := h.1 hc
        exact okX12_isName_b164 h
      · have h := h.2 hc
        refine Ev.aload_n (k := 0) (pc' := 33) dX12_isName_32 rfl rfl rfl ?_
        refine Ev.getL (pc' := 36) dX12_isName_33 rfl fa_RX12_216 ob_120 fk_12_9 ?_
        refine Ev.ldc2 (pc' := 39) dX12_isName_36 rfl ll_RX12_243 ?_
        refine Ef.lc_eq (pc1 := 40) (pc' := 43) (tgt := 164) dX12_isName_39 rfl dX12_isName_40 rfl rfl (fun hc => ?_) (fun hc => ?_)
        · have h := h.1 hc
          exact okX12_isName_b164 h
        · have h := h.2 hc
          refine Ev.aload_n (k := 0) (pc' := 44) dX12_isName_43 rfl rfl rfl ?_
          refine Ev.getL (pc' := 47) dX12_isName_44 rfl fa_RX12_216 ob_120 fk_12_9 ?_
          refine Ev.ldc2 (pc' := 50) dX12_isName_47 rfl ll_RX12_245 ?_
          refine Ef.lc_eq (pc1 := 51) (pc' := 54) (tgt := 164) dX12_isName_50 rfl dX12_isName_51 rfl rfl (fun hc => ?_) (fun hc => ?_)
          · have h := h.1 hc
            exact okX12_isName_b164 h
          · have h := h.2 hc
            refine Ev.aload_n (k := 0) (pc' := 55) dX12_isName_54 rfl rfl rfl ?_
            refine Ev.getL (pc' := 58) dX12_isName_55 rfl fa_RX12_216 ob_120 fk_12_9 ?_
            refine Ev.ldc2 (pc' := 61) dX12_isName_58 rfl ll_RX12_247 ?_
            refine Ef.lc_eq (pc1 := 62) (pc' := 65) (tgt := 164) dX12_isName_61 rfl dX12_isName_62 rfl rfl (fun hc => ?_) (fun hc => ?_)
            · have h := h.1 hc
              exact okX12_isName_b164 h
            · have h := h.2 hc
              refine Ev.aload_n (k := 0) (pc' := 66) dX12_isName_65 rfl rfl rfl ?_
              refine Ev.getL (pc' := 69) dX12_isName_66 rfl fa_RX12_216 ob_120 fk_12_9 ?_
              refine Ev.ldc2 (pc' := 72) dX12_isName_69 rfl ll_RX12_249 ?_
              refine Ef.lc_eq (pc1 := 73) (pc' := 76) (tgt := 164) dX12_isName_72 rfl dX12_isName_73 rfl rfl (fun hc => ?_) (fun hc => ?_)
              · have h := h.1 hc
                exact okX12_isName_b164 h
              · have h := h.2 hc
                refine Ev.aload_n (k := 0) (pc' := 77) dX12_isName_76 rfl rfl rfl ?_
                refine Ev.getL (pc' := 80) dX12_isName_77 rfl fa_RX12_216 ob_120 fk_12_9 ?_
                refine Ev.ldc2 (pc' := 83) dX12_isName_80 rfl ll_RX12_251 ?_
                refine Ef.lc_eq (pc1 := 84) (pc' := 87) (tgt := 164) dX12_isName_83 rfl dX12_isName_84 rfl rfl (fun hc => ?_) (fun hc => ?_)
                · have h := h.1 hc
                  exact okX12_isName_b164 h
                · have h := h.2 hc
                  refine Ev.aload_n (k := 0) (pc' := 88) dX12_isName_87 rfl rfl rfl ?_
                  refine Ev.getL (pc' := 91) dX12_isName_88 rfl fa_RX12_216 ob_120 fk_12_9 ?_
                  refine Ev.ldc2 (pc' := 94) dX12_isName_91 rfl ll_RX12_253 ?_
                  refine Ef.lc_eq (pc1 := 95) (pc' := 98) (tgt := 164) dX12_isName_94 rfl dX12_isName_95 rfl rfl (fun hc => ?_) (fun hc => ?_)
                  · have h := h.1 hc
                    exact okX12_isName_b164 h
                  · have h := h.2 hc
                    refine Ev.aload_n (k := 0) (pc' := 99) dX12_isName_98 rfl rfl rfl ?_
                    refine Ev.getL (pc' := 102) dX12_isName_99 rfl fa_RX12_216 ob_120 fk_12_9 ?_
                    refine Ev.ldc2 (pc' := 105) dX12_isName_102 rfl ll_RX12_255 ?_
                    refine Ef.lc_eq (pc1 := 106) (pc' := 109) (tgt := 164) dX12_isName_105 rfl dX12_isName_106 rfl rfl (fun hc => ?_) (fun hc => ?_)
                    · have h := h.1 hc
                      exact okX12_isName_b164 h
                    · have h := h.2 hc
                      refine Ev.aload_n (k := 0) (pc' := 110) dX12_isName_109 rfl rfl rfl ?_
                      refine Ev.getL (pc' := 113) dX12_isName_110 rfl fa_RX12_216 ob_120 fk_12_9 ?_
                      refine Ev.ldc2 (pc' := 116) dX12_isName_113 rfl ll_RX12_257 ?_
                      refine Ef.lc_eq (pc1 := 117) (pc' := 120) (tgt := 164) dX12_isName_116 rfl dX12_isName_117 rfl rfl (fun hc => ?_) (fun hc => ?_)
                      · have h := h.1 hc
                        exact okX12_isName_b164 h
                      · have h := h.2 hc
                        refine Ev.aload_n (k := 0) (pc' := 121) dX12_isName_120 rfl rfl rfl ?_
                        refine Ev.getL (pc' := 124) dX12_isName_121 rfl fa_RX12_216 ob_120 fk_12_9 ?_
                        refine Ev.ldc2 (pc' := 127) dX12_isName_124 rfl ll_RX12_259 ?_
                        refine Ef.lc_eq (pc1 := 128) (pc' := 131) (tgt := 164) dX12_isName_127 rfl dX12_isName_128 rfl rfl (fun hc => ?_) (fun hc => ?_)
                        · have h := h.1 hc
                          exact okX12_isName_b164 h
                        · have h := h.2 hc
                          refine Ev.aload_n (k := 0) (pc' := 132) dX12_isName_131 rfl rfl rfl ?_
                          refine Ev.getL (pc' := 135) dX12_isName_132 rfl fa_RX12_216 ob_120 fk_12_9 ?_
                          refine Ev.ldc2 (pc' := 138) dX12_isName_135 rfl ll_RX12_261 ?_
                          refine Ef.lc_eq (pc1 := 139) (pc' := 142) (tgt := 164) dX12_isName_138 rfl dX12_isName_139 rfl rfl (fun hc => ?_) (fun hc => ?_)
                          · have h := h.1 hc
                            exact okX12_isName_b164 h
                          · have h := h.2 hc
                            refine Ev.aload_n (k := 0) (pc' := 143) dX12_isName_142 rfl rfl rfl ?_
                            refine Ev.getL (pc' := 146) dX12_isName_143 rfl fa_RX12_216 ob_120 fk_12_9 ?_
                            refine Ev.ldc2 (pc' := 149) dX12_isName_146 rfl ll_RX12_263 ?_
                            refine Ef.lc_eq (pc1 := 150) (pc' := 153) (tgt := 164) dX12_isName_149 rfl dX12_isName_150 rfl rfl (fun hc => ?_) (fun hc => ?_)
                            · have h := h.1 hc
                              exact okX12_isName_b164 h
                            · have h := h.2 hc
                              refine Ev.aload_n (k := 0) (pc' := 154) dX12_isName_153 rfl rfl rfl ?_
                              refine Ev.getL (pc' := 157) dX12_isName_154 rfl fa_RX12_216 ob_120 fk_12_9 ?_
                              refine Ev.ldc2 (pc' := 160) dX12_isName_157 rfl ll_RX12_265 ?_
                              refine Ef.lc_ne (pc1 := 161) (pc' := 164) (tgt := 168) dX12_isName_160 rfl dX12_isName_161 rfl rfl (fun hc => ?_) (fun hc => ?_)
                              · have h := h.1 hc
                                refine Ev.iconst (pc' := 169) dX12_isName_168 rfl ki_0 ?_
                                exact okX12_isName_b169 h
                              · have h := h.2 hc
                                exact okX12_isName_b164 h
  · have h := h.2 hc
    refine Ev.iconst (pc' := 9) dX12_isName_8 rfl ki_0 ?_
    exact Ef.zret (b := false) dX12_isName_9 rfl h
def wpX12_find_l6 (r0 : Nat) (N0 : Nat) (Q : Int32 → Ix → Lx → Prop) (P6 : Int32 → Int64 → Int32 → Int32 → Ix → Lx → Prop) (v1 : Int32) (v2 : Int64) (v4 : Int32) (v5 : Int32) (I : Ix) (L : Lx) : Prop := (v1 ≤ v5 → Q v4 I L) ∧ (¬ v1 ≤ v5 → vp_in v5 N0 ∧ (¬ (L r0 v5.toNatClampNeg) = v2 → P6 v1 v2 v4 (v5 + 1) I L) ∧ ((L r0 v5.toNatClampNeg) = v2 → P6 v1 v2 v5 (v5 + 1) I L))
def wpX12_find_h6 (r0 : Nat) (N0 : Nat) (Q : Int32 → Ix → Lx → Prop) (v1 : Int32) (v2 : Int64) (v4 : Int32) (v5 : Int32) (I : Ix) (L : Lx) : Prop := Lfp (X := Int32 × Int64 × Int32 × Int32 × Ix × Lx) (fun P z => wpX12_find_l6 r0 N0 Q (fun v1 v2 v4 v5 I L => P (v1, v2, v4, v5, I, L)) z.1 z.2.1 z.2.2.1 z.2.2.2.1 z.2.2.2.2.1 z.2.2.2.2.2) (v1, v2, v4, v5, I, L)
theorem wpX12_find_h6_fold {r0 : Nat} {N0 : Nat} {Q : Int32 → Ix → Lx → Prop} {v1 : Int32} {v2 : Int64} {v4 : Int32} {v5 : Int32} {I : Ix} {L : Lx} (h : wpX12_find_l6 r0 N0 Q (wpX12_find_h6 r0 N0 Q) v1 v2 v4 v5 I L) : wpX12_find_h6 r0 N0 Q v1 v2 v4 v5 I L := Lfp.fold h
def wpX12_find (r0 : Nat) (N0 : Nat) (a1 : Int32) (a2 : Int64) (I : Ix) (L : Lx) (Q : Int32 → Ix → Lx → Prop) : Prop := wpX12_find_h6 r0 N0 Q a1 a2 (-1) 0 I L
set_option maxRecDepth 10000 in
theorem okX12_find_l6 {G : Gx} {r0 : Nat} {N0 : Nat} (hr0 : AR 178 r0 1 N0) {Q : Int32 → Ix → Lx → Prop} {P6 : Int32 → Int64 → Int32 → Int32 → Ix → Lx → Prop} (hP6 : ∀ (v1 : Int32) (v2 : Int64) (v4 : Int32) (v5 : Int32) (I : Ix) (L : Lx), P6 v1 v2 v4 v5 I L → Ef G MX12_find (qI Q) 6 [(0, .ref r0), (1, .int v1), (2, .long v2), (4, .int v4), (5, .int v5)] [] I L) {v1 : Int32} {v2 : Int64} {v4 : Int32} {v5 : Int32} {I : Ix} {L : Lx} (h : wpX12_find_l6 r0 N0 Q P6 v1 v2 v4 v5 I L) : Ef G MX12_find (qI Q) 6 [(0, .ref r0), (1, .int v1), (2, .long v2), (4, .int v4), (5, .int v5)] [] I L := by
  unfold wpX12_find_l6 at h
  refine Ev.iload (k := 4) (pc' := 8) dX12_find_6 rfl rfl ?_
  refine Ev.iload_n (k := 1) (pc' := 9) dX12_find_8 rfl rfl rfl ?_
  refine Ev.icmp_ge (pc' := 12) (tgt := 36) dX12_find_9 rfl rfl (fun hc => ?_) (fun hc => ?_)
  · have h := h.1 hc
    refine Ev.iload (k := 3) (pc' := 38) dX12_find_36 rfl rfl ?_
    exact Ef.iret dX12_find_38 rfl h
  · have h := h.2 hc
    refine Ev.aload_n (k := 0) (pc' := 13) dX12_find_12 rfl rfl rfl ?_
    refine Ev.iload (k := 4) (pc' := 15) dX12_find_13 rfl rfl ?_
    refine Ev.laload (j := _) (pc' := 16) dX12_find_15 rfl hr0 h.1 rfl ?_
    have h := h.2
    refine Ev.lload_n (k := 2) (pc' := 17) dX12_find_16 rfl rfl rfl ?_
    refine Ef.lc_ne (pc1 := 18) (pc' := 21) (tgt := 26) dX12_find_17 rfl dX12_find_18 rfl rfl (fun hc => ?_) (fun hc => ?_)
    · have h := h.1 hc
      refine Ev.iload (k := 3) (pc' := 28) dX12_find_26 rfl rfl ?_
      refine Ev.istore (ls' := [(4, .int _), (0, .ref _), (1, .int _), (2, .long _), (5, .int _)]) (pc' := 30) dX12_find_28 rfl (Nat.le_of_ble_eq_true rfl) rfl ?_
      refine Ev.iinc (k := 4) (v := _) (ls' := [(5, .int _), (4, .int _), (0, .ref _), (1, .int _), (2, .long _)]) (pc' := 33) dX12_find_30 rfl rfl (congrArg (_ + ·) ki_1) (Nat.le_of_ble_eq_true rfl) rfl ?_
      refine Ev.goto (tgt := 6) dX12_find_33 rfl ?_
      exact Ev.sub [2, 3, 4, 1, 0] rfl (hP6 _ _ _ _ _ _ h)
    · have h := h.2 hc
      refine Ev.iload (k := 4) (pc' := 23) dX12_find_21 rfl rfl ?_
      refine Ev.goto (tgt := 28) dX12_find_23 rfl ?_
      refine Ev.istore (ls' := [(4, .int _), (0, .ref _), (1, .int _), (2, .long _), (5, .int _)]) (pc' := 30) dX12_find_28 rfl (Nat.le_of_ble_eq_true rfl) rfl ?_
      refine Ev.iinc (k := 4) (v := _) (ls' := [(5, .int _), (4, .int _), (0, .ref _), (1, .int _), (2, .long _)]) (pc' := 33) dX12_find_30 rfl rfl (congrArg (_ + ·) ki_1) (Nat.le_of_ble_eq_true rfl) rfl ?_
      refine Ev.goto (tgt := 6) dX12_find_33 rfl ?_
      exact Ev.sub [2, 3, 4, 1, 0] rfl (hP6 _ _ _ _ _ _ h)
set_option maxRecDepth 10000 in
theorem okX12_find_h6 {G : Gx} {r0 : Nat} {N0 : Nat} (hr0 : AR 178 r0 1 N0) {Q : Int32 → Ix → Lx → Prop} {v1 : Int32} {v2 : Int64} {v4 : Int32} {v5 : Int32} {I : Ix} {L : Lx} (h : wpX12_find_h6 r0 N0 Q v1 v2 v4 v5 I L) : Ef G MX12_find (qI Q) 6 [(0, .ref r0), (1, .int v1), (2, .long v2), (4, .int v4), (5, .int v5)] [] I L := by
  unfold wpX12_find_h6 at h
  refine Lfp.ind (P := fun z => Ef G MX12_find (qI Q) 6 [(0, .ref r0), (1, .int z.1), (2, .long z.2.1), (4, .int z.2.2.1), (5, .int z.2.2.2.1)] [] z.2.2.2.2.1 z.2.2.2.2.2) ?_ h
  intro z P' hP' h
  obtain ⟨v1, v2, v4, v5, I, L⟩ := z
  exact okX12_find_l6 hr0 (fun v1 v2 v4 v5 I L h9 => hP' (v1, v2, v4, v5, I, L) h9) h
set_option maxRecDepth 10000 in
theorem okX12_find {G : Gx} {r0 : Nat} {N0 : Nat} (hr0 : AR 178 r0 1 N0) {a1 : Int32} {a2 : Int64} {I : Ix} {L : Lx} {Q : Int32 → Ix → Lx → Prop} (h : wpX12_find r0 N0 a1 a2 I L Q) : Mf G MX12_find [.ref r0, .int a1, .long a2] I L (qI Q) := by
  unfold wpX12_find at h
  refine Mf.of pn_RX12 (Nat.le_of_ble_eq_true rfl) ?_
  refine Ev.iconst (pc' := 1) dX12_find_0 rfl ki_m1 ?_
  refine Ev.istore (ls' := [(4, .int _), (0, .ref _), (1, .int _), (2, .long _)]) (pc' := 3) dX12_find_1 rfl (Nat.le_of_ble_eq_true rfl) rfl ?_
  refine Ev.iconst (pc' := 4) dX12_find_3 rfl ki_0 ?_
  refine Ev.istore (ls' := [(5, .int _), (4, .int _), (0, .ref _), (1, .int _), (2, .long _)]) (pc' := 6) dX12_find_4 rfl (Nat.le_of_ble_eq_true rfl) rfl ?_
  exact Ev.sub [2, 3, 4, 1, 0] rfl (okX12_find_h6 hr0 h)
def wpX12_newName_b36 (r1 : Nat) (N1 : Nat) (Q : Int64 → Ix → Lx → Prop) (I : Ix) (L : Lx) : Prop := (¬ (I 120 2) = 0 → Q (L 120 9) I L) ∧ ((I 120 2) = 0 → wpX12_token I L (fun I1 L2 => Q (L 120 9) I1 L2))
def wpX12_newName (r1 : Nat) (N1 : Nat) (a2 : Int32) (I : Ix) (L : Lx) (Q : Int64 → Ix → Lx → Prop) : Prop := wpX12_token I L (fun I1 L2 => wpX12_isName I1 L2 (fun r5 I3 L4 => (r5 = true → wpX12_find r1 N1 a2 (L4 120 9) I3 L4 (fun r8 I6 L7 => (r8 < 0 → wpX12_newName_b36 r1 N1 Q I6 L7) ∧ (¬ r8 < 0 → wpX12_wrong 3 I6 L7 (fun I9 L10 => wpX12_newName_b36 r1 N1 Q I9 L10)))) ∧ (r5 = false → wpX12_wrong 2 I3 L4 (fun I11 L12 => wpX12_newName_b36 r1 N1 Q I11 L12))))
set_option maxRecDepth 10000 in
theorem okX12_newName_b36 {G : Gx} {r1 : Nat} {N1 : Nat} (hr1 : AR 178 r1 1 N1) {Q : Int64 → Ix → Lx → Prop} {I : Ix} {L : Lx} (h : wpX12_newName_b36 r1 N1 Q I L) : Ef G MX12_newName (qL Q) 36 [(0, .ref 120)] [] I L := by
  unfold wpX12_newName_b36 at h
  refine Ev.aload_n (k := 0) (pc' := 37) dX12_newName_36 rfl rfl rfl ?_
  refine Ev.getL (pc' := 40) dX12_newName_37 rfl fa_RX12_216 ob_120 fk_12_9 ?_
  refine Ev.lstore_n (ls' := [(3, .long _), (0, .ref _)]) (pc' := 41) dX12_newName_40 rfl rfl (Nat.le_of_ble_eq_true rfl) rfl ?_
  refine Ev.aload_n (k := 1) (pc' := 42) dX12_newName_41 rfl rfl rfl ?_
  refine Ev.getI (pc' := 45) dX12_newName_42 rfl fa_RX12_236 ob_120 fk_12_2 ?_
  refine Ev.if_ne (pc' := 48) (tgt := 52) dX12_newName_45 rfl rfl (fun hc => ?_) (fun hc => ?_)
  · have h := h.1 hc
    refine Ev.lload_n (k := 0) (pc' := 53) dX12_newName_52 rfl rfl rfl ?_
    exact Ef.lret dX12_newName_53 rfl h
  · have h := h.2 hc
    refine Ev.aload_n (k := 1) (pc' := 49) dX12_newName_48 rfl rfl rfl ?_
    refine Ef.callVV [] [] (pc' := 52) dX12_newName_49 rfl cv_RX12_302_X12_token ⟨Nat.le_of_ble_eq_true rfl, Nat.le_of_ble_eq_true rfl⟩ ob_120 rfl rfl rfl (Nat.le_of_ble_eq_true rfl) (okX12_token h) (fun I1 L2 h => ?_)
    refine Ev.lload_n (k := 0) (pc' := 53) dX12_newName_52 rfl rfl rfl ?_
    exact Ef.lret dX12_newName_53 rfl h
set_option maxRecDepth 10000 in
theorem okX12_newName {G : Gx} {r1 : Nat} {N1 : Nat} (hr1 : AR 178 r1 1 N1) {a2 : Int32} {I : Ix} {L : Lx} {Q : Int64 → Ix → Lx → Prop} (h : wpX12_newName r1 N1 a2 I L Q) : Mf G MX12_newName [.ref 120, .ref r1, .int a2] I L (qL Q) := by
  unfold wpX12_newName at h
  refine Mf.of pn_RX12 (Nat.le_of_ble_eq_true rfl) ?_
  refine Ev.aload_n (k := 0) (pc' := 1) dX12_newName_0 rfl rfl rfl ?_
  refine Ef.callVV [] [] (pc' := 4) dX12_newName_1 rfl cv_RX12_302_X12_token ⟨Nat.le_of_ble_eq_true rfl, Nat.le_of_ble_eq_true rfl⟩ ob_120 rfl rfl rfl (Nat.le_of_ble_eq_true rfl) (okX12_token h) (fun I1 L2 h => ?_)
  refine Ev.aload_n (k := 0) (pc' := 5) dX12_newName_4 rfl rfl rfl ?_
  refine Ef.callVZ [] [] (pc' := 8) dX12_newName_5 rfl cv_RX12_364_X12_isName ⟨Nat.le_of_ble_eq_true rfl, Nat.le_of_ble_eq_true rfl⟩ ob_120 rfl rfl rfl (Nat.le_of_ble_eq_true rfl) (okX12_isName h) (fun r5 I3 L4 h => ?_)
  refine Ef.ifz_ne (pc' := 11) (tgt := 19) dX12_newName_8 rfl rfl (fun hc => ?_) (fun hc => ?_)
  · have h := h.1 hc
    refine Ev.aload_n (k := 1) (pc' := 20) dX12_newName_19 rfl rfl rfl ?_
    refine Ev.iload_n (k := 2) (pc' := 21) dX12_newName_20 rfl rfl rfl ?_
    refine Ev.aload_n (k := 0) (pc' := 22) dX12_newName_21 rfl rfl rfl ?_
    refine Ev.getL (pc' := 25) dX12_newName_22 rfl fa_RX12_216 ob_120 fk_12_9 ?_
    refine Ef.callSI [.ref _, .int _, .long _] [] (pc' := 28) dX12_newName_25 rfl cv_RX12_367_X12_find ⟨Nat.le_of_ble_eq_true rfl, Nat.le_of_ble_eq_true rfl⟩ rfl rfl (Nat.le_of_ble_eq_true rfl) (okX12_find hr1 h) (fun r8 I6 L7 h => ?_)
    refine Ev.if_lt (pc' := 31) (tgt := 36) dX12_newName_28 rfl rfl (fun hc => ?_) (fun hc => ?_)
    · have h := h.1 hc
      exact Ev.sub [0] rfl (okX12_newName_b36 hr1 h)
    · have h := h.2 hc
      refine Ev.aload_n (k := 0) (pc' := 32) dX12_newName_31 rfl rfl rfl ?_
      refine Ev.iconst (pc' := 33) dX12_newName_32 rfl ki_3 ?_
      refine Ef.callVV [.int _] [] (pc' := 36) dX12_newName_33 rfl cv_RX12_299_X12_wrong ⟨Nat.le_of_ble_eq_true rfl, Nat.le_of_ble_eq_true rfl⟩ ob_120 rfl rfl rfl (Nat.le_of_ble_eq_true rfl) (okX12_wrong h) (fun I9 L10 h => ?_)
      exact Ev.sub [0] rfl (okX12_newName_b36 hr1 h)
  · have h := h.2 hc
    refine Ev.aload_n (k := 0) (pc' := 12) dX12_newName_11 rfl rfl rfl ?_
    refine Ev.iconst (pc' := 13) dX12_newName_12 rfl ki_2 ?_
    refine Ef.callVV [.int _] [] (pc' := 16) dX12_newName_13 rfl cv_RX12_299_X12_wrong ⟨Nat.le_of_ble_eq_true rfl, Nat.le_of_ble_eq_true rfl⟩ ob_120 rfl rfl rfl (Nat.le_of_ble_eq_true rfl) (okX12_wrong h) (fun I11 L12 h => ?_)
    refine Ev.goto (tgt := 36) dX12_newName_16 rfl ?_
    exact Ev.sub [0] rfl (okX12_newName_b36 hr1 h)
def wpX12_want (a1 : Int64) (I : Ix) (L : Lx) (Q : Ix → Lx → Prop) : Prop := ((I 120 2) ≤ 0 → wpX12_isWord a1 I L (fun r3 I1 L2 => (r3 = true → wpX12_token I1 L2 (fun I4 L5 => Q I4 L5)) ∧ (r3 = false → wpX12_wrong 2 I1 L2 (fun I6 L7 => Q I6 L7)))) ∧ (¬ (I 120 2) ≤ 0 → Q I L)
set_option maxRecDepth 10000 in
theorem okX12_want {G : Gx} {a1 : Int64} {I : Ix} {L : Lx} {Q : Ix → Lx → Prop} (h : wpX12_want a1 I L Q) : Mf G MX12_want [.ref 120, .long a1] I L (qV Q) := by
  unfold wpX12_want at h
  refine Mf.of pn_RX12 (Nat.le_of_ble_eq_true rfl) ?_
  refine Ev.aload_n (k := 0) (pc' := 1) dX12_want_0 rfl rfl rfl ?_
  refine Ev.getI (pc' := 4) dX12_want_1 rfl fa_RX12_236 ob_120 fk_12_2 ?_
  refine Ev.if_le (pc' := 7) (tgt := 8) dX12_want_4 rfl rfl (fun hc => ?_) (fun hc => ?_)
  · have h := h.1 hc
    refine Ev.aload_n (k := 0) (pc' := 9) dX12_want_8 rfl rfl rfl ?_
    refine Ev.lload_n (k := 1) (pc' := 10) dX12_want_9 rfl rfl rfl ?_
    refine Ef.callVZ [.long _] [] (pc' := 13) dX12_want_10 rfl cv_RX12_295_X12_isWord ⟨Nat.le_of_ble_eq_true rfl, Nat.le_of_ble_eq_true rfl⟩ ob_120 rfl rfl rfl (Nat.le_of_ble_eq_true rfl) (okX12_isWord h) (fun r3 I1 L2 h => ?_)
    refine Ef.ifz_ne (pc' := 16) (tgt := 24) dX12_want_13 rfl rfl (fun hc => ?_) (fun hc => ?_)
    · have h := h.1 hc
      refine Ev.aload_n (k := 0) (pc' := 25) dX12_want_24 rfl rfl rfl ?_
      refine Ef.callVV [] [] (pc' := 28) dX12_want_25 rfl cv_RX12_302_X12_token ⟨Nat.le_of_ble_eq_true rfl, Nat.le_of_ble_eq_true rfl⟩ ob_120 rfl rfl rfl (Nat.le_of_ble_eq_true rfl) (okX12_token h) (fun I4 L5 h => ?_)
      exact Ef.vret dX12_want_28 rfl h
    · have h := h.2 hc
      refine Ev.aload_n (k := 0) (pc' := 17) dX12_want_16 rfl rfl rfl ?_
      refine Ev.iconst (pc' := 18) dX12_want_17 rfl ki_2 ?_
      refine Ef.callVV [.int _] [] (pc' := 21) dX12_want_18 rfl cv_RX12_299_X12_wrong ⟨Nat.le_of_ble_eq_true rfl, Nat.le_of_ble_eq_true rfl⟩ ob_120 rfl rfl rfl (Nat.le_of_ble_eq_true rfl) (okX12_wrong h) (fun I6 L7 h => ?_)
      refine Ev.goto (tgt := 28) dX12_want_21 rfl ?_
      exact Ef.vret dX12_want_28 rfl h
  · have h := h.2 hc
    exact Ef.vret dX12_want_7 rfl h
def wpX12_oldPlace_b49 (Q : Int32 → Ix → Lx → Prop) (v1 : Int32) (I : Ix) (L : Lx) : Prop := (¬ (I 120 2) = 0 → Q v1 I L) ∧ ((I 120 2) = 0 → wpX12_token I L (fun I1 L2 => Q v1 I1 L2))
def wpX12_oldPlace (I : Ix) (L : Lx) (Q : Int32 → Ix → Lx → Prop) : Prop := ((I 120 2) ≤ 0 → wpX12_find 131 8 (I 120 36) (L 120 9) I L (fun r3 I1 L2 => wpX12_isName I1 L2 (fun r6 I4 L5 => (r6 = true → (0 ≤ r3 → wpX12_oldPlace_b49 Q r3 I4 L5) ∧ (¬ 0 ≤ r3 → wpX12_wrong 5 I4 L5 (fun I7 L8 => wpX12_oldPlace_b49 Q r3 I7 L8))) ∧ (r6 = false → wpX12_wrong 2 I4 L5 (fun I9 L10 => wpX12_oldPlace_b49 Q r3 I9 L10))))) ∧ (¬ (I 120 2) ≤ 0 → Q 0 I L)
set_option maxRecDepth 10000 in
theorem okX12_oldPlace_b49 {G : Gx} {Q : Int32 → Ix → Lx → Prop} {v1 : Int32} {I : Ix} {L : Lx} (h : wpX12_oldPlace_b49 Q v1 I L) : Ef G MX12_oldPlace (qI Q) 49 [(0, .ref 120), (1, .int v1)] [] I L := by
  unfold wpX12_oldPlace_b49 at h
  refine Ev.aload_n (k := 0) (pc' := 50) dX12_oldPlace_49 rfl rfl rfl ?_
  refine Ev.getI (pc' := 53) dX12_oldPlace_50 rfl fa_RX12_236 ob_120 fk_12_2 ?_
  refine Ev.if_ne (pc' := 56) (tgt := 60) dX12_oldPlace_53 rfl rfl (fun hc => ?_) (fun hc => ?_)
  · have h := h.1 hc
    refine Ev.iload_n (k := 1) (pc' := 61) dX12_oldPlace_60 rfl rfl rfl ?_
    exact Ef.iret dX12_oldPlace_61 rfl h
  · have h := h.2 hc
    refine Ev.aload_n (k := 0) (pc' := 57) dX12_oldPlace_56 rfl rfl rfl ?_
    refine Ef.callVV [] [] (pc' := 60) dX12_oldPlace_57 rfl cv_RX12_302_X12_token ⟨Nat.le_of_ble_eq_true rfl, Nat.le_of_ble_eq_true rfl⟩ ob_120 rfl rfl rfl (Nat.le_of_ble_eq_true rfl) (okX12_token h) (fun I1 L2 h => ?_)
    refine Ev.iload_n (k := 1) (pc' := 61) dX12_oldPlace_60 rfl rfl rfl ?_
    exact Ef.iret dX12_oldPlace_61 rfl h
set_option maxRecDepth 10000 in
theorem okX12_oldPlace {G : Gx} {I : Ix} {L : Lx} {Q : Int32 → Ix → Lx → Prop} (h : wpX12_oldPlace I L Q) : Mf G MX12_oldPlace [.ref 120] I L (qI Q) := by
  unfold wpX12_oldPlace at h
  refine Mf.of pn_RX12 (Nat.le_of_ble_eq_true rfl) ?_
  refine Ev.aload_n (k := 0) (pc' := 1) dX12_oldPlace_0 rfl rfl rfl ?_
  refine Ev.getI (pc' := 4) dX12_oldPlace_1 rfl fa_RX12_236 ob_120 fk_12_2 ?_
  refine Ev.if_le (pc' := 7) (tgt := 9) dX12_oldPlace_4 rfl rfl (fun hc => ?_) (fun hc => ?_)
  · have h := h.1 hc
    refine Ev.aload_n (k := 0) (pc' := 10) dX12_oldPlace_9 rfl rfl rfl ?_
    refine Ev.getR (pc' := 13) dX12_oldPlace_10 rfl fa_RX12_44 ob_120 fk_12_24 rf_120_24 ?_
    refine Ev.aload_n (k := 0) (pc' := 14) dX12_oldPlace_13 rfl rfl rfl ?_
    refine Ev.getI (pc' := 17) dX12_oldPlace_14 rfl fa_RX12_371 ob_120 fk_12_36 ?_
    refine Ev.aload_n (k := 0) (pc' := 18) dX12_oldPlace_17 rfl rfl rfl ?_
    refine Ev.getL (pc' := 21) dX12_oldPlace_18 rfl fa_RX12_216 ob_120 fk_12_9 ?_
    refine Ef.callSI [.ref _, .int _, .long _] [] (pc' := 24) dX12_oldPlace_21 rfl cv_RX12_367_X12_find ⟨Nat.le_of_ble_eq_true rfl, Nat.le_of_ble_eq_true rfl⟩ rfl rfl (Nat.le_of_ble_eq_true rfl) (okX12_find ar_131 h) (fun r3 I1 L2 h => ?_)
    refine Ev.istore_n (ls' := [(1, .int _), (0, .ref _)]) (pc' := 25) dX12_oldPlace_24 rfl rfl (Nat.le_of_ble_eq_true rfl) rfl ?_
    refine Ev.aload_n (k := 1) (pc' := 26) dX12_oldPlace_25 rfl rfl rfl ?_
    refine Ef.callVZ [] [] (pc' := 29) dX12_oldPlace_26 rfl cv_RX12_364_X12_isName ⟨Nat.le_of_ble_eq_true rfl, Nat.le_of_ble_eq_true rfl⟩ ob_120 rfl rfl rfl (Nat.le_of_ble_eq_true rfl) (okX12_isName h) (fun r6 I4 L5 h => ?_)
    refine Ef.ifz_ne (pc' := 32) (tgt := 40) dX12_oldPlace_29 rfl rfl (fun hc => ?_) (fun hc => ?_)
    · have h := h.1 hc
      refine Ev.iload_n (k := 0) (pc' := 41) dX12_oldPlace_40 rfl rfl rfl ?_
      refine Ev.if_ge (pc' := 44) (tgt := 49) dX12_oldPlace_41 rfl rfl (fun hc => ?_) (fun hc => ?_)
      · have h := h.1 hc
        exact Ev.sub [1, 0] rfl (okX12_oldPlace_b49 h)
      · have h := h.2 hc
        refine Ev.aload_n (k := 1) (pc' := 45) dX12_oldPlace_44 rfl rfl rfl ?_
        refine Ev.iconst (pc' := 46) dX12_oldPlace_45 rfl ki_5 ?_
        refine Ef.callVV [.int _] [] (pc' := 49) dX12_oldPlace_46 rfl cv_RX12_299_X12_wrong ⟨Nat.le_of_ble_eq_true rfl, Nat.le_of_ble_eq_true rfl⟩ ob_120 rfl rfl rfl (Nat.le_of_ble_eq_true rfl) (okX12_wrong h) (fun I7 L8 h => ?_)
        exact Ev.sub [1, 0] rfl (okX12_oldPlace_b49 h)
    · have h := h.2 hc
      refine Ev.aload_n (k := 1) (pc' := 33) dX12_oldPlace_32 rfl rfl rfl ?_
      refine Ev.iconst (pc' := 34) dX12_oldPlace_33 rfl ki_2 ?_
      refine Ef.callVV [.int _] [] (pc' := 37) dX12_oldPlace_34 rfl cv_RX12_299_X12_wrong ⟨Nat.le_of_ble_eq_true rfl, Nat.le_of_ble_eq_true rfl⟩ ob_120 rfl rfl rfl (Nat.le_of_ble_eq_true rfl) (okX12_wrong h) (fun I9 L10 h => ?_)
      refine Ev.goto (tgt := 49) dX12_oldPlace_37 rfl ?_
      exact Ev.sub [1, 0] rfl (okX12_oldPlace_b49 h)
  · have h := h.2 hc
    refine Ev.iconst (pc' := 8) dX12_oldPlace_7 rfl ki_0 ?_
    exact Ef.iret dX12_oldPlace_8 rfl h
def wpX12_atPlace (I : Ix) (L : Lx) (Q : Int32 → Ix → Lx → Prop) : Prop := wpX12_want 24948 I L (fun I1 L2 => wpX12_oldPlace I1 L2 (fun r5 I3 L4 => Q r5 I3 L4))
set_option maxRecDepth 10000 in
theorem okX12_atPlace {G : Gx} {I : Ix} {L : Lx} {Q : Int32 → Ix → Lx → Prop} (h : wpX12_atPlace I L Q) : Mf G MX12_atPlace [.ref 120] I L (qI Q) := by
  unfold wpX12_atPlace at h
  refine Mf.of pn_RX12 (Nat.le_of_ble_eq_true rfl) ?_
  refine Ev.aload_n (k := 0) (pc' := 1) dX12_atPlace_0 rfl rfl rfl ?_
  refine Ev.ldc2 (pc' := 4) dX12_atPlace_1 rfl ll_RX12_249 ?_
  refine Ef.callVV [.long _] [] (pc' := 7) dX12_atPlace_4 rfl cv_RX12_305_X12_want ⟨Nat.le_of_ble_eq_true rfl, Nat.le_of_ble_eq_true rfl⟩ ob_120 rfl rfl rfl (Nat.le_of_ble_eq_true rfl) (okX12_want h) (fun I1 L2 h => ?_)
  refine Ev.aload_n (k := 0) (pc' := 8) dX12_atPlace_7 rfl rfl rfl ?_
  refine Ef.callVI [] [] (pc' := 11) dX12_atPlace_8 rfl cv_RX12_374_X12_oldPlace ⟨Nat.le_of_ble_eq_true rfl, Nat.le_of_ble_eq_true rfl⟩ ob_120 rfl rfl rfl (Nat.le_of_ble_eq_true rfl) (okX12_oldPlace h) (fun r5 I3 L4 h => ?_)
  exact Ef.iret dX12_atPlace_11 rfl h
def wpX12_told (a1 : Int64) (a3 : Int32) (a4 : Int32) (I : Ix) (L : Lx) (Q : Int32 → Ix → Lx → Prop) : Prop := wpX12_want a1 I L (fun I1 L2 => wpX12_toldNumber a3 a4 I1 L2 (fun r5 I3 L4 => Q r5 I3 L4))
set_option maxRecDepth 10000 in
theorem okX12_told {G : Gx} {a1 : Int64} {a3 : Int32} {a4 : Int32} {I : Ix} {L : Lx} {Q : Int32 → Ix → Lx → Prop} (h : wpX12_told a1 a3 a4 I L Q) : Mf G MX12_told [.ref 120, .long a1, .int a3, .int a4] I L (qI Q) := by
  unfold wpX12_told at h
  refine Mf.of pn_RX12 (Nat.le_of_ble_eq_true rfl) ?_
  refine Ev.aload_n (k := 0) (pc' := 1) dX12_told_0 rfl rfl rfl ?_
  refine Ev.lload_n (k := 1) (pc' := 2) dX12_told_1 rfl rfl rfl ?_
  refine Ef.callVV [.long _] [] (pc' := 5) dX12_told_2 rfl cv_RX12_305_X12_want ⟨Nat.le_of_ble_eq_true rfl, Nat.le_of_ble_eq_true rfl⟩ ob_120 rfl rfl rfl (Nat.le_of_ble_eq_true rfl) (okX12_want h) (fun I1 L2 h => ?_)
  refine Ev.aload_n (k := 0) (pc' := 6) dX12_told_5 rfl rfl rfl ?_
  refine Ev.iload_n (k := 2) (pc' := 7) dX12_told_6 rfl rfl rfl ?_
  refine Ev.iload (k := 3) (pc' := 9) dX12_told_7 rfl rfl ?_
  refine Ef.callVI [.int _, .int _] [] (pc' := 12) dX12_told_9 rfl cv_RX12_309_X12_toldNumber ⟨Nat.le_of_ble_eq_true rfl, Nat.le_of_ble_eq_true rfl⟩ ob_120 rfl rfl rfl (Nat.le_of_ble_eq_true rfl) (okX12_toldNumber h) (fun r5 I3 L4 h => ?_)
  exact Ef.iret dX12_told_12 rfl h
def wpX12_upper (I : Ix) (L : Lx) (Q : Int32 → Ix → Lx → Prop) : Prop := (¬ (I 120 22) = 0 → vp_in ((I 120 22) - 1) 300 ∧ Q (I 128 ((I 120 22) - 1).toNatClampNeg) I L) ∧ ((I 120 22) = 0 → Q 40 I L)
set_option maxRecDepth 10000 in
theorem okX12_upper {G : Gx} {I : Ix} {L : Lx} {Q : Int32 → Ix → Lx → Prop} (h : wpX12_upper I L Q) : Mf G MX12_upper [.ref 120] I L (qI Q) := by
  unfold wpX12_upper at h
  refine Mf.of pn_RX12 (Nat.le_of_ble_eq_true rfl) ?_
  refine Ev.aload_n (k := 0) (pc' := 1) dX12_upper_0 rfl rfl rfl ?_
  refine Ev.getI (pc' := 4) dX12_upper_1 rfl fa_RX12_316 ob_120 fk_12_22 ?_
  refine Ev.if_ne (pc' := 7) (tgt := 12) dX12_upper_4 rfl rfl (fun hc => ?_) (fun hc => ?_)
  · have h := h.1 hc
    refine Ev.aload_n (k := 0) (pc' := 13) dX12_upper_12 rfl rfl rfl ?_
    refine Ev.getR (pc' := 16) dX12_upper_13 rfl fa_RX12_35 ob_120 fk_12_16 rf_120_16 ?_
    refine Ev.aload_n (k := 0) (pc' := 17) dX12_upper_16 rfl rfl rfl ?_
    refine Ev.getI (pc' := 20) dX12_upper_17 rfl fa_RX12_316 ob_120 fk_12_22 ?_
    refine Ev.iconst (pc' := 21) dX12_upper_20 rfl ki_1 ?_
    refine Ev.isub (pc' := 22) dX12_upper_21 rfl ?_
    refine Ev.iaload (j := _) (pc' := 23) dX12_upper_22 rfl ar_128 h.1 rfl ?_
    have h := h.2
    exact Ef.iret dX12_upper_23 rfl h
  · have h := h.2 hc
    refine Ev.bipush (pc' := 9) dX12_upper_7 rfl kb_40 ?_
    refine Ev.goto (tgt := 23) dX12_upper_9 rfl ?_
    exact Ef.iret dX12_upper_23 rfl h
def wpX12_rank_b23 (Q : Int32 → Ix → Lx → Prop) (I : Ix) (L : Lx) : Prop := Q 23 I L
def wpX12_rank (a0 : Int32) (I : Ix) (L : Lx) (Q : Int32 → Ix → Lx → Prop) : Prop := (¬ a0 = 27 → (a0 = 24 → wpX12_rank_b23 Q I L) ∧ (¬ a0 = 24 → (¬ a0 = 25 → Q a0 I L) ∧ (a0 = 25 → wpX12_rank_b23 Q I L))) ∧ (a0 = 27 → Q 26 I L)
set_option maxRecDepth 10000 in
theorem okX12_rank_b23 {G : Gx} {Q : Int32 → Ix → Lx → Prop} {I : Ix} {L : Lx} (h : wpX12_rank_b23 Q I L) : Ef G MX12_rank (qI Q) 23 [] [] I L := by
  unfold wpX12_rank_b23 at h
  refine Ev.bipush (pc' := 25) dX12_rank_23 rfl kb_23 ?_
  refine Ev.goto (tgt := 29) dX12_rank_25 rfl ?_
  exact Ef.iret dX12_rank_29 rfl h
set_option maxRecDepth 10000 in
theorem okX12_rank {G : Gx} {a0 : Int32} {I : Ix} {L : Lx} {Q : Int32 → Ix → Lx → Prop} (h : wpX12_rank a0 I L Q) : Mf G MX12_rank [.int a0] I L (qI Q) := by
  unfold wpX12_rank at h
  refine Mf.of pn_RX12 (Nat.le_of_ble_eq_true rfl) ?_
  refine Ev.iload_n (k := 0) (pc' := 1) dX12_rank_0 rfl rfl rfl ?_
  refine Ev.bipush (pc' := 3) dX12_rank_1 rfl kb_27 ?_
  refine Ev.icmp_ne (pc' := 6) (tgt := 11) dX12_rank_3 rfl rfl (fun hc => ?_) (fun hc => ?_)
  · have h := h.1 hc
    refine Ev.iload_n (k := 0) (pc' := 12) dX12_rank_11 rfl rfl rfl ?_
    refine Ev.bipush (pc' := 14) dX12_rank_12 rfl kb_24 ?_
    refine Ev.icmp_eq (pc' := 17) (tgt := 23) dX12_rank_14 rfl rfl (fun hc => ?_) (fun hc => ?_)
    · have h := h.1 hc
      exact Ev.sub [] rfl (okX12_rank_b23 h)
    · have h := h.2 hc
      refine Ev.iload_n (k := 0) (pc' := 18) dX12_rank_17 rfl rfl rfl ?_
      refine Ev.bipush (pc' := 20) dX12_rank_18 rfl kb_25 ?_
      refine Ev.icmp_ne (pc' := 23) (tgt := 28) dX12_rank_20 rfl rfl (fun hc => ?_) (fun hc => ?_)
      · have h := h.1 hc
        refine Ev.iload_n (k := 0) (pc' := 29) dX12_rank_28 rfl rfl rfl ?_
        exact Ef.iret dX12_rank_29 rfl h
      · have h := h.2 hc
        exact Ev.sub [] rfl (okX12_rank_b23 h)
  · have h := h.2 hc
    refine Ev.bipush (pc' := 8) dX12_rank_6 rfl kb_26 ?_
    refine Ev.goto (tgt := 29) dX12_rank_8 rfl ?_
    exact Ef.iret dX12_rank_29 rfl h
def wpX12_note (a1 : Int32) (a2 : Int32) (I : Ix) (L : Lx) (Q : Ix → Lx → Prop) : Prop := vp_in (I 120 19) 640 ∧ ∀ I1 : Ix, I1 = pu I 122 (I 120 19).toNatClampNeg a1 → vp_in (I1 120 19) 640 ∧ ∀ I2 : Ix, I2 = pu I1 123 (I1 120 19).toNatClampNeg a2 → ∀ I3 : Ix, I3 = pu I2 120 19 ((I2 120 19) + 1) → Q I3 L
set_option maxRecDepth 10000 in
theorem okX12_note {G : Gx} {a1 : Int32} {a2 : Int32} {I : Ix} {L : Lx} {Q : Ix → Lx → Prop} (h : wpX12_note a1 a2 I L Q) : Mf G MX12_note [.ref 120, .int a1, .int a2] I L (qV Q) := by
  unfold wpX12_note at h
  refine Mf.of pn_RX12 (Nat.le_of_ble_eq_true rfl) ?_
  refine Ev.aload_n (k := 0) (pc' := 1) dX12_note_0 rfl rfl rfl ?_
  refine Ev.getR (pc' := 4) dX12_note_1 rfl fa_RX12_17 ob_120 fk_12_10 rf_120_10 ?_
  refine Ev.aload_n (k := 0) (pc' := 5) dX12_note_4 rfl rfl rfl ?_
  refine Ev.getI (pc' := 8) dX12_note_5 rfl fa_RX12_313 ob_120 fk_12_19 ?_
  refine Ev.iload_n (k := 1) (pc' := 9) dX12_note_8 rfl rfl rfl ?_
  refine Ev.iastore (j := _) (pc' := 10) dX12_note_9 rfl ar_122 h.1 rfl (fun I1 eI1 => ?_)
  have h := h.2 I1 eI1
  refine Ev.aload_n (k := 0) (pc' := 11) dX12_note_10 rfl rfl rfl ?_
  refine Ev.getR (pc' := 14) dX12_note_11 rfl fa_RX12_20 ob_120 fk_12_11 rf_120_11 ?_
  refine Ev.aload_n (k := 0) (pc' := 15) dX12_note_14 rfl rfl rfl ?_
  refine Ev.getI (pc' := 18) dX12_note_15 rfl fa_RX12_313 ob_120 fk_12_19 ?_
  refine Ev.iload_n (k := 2) (pc' := 19) dX12_note_18 rfl rfl rfl ?_
  refine Ev.iastore (j := _) (pc' := 20) dX12_note_19 rfl ar_123 h.1 rfl (fun I2 eI2 => ?_)
  have h := h.2 I2 eI2
  refine Ev.aload_n (k := 0) (pc' := 21) dX12_note_20 rfl rfl rfl ?_
  refine Ev.dup (pc' := 22) dX12_note_21 rfl rfl ?_
  refine Ev.getI (pc' := 25) dX12_note_22 rfl fa_RX12_313 ob_120 fk_12_19 ?_
  refine Ev.iconst (pc' := 26) dX12_note_25 rfl ki_1 ?_
  refine Ev.iadd (pc' := 27) dX12_note_26 rfl ?_
  refine Ev.putI (pc' := 30) dX12_note_27 rfl fa_RX12_313 ob_120 fk_12_19 rfl rfl (fun I3 eI3 => ?_)
  have h := h I3 eI3
  exact Ef.vret dX12_note_30 rfl h
def wpX12_pop_b34 (Q : Ix → Lx → Prop) (I : Ix) (L : Lx) : Prop := vp_in (I 120 22) 300 ∧ wpX12_note (I 128 (I 120 22).toNatClampNeg) 0 I L (fun I1 L2 => Q I1 L2)
def wpX12_pop (I : Ix) (L : Lx) (Q : Ix → Lx → Prop) : Prop := ∀ I1 : Ix, I1 = pu I 120 22 ((I 120 22) - 1) → vp_in (I1 120 22) 300 ∧ (¬ (I1 128 (I1 120 22).toNatClampNeg) = 22 → wpX12_pop_b34 Q I1 L) ∧ ((I1 128 (I1 120 22).toNatClampNeg) = 22 → ∀ I2 : Ix, I2 = pu I1 120 23 ((I1 120 23) - 1) → wpX12_pop_b34 Q I2 L)
set_option maxRecDepth 10000 in
theorem okX12_pop_b34 {G : Gx} {Q : Ix → Lx → Prop} {I : Ix} {L : Lx} (h : wpX12_pop_b34 Q I L) : Ef G MX12_pop (qV Q) 34 [(0, .ref 120)] [] I L := by
  unfold wpX12_pop_b34 at h
  refine Ev.aload_n (k := 0) (pc' := 35) dX12_pop_34 rfl rfl rfl ?_
  refine Ev.aload_n (k := 0) (pc' := 36) dX12_pop_35 rfl rfl rfl ?_
  refine Ev.getR (pc' := 39) dX12_pop_36 rfl fa_RX12_35 ob_120 fk_12_16 rf_120_16 ?_
  refine Ev.aload_n (k := 0) (pc' := 40) dX12_pop_39 rfl rfl rfl ?_
  refine Ev.getI (pc' := 43) dX12_pop_40 rfl fa_RX12_316 ob_120 fk_12_22 ?_
  refine Ev.iaload (j := _) (pc' := 44) dX12_pop_43 rfl ar_128 h.1 rfl ?_
  have h := h.2
  refine Ev.iconst (pc' := 45) dX12_pop_44 rfl ki_0 ?_
  refine Ef.callVV [.int _, .int _] [] (pc' := 48) dX12_pop_45 rfl cv_RX12_322_X12_note ⟨Nat.le_of_ble_eq_true rfl, Nat.le_of_ble_eq_true rfl⟩ ob_120 rfl rfl rfl (Nat.le_of_ble_eq_true rfl) (okX12_note h) (fun I1 L2 h => ?_)
  exact Ef.vret dX12_pop_48 rfl h
set_option maxRecDepth 10000 in
theorem okX12_pop {G : Gx} {I : Ix} {L : Lx} {Q : Ix → Lx → Prop} (h : wpX12_pop I L Q) : Mf G MX12_pop [.ref 120] I L (qV Q) := by
  unfold wpX12_pop at h
  refine Mf.of pn_RX12 (Nat.le_of_ble_eq_true rfl) ?_
  refine Ev.aload_n (k := 0) (pc' := 1) dX12_pop_0 rfl rfl rfl ?_
  refine Ev.dup (pc' := 2) dX12_pop_1 rfl rfl ?_
  refine Ev.getI (pc' := 5) dX12_pop_2 rfl fa_RX12_316 ob_120 fk_12_22 ?_
  refine Ev.iconst (pc' := 6) dX12_pop_5 rfl ki_1 ?_
  refine Ev.isub (pc' := 7) dX12_pop_6 rfl ?_
  refine Ev.putI (pc' := 10) dX12_pop_7 rfl fa_RX12_316 ob_120 fk_12_22 rfl rfl (fun I1 eI1 => ?_)
  have h := h I1 eI1
  refine Ev.aload_n (k := 0) (pc' := 11) dX12_pop_10 rfl rfl rfl ?_
  refine Ev.getR (pc' := 14) dX12_pop_11 rfl fa_RX12_35 ob_120 fk_12_16 rf_120_16 ?_
  refine Ev.aload_n (k := 0) (pc' := 15) dX12_pop_14 rfl rfl rfl ?_
  refine Ev.getI (pc' := 18) dX12_pop_15 rfl fa_RX12_316 ob_120 fk_12_22 ?_
  refine Ev.iaload (j := _) (pc' := 19) dX12_pop_18 rfl ar_128 h.1 rfl ?_
  have h := h.2
  refine Ev.bipush (pc' := 21) dX12_pop_19 rfl kb_22 ?_
  refine Ev.icmp_ne (pc' := 24) (tgt := 34) dX12_pop_21 rfl rfl (fun hc => ?_) (fun hc => ?_)
  · have h := h.1 hc
    exact okX12_pop_b34 h
  · have h := h.2 hc
    refine Ev.aload_n (k := 0) (pc' := 25) dX12_pop_24 rfl rfl rfl ?_
    refine Ev.dup (pc' := 26) dX12_pop_25 rfl rfl ?_
    refine Ev.getI (pc' := 29) dX12_pop_26 rfl fa_RX12_319 ob_120 fk_12_23 ?_
    refine Ev.iconst (pc' := 30) dX12_pop_29 rfl ki_1 ?_
    refine Ev.isub (pc' := 31) dX12_pop_30 rfl ?_
    refine Ev.putI (pc' := 34) dX12_pop_31 rfl fa_RX12_319 ob_120 fk_12_23 rfl rfl (fun I2 eI2 => ?_)
    have h := h I2 eI2
    exact okX12_pop_b34 h
def wpX12_settle_l0 (Q : Ix → Lx → Prop) (P0 : Int32 → Ix → Lx → Prop) (v1 : Int32) (I : Ix) (L : Lx) : Prop := wpX12_upper I L (fun r3 I1 L2 => (r3 = 40 → Q I1 L2) ∧ (¬ r3 = 40 → wpX12_upper I1 L2 (fun r6 I4 L5 => wpX12_rank r6 I4 L5 (fun r9 I7 L8 => (r9 < v1 → Q I7 L8) ∧ (¬ r9 < v1 → wpX12_pop I7 L8 (fun I10 L11 => P0 v1 I10 L11))))))
def wpX12_settle_h0 (Q : Ix → Lx → Prop) (v1 : Int32) (I : Ix) (L : Lx) : Prop := Lfp (X := Int32 × Ix × Lx) (fun P z => wpX12_settle_l0 Q (fun v1 I L => P (v1, I, L)) z.1 z.2.1 z.2.2) (v1, I, L)
theorem wpX12_settle_h0_fold {Q : Ix → Lx → Prop} {v1 : Int32} {I : Ix} {L : Lx} (h : wpX12_settle_l0 Q (wpX12_settle_h0 Q) v1 I L) : wpX12_settle_h0 Q v1 I L := Lfp.fold h
def wpX12_settle (a1 : Int32) (I : Ix) (L : Lx) (Q : Ix → Lx → Prop) : Prop := wpX12_settle_h0 Q a1 I L
set_option maxRecDepth 10000 in
theorem okX12_settle_l0 {G : Gx} {Q : Ix → Lx → Prop} {P0 : Int32 → Ix → Lx → Prop} (hP0 : ∀ (v1 : Int32) (I : Ix) (L : Lx), P0 v1 I L → Ef G MX12_settle (qV Q) 0 [(0, .ref 120), (1, .int v1)] [] I L) {v1 : Int32} {I : Ix} {L : Lx} (h : wpX12_settle_l0 Q P0 v1 I L) : Ef G MX12_settle (qV Q) 0 [(0, .ref 120), (1, .int v1)] [] I L := by
  unfold wpX12_settle_l0 at h
  refine Ev.aload_n (k := 0) (pc' := 1) dX12_settle_0 rfl rfl rfl ?_
  refine Ef.callVI [] [] (pc' := 4) dX12_settle_1 rfl cv_RX12_326_X12_upper ⟨Nat.le_of_ble_eq_true rfl, Nat.le_of_ble_eq_true rfl⟩ ob_120 rfl rfl rfl (Nat.le_of_ble_eq_true rfl) (okX12_upper h) (fun r3 I1 L2 h => ?_)
  refine Ev.bipush (pc' := 6) dX12_settle_4 rfl kb_40 ?_
  refine Ev.icmp_eq (pc' := 9) (tgt := 27) dX12_settle_6 rfl rfl (fun hc => ?_) (fun hc => ?_)
  · have h := h.1 hc
    exact Ef.vret dX12_settle_27 rfl h
  · have h := h.2 hc
    refine Ev.aload_n (k := 0) (pc' := 10) dX12_settle_9 rfl rfl rfl ?_
    refine Ef.callVI [] [] (pc' := 13) dX12_settle_10 rfl cv_RX12_326_X12_upper ⟨Nat.le_of_ble_eq_true rfl, Nat.le_of_ble_eq_true rfl⟩ ob_120 rfl rfl rfl (Nat.le_of_ble_eq_true rfl) (okX12_upper h) (fun r6 I4 L5 h => ?_)
    refine Ef.callSI [.int _] [] (pc' := 16) dX12_settle_13 rfl cv_RX12_330_X12_rank ⟨Nat.le_of_ble_eq_true rfl, Nat.le_of_ble_eq_true rfl⟩ rfl rfl (Nat.le_of_ble_eq_true rfl) (okX12_rank h) (fun r9 I7 L8 h => ?_)
    refine Ev.iload_n (k := 1) (pc' := 17) dX12_settle_16 rfl rfl rfl ?_
    refine Ev.icmp_lt (pc' := 20) (tgt := 27) dX12_settle_17 rfl rfl (fun hc => ?_) (fun hc => ?_)
    · have h := h.1 hc
      exact Ef.vret dX12_settle_27 rfl h
    · have h := h.2 hc
      refine Ev.aload_n (k := 0) (pc' := 21) dX12_settle_20 rfl rfl rfl ?_
      refine Ef.callVV [] [] (pc' := 24) dX12_settle_21 rfl cv_RX12_333_X12_pop ⟨Nat.le_of_ble_eq_true rfl, Nat.le_of_ble_eq_true rfl⟩ ob_120 rfl rfl rfl (Nat.le_of_ble_eq_true rfl) (okX12_pop h) (fun I10 L11 h => ?_)
      refine Ev.goto (tgt := 0) dX12_settle_24 rfl ?_
      exact hP0 _ _ _ h
set_option maxRecDepth 10000 in
theorem okX12_settle_h0 {G : Gx} {Q : Ix → Lx → Prop} {v1 : Int32} {I : Ix} {L : Lx} (h : wpX12_settle_h0 Q v1 I L) : Ef G MX12_settle (qV Q) 0 [(0, .ref 120), (1, .int v1)] [] I L := by
  unfold wpX12_settle_h0 at h
  refine Lfp.ind (P := fun z => Ef G MX12_settle (qV Q) 0 [(0, .ref 120), (1, .int z.1)] [] z.2.1 z.2.2) ?_ h
  intro z P' hP' h
  obtain ⟨v1, I, L⟩ := z
  exact okX12_settle_l0 (fun v1 I L h9 => hP' (v1, I, L) h9) h
set_option maxRecDepth 10000 in
theorem okX12_settle {G : Gx} {a1 : Int32} {I : Ix} {L : Lx} {Q : Ix → Lx → Prop} (h : wpX12_settle a1 I L Q) : Mf G MX12_settle [.ref 120, .int a1] I L (qV Q) := by
  unfold wpX12_settle at h
  refine Mf.of pn_RX12 (Nat.le_of_ble_eq_true rfl) ?_
  exact okX12_settle_h0 h
def wpX12_hold_b32 (Q : Ix → Lx → Prop) (I : Ix) (L : Lx) : Prop := ∀ I1 : Ix, I1 = pu I 120 23 ((I 120 23) + 1) → Q I1 L
def wpX12_hold (a1 : Int32) (I : Ix) (L : Lx) (Q : Ix → Lx → Prop) : Prop := vp_in (I 120 22) 300 ∧ ∀ I1 : Ix, I1 = pu I 128 (I 120 22).toNatClampNeg a1 → ∀ I2 : Ix, I2 = pu I1 120 22 ((I1 120 22) + 1) → (a1 = 40 → wpX12_hold_b32 Q I2 L) ∧ (¬ a1 = 40 → (¬ a1 = 22 → Q I2 L) ∧ (a1 = 22 → wpX12_hold_b32 Q I2 L))
set_option maxRecDepth 10000 in
theorem okX12_hold_b32 {G : Gx} {Q : Ix → Lx → Prop} {I : Ix} {L : Lx} (h : wpX12_hold_b32 Q I L) : Ef G MX12_hold (qV Q) 32 [(0, .ref 120)] [] I L := by
  unfold wpX12_hold_b32 at h
  refine Ev.aload_n (k := 0) (pc' := 33) dX12_hold_32 rfl rfl rfl ?_
  refine Ev.dup (pc' := 34) dX12_hold_33 rfl rfl ?_
  refine Ev.getI (pc' := 37) dX12_hold_34 rfl fa_RX12_319 ob_120 fk_12_23 ?_
  refine Ev.iconst (pc' := 38) dX12_hold_37 rfl ki_1 ?_
  refine Ev.iadd (pc' := 39) dX12_hold_38 rfl ?_
  refine Ev.putI (pc' := 42) dX12_hold_39 rfl fa_RX12_319 ob_120 fk_12_23 rfl rfl (fun I1 eI1 => ?_)
  have h := h I1 eI1
  exact Ef.vret dX12_hold_42 rfl h
set_option maxRecDepth 10000 in
theorem okX12_hold {G : Gx} {a1 : Int32} {I : Ix} {L : Lx} {Q : Ix → Lx → Prop} (h : wpX12_hold a1 I L Q) : Mf G MX12_hold [.ref 120, .int a1] I L (qV Q) := by
  unfold wpX12_hold at h
  refine Mf.of pn_RX12 (Nat.le_of_ble_eq_true rfl) ?_
  refine Ev.aload_n (k := 0) (pc' := 1) dX12_hold_0 rfl rfl rfl ?_
  refine Ev.getR (pc' := 4) dX12_hold_1 rfl fa_RX12_35 ob_120 fk_12_16 rf_120_16 ?_
  refine Ev.aload_n (k := 0) (pc' := 5) dX12_hold_4 rfl rfl rfl ?_
  refine Ev.getI (pc' := 8) dX12_hold_5 rfl fa_RX12_316 ob_120 fk_12_22 ?_
  refine Ev.iload_n (k := 1) (pc' := 9) dX12_hold_8 rfl rfl rfl ?_
  refine Ev.iastore (j := _) (pc' := 10) dX12_hold_9 rfl ar_128 h.1 rfl (fun I1 eI1 => ?_)
  have h := h.2 I1 eI1
  refine Ev.aload_n (k := 0) (pc' := 11) dX12_hold_10 rfl rfl rfl ?_
  refine Ev.dup (pc' := 12) dX12_hold_11 rfl rfl ?_
  refine Ev.getI (pc' := 15) dX12_hold_12 rfl fa_RX12_316 ob_120 fk_12_22 ?_
  refine Ev.iconst (pc' := 16) dX12_hold_15 rfl ki_1 ?_
  refine Ev.iadd (pc' := 17) dX12_hold_16 rfl ?_
  refine Ev.putI (pc' := 20) dX12_hold_17 rfl fa_RX12_316 ob_120 fk_12_22 rfl rfl (fun I2 eI2 => ?_)
  have h := h I2 eI2
  refine Ev.iload_n (k := 1) (pc' := 21) dX12_hold_20 rfl rfl rfl ?_
  refine Ev.bipush (pc' := 23) dX12_hold_21 rfl kb_40 ?_
  refine Ev.icmp_eq (pc' := 26) (tgt := 32) dX12_hold_23 rfl rfl (fun hc => ?_) (fun hc => ?_)
  · have h := h.1 hc
    exact Ev.sub [0] rfl (okX12_hold_b32 h)
  · have h := h.2 hc
    refine Ev.iload_n (k := 1) (pc' := 27) dX12_hold_26 rfl rfl rfl ?_
    refine Ev.bipush (pc' := 29) dX12_hold_27 rfl kb_22 ?_
    refine Ev.icmp_ne (pc' := 32) (tgt := 42) dX12_hold_29 rfl rfl (fun hc => ?_) (fun hc => ?_)
    · have h := h.1 hc
      exact Ef.vret dX12_hold_42 rfl h
    · have h := h.2 hc
      exact Ev.sub [0] rfl (okX12_hold_b32 h)
def wpX12_known_b65 (Q : Int32 → Ix → Lx → Prop) (t0 : Int32) (I : Ix) (L : Lx) : Prop := (t0 = 0 → wpX12_isWord 427121669988 I L (fun r3 I1 L2 => (r3 = false → wpX12_isWord 6578553 I1 L2 (fun r6 I4 L5 => (r6 = false → wpX12_isWord 427120748148 I4 L5 (fun r9 I7 L8 => (r9 = false → wpX12_isWord 439956431717 I7 L8 (fun r12 I10 L11 => (r12 = false → wpX12_isWord 1852796782 I10 L11 (fun r15 I13 L14 => (r15 = false → Q (-1) I13 L14) ∧ (r15 = true → Q 11 I13 L14))) ∧ (r12 = true → Q 10 I10 L11))) ∧ (r9 = true → Q 9 I7 L8))) ∧ (r6 = true → Q 8 I4 L5))) ∧ (r3 = true → Q 7 I1 L2))) ∧ (¬ t0 = 0 → wpX12_isWord 512970880104 I L (fun r18 I16 L17 => (r18 = false → wpX12_isWord 1818584692 I16 L17 (fun r21 I19 L20 => (r21 = false → wpX12_isWord 448377484921 I19 L20 (fun r24 I22 L23 => (r24 = false → wpX12_isWord 6709618 I22 L23 (fun r27 I25 L26 => (r27 = false → wpX12_isWord 1835626085 I25 L26 (fun r30 I28 L29 => (r30 = false → Q 6 I28 L29) ∧ (r30 = true → Q 5 I28 L29))) ∧ (r27 = true → Q 4 I25 L26))) ∧ (r24 = true → Q 3 I22 L23))) ∧ (r21 = true → Q 2 I19 L20))) ∧ (r18 = true → Q 1 I16 L17)))
def wpX12_known_b60 (Q : Int32 → Ix → Lx → Prop) (I : Ix) (L : Lx) : Prop := wpX12_known_b65 Q 1 I L
def wpX12_known (I : Ix) (L : Lx) (Q : Int32 → Ix → Lx → Prop) : Prop := wpX12_isWord 512970880104 I L (fun r3 I1 L2 => (r3 = true → wpX12_known_b60 Q I1 L2) ∧ (r3 = false → wpX12_isWord 1818584692 I1 L2 (fun r6 I4 L5 => (r6 = true → wpX12_known_b60 Q I4 L5) ∧ (r6 = false → wpX12_isWord 448377484921 I4 L5 (fun r9 I7 L8 => (r9 = true → wpX12_known_b60 Q I7 L8) ∧ (r9 = false → wpX12_isWord 6709618 I7 L8 (fun r12 I10 L11 => (r12 = true → wpX12_known_b60 Q I10 L11) ∧ (r12 = false → wpX12_isWord 1835626085 I10 L11 (fun r15 I13 L14 => (r15 = true → wpX12_known_b60 Q I13 L14) ∧ (r15 = false → wpX12_isWord 1751477348 I13 L14 (fun r18 I16 L17 => (r18 = false → wpX12_known_b65 Q 0 I16 L17) ∧ (r18 = true → wpX12_known_b60 Q I16 L17))))))))))))
set_option maxRecDepth 10000 in
theorem okX12_known_b65 {G : Gx} {Q : Int32 → Ix → Lx → Prop} {t0 : Int32} {I : Ix} {L : Lx} (h : wpX12_known_b65 Q t0 I L) : Ef G MX12_known (qI Q) 65 [(0, .ref 120)] [.int t0] I L := by
  unfold wpX12_known_b65 at h
  refine Ev.istore_n (ls' := [(1, .int _), (0, .ref _)]) (pc' := 66) dX12_known_65 rfl rfl (Nat.le_of_ble_eq_true rfl) rfl ?_
  refine Ev.iload_n (k := 0) (pc' := 67) dX12_known_66 rfl rfl rfl ?_
  refine Ev.if_eq (pc' := 70) (tgt := 143) dX12_known_67 rfl rfl (fun hc => ?_) (fun hc => ?_)
  · have h := h.1 hc
    refine Ev.aload_n (k := 1) (pc' := 144) dX12_known_143 rfl rfl rfl ?_
    refine Ev.ldc2 (pc' := 147) dX12_known_144 rfl ll_RX12_285 ?_
    refine Ef.callVZ [.long _] [] (pc' := 150) dX12_known_147 rfl cv_RX12_295_X12_isWord ⟨Nat.le_of_ble_eq_true rfl, Nat.le_of_ble_eq_true rfl⟩ ob_120 rfl rfl rfl (Nat.le_of_ble_eq_true rfl) (okX12_isWord h) (fun r3 I1 L2 h => ?_)
    refine Ef.ifz_eq (pc' := 153) (tgt := 158) dX12_known_150 rfl rfl (fun hc => ?_) (fun hc => ?_)
    · have h := h.1 hc
      refine Ev.aload_n (k := 1) (pc' := 159) dX12_known_158 rfl rfl rfl ?_
      refine Ev.ldc2 (pc' := 162) dX12_known_159 rfl ll_RX12_287 ?_
      refine Ef.callVZ [.long _] [] (pc' := 165) dX12_known_162 rfl cv_RX12_295_X12_isWord ⟨Nat.le_of_ble_eq_true rfl, Nat.le_of_ble_eq_true rfl⟩ ob_120 rfl rfl rfl (Nat.le_of_ble_eq_true rfl) (okX12_isWord h) (fun r6 I4 L5 h => ?_)
      refine Ef.ifz_eq (pc' := 168) (tgt := 173) dX12_known_165 rfl rfl (fun hc => ?_) (fun hc => ?_)
      · have h := h.1 hc
        refine Ev.aload_n (k := 1) (pc' := 174) dX12_known_173 rfl rfl rfl ?_
        refine Ev.ldc2 (pc' := 177) dX12_known_174 rfl ll_RX12_261 ?_
        refine Ef.callVZ [.long _] [] (pc' := 180) dX12_known_177 rfl cv_RX12_295_X12_isWord ⟨Nat.le_of_ble_eq_true rfl, Nat.le_of_ble_eq_true rfl⟩ ob_120 rfl rfl rfl (Nat.le_of_ble_eq_true rfl) (okX12_isWord h) (fun r9 I7 L8 h => ?_)
        refine Ef.ifz_eq (pc' := 183) (tgt := 188) dX12_known_180 rfl rfl (fun hc => ?_) (fun hc => ?_)
        · have h := h.1 hc
          refine Ev.aload_n (k := 1) (pc' := 189) dX12_known_188 rfl rfl rfl ?_
          refine Ev.ldc2 (pc' := 192) dX12_known_189 rfl ll_RX12_263 ?_
          refine Ef.callVZ [.long _] [] (pc' := 195) dX12_known_192 rfl cv_RX12_295_X12_isWord ⟨Nat.le_of_ble_eq_true rfl, Nat.le_of_ble_eq_true rfl⟩ ob_120 rfl rfl rfl (Nat.le_of_ble_eq_true rfl) (okX12_isWord h) (fun r12 I10 L11 h => ?_)
          refine Ef.ifz_eq (pc' := 198) (tgt := 203) dX12_known_195 rfl rfl (fun hc => ?_) (fun hc => ?_)
          · have h := h.1 hc
            refine Ev.aload_n (k := 1) (pc' := 204) dX12_known_203 rfl rfl rfl ?_
            refine Ev.ldc2 (pc' := 207) dX12_known_204 rfl ll_RX12_241 ?_
            refine Ef.callVZ [.long _] [] (pc' := 210) dX12_known_207 rfl cv_RX12_295_X12_isWord ⟨Nat.le_of_ble_eq_true rfl, Nat.le_of_ble_eq_true rfl⟩ ob_120 rfl rfl rfl (Nat.le_of_ble_eq_true rfl) (okX12_isWord h) (fun r15 I13 L14 h => ?_)
            refine Ef.ifz_eq (pc' := 213) (tgt := 218) dX12_known_210 rfl rfl (fun hc => ?_) (fun hc => ?_)
            · have h := h.1 hc
              refine Ev.iconst (pc' := 219) dX12_known_218 rfl ki_m1 ?_
              exact Ef.iret dX12_known_219 rfl h
            · have h := h.2 hc
              refine Ev.bipush (pc' := 215) dX12_known_213 rfl kb_11 ?_
              refine Ev.goto (tgt := 219) dX12_known_215 rfl ?_
              exact Ef.iret dX12_known_219 rfl h
          · have h := h.2 hc
            refine Ev.bipush (pc' := 200) dX12_known_198 rfl kb_10 ?_
            refine Ev.goto (tgt := 219) dX12_known_200 rfl ?_
            exact Ef.iret dX12_known_219 rfl h
        · have h := h.2 hc
          refine Ev.bipush (pc' := 185) dX12_known_183 rfl kb_9 ?_
          refine Ev.goto (tgt := 219) dX12_known_185 rfl ?_
          exact Ef.iret dX12_known_219 rfl h
      · have h := h.2 hc
        refine Ev.bipush (pc' := 170) dX12_known_168 rfl kb_8 ?_
        refine Ev.goto (tgt := 219) dX12_known_170 rfl ?_
        exact Ef.iret dX12_known_219 rfl h
    · have h := h.2 hc
      refine Ev.bipush (pc' := 155) dX12_known_153 rfl kb_7 ?_
      refine Ev.goto (tgt := 219) dX12_known_155 rfl ?_
      exact Ef.iret dX12_known_219 rfl h
  · have h := h.2 hc
    refine Ev.aload_n (k := 1) (pc' := 71) dX12_known_70 rfl rfl rfl ?_
    refine Ev.ldc2 (pc' := 74) dX12_known_71 rfl ll_RX12_251 ?_
    refine Ef.callVZ [.long _] [] (pc' := 77) dX12_known_74 rfl cv_RX12_295_X12_isWord ⟨Nat.le_of_ble_eq_true rfl, Nat.le_of_ble_eq_true rfl⟩ ob_120 rfl rfl rfl (Nat.le_of_ble_eq_true rfl) (okX12_isWord h) (fun r18 I16 L17 h => ?_)
    refine Ef.ifz_eq (pc' := 80) (tgt := 84) dX12_known_77 rfl rfl (fun hc => ?_) (fun hc => ?_)
    · have h := h.1 hc
      refine Ev.aload_n (k := 1) (pc' := 85) dX12_known_84 rfl rfl rfl ?_
      refine Ev.ldc2 (pc' := 88) dX12_known_85 rfl ll_RX12_277 ?_
      refine Ef.callVZ [.long _] [] (pc' := 91) dX12_known_88 rfl cv_RX12_295_X12_isWord ⟨Nat.le_of_ble_eq_true rfl, Nat.le_of_ble_eq_true rfl⟩ ob_120 rfl rfl rfl (Nat.le_of_ble_eq_true rfl) (okX12_isWord h) (fun r21 I19 L20 h => ?_)
      refine Ef.ifz_eq (pc' := 94) (tgt := 98) dX12_known_91 rfl rfl (fun hc => ?_) (fun hc => ?_)
      · have h := h.1 hc
        refine Ev.aload_n (k := 1) (pc' := 99) dX12_known_98 rfl rfl rfl ?_
        refine Ev.ldc2 (pc' := 102) dX12_known_99 rfl ll_RX12_255 ?_
        refine Ef.callVZ [.long _] [] (pc' := 105) dX12_known_102 rfl cv_RX12_295_X12_isWord ⟨Nat.le_of_ble_eq_true rfl, Nat.le_of_ble_eq_true rfl⟩ ob_120 rfl rfl rfl (Nat.le_of_ble_eq_true rfl) (okX12_isWord h) (fun r24 I22 L23 h => ?_)
        refine Ef.ifz_eq (pc' := 108) (tgt := 112) dX12_known_105 rfl rfl (fun hc => ?_) (fun hc => ?_)
        · have h := h.1 hc
          refine Ev.aload_n (k := 1) (pc' := 113) dX12_known_112 rfl rfl rfl ?_
          refine Ev.ldc2 (pc' := 116) dX12_known_113 rfl ll_RX12_279 ?_
          refine Ef.callVZ [.long _] [] (pc' := 119) dX12_known_116 rfl cv_RX12_295_X12_isWord ⟨Nat.le_of_ble_eq_true rfl, Nat.le_of_ble_eq_true rfl⟩ ob_120 rfl rfl rfl (Nat.le_of_ble_eq_true rfl) (okX12_isWord h) (fun r27 I25 L26 h => ?_)
          refine Ef.ifz_eq (pc' := 122) (tgt := 126) dX12_known_119 rfl rfl (fun hc => ?_) (fun hc => ?_)
          · have h := h.1 hc
            refine Ev.aload_n (k := 1) (pc' := 127) dX12_known_126 rfl rfl rfl ?_
            refine Ev.ldc2 (pc' := 130) dX12_known_127 rfl ll_RX12_281 ?_
            refine Ef.callVZ [.long _] [] (pc' := 133) dX12_known_130 rfl cv_RX12_295_X12_isWord ⟨Nat.le_of_ble_eq_true rfl, Nat.le_of_ble_eq_true rfl⟩ ob_120 rfl rfl rfl (Nat.le_of_ble_eq_true rfl) (okX12_isWord h) (fun r30 I28 L29 h => ?_)
            refine Ef.ifz_eq (pc' := 136) (tgt := 140) dX12_known_133 rfl rfl (fun hc => ?_) (fun hc => ?_)
            · have h := h.1 hc
              refine Ev.bipush (pc' := 142) dX12_known_140 rfl kb_6 ?_
              exact Ef.iret dX12_known_142 rfl h
            · have h := h.2 hc
              refine Ev.iconst (pc' := 137) dX12_known_136 rfl ki_5 ?_
              refine Ev.goto (tgt := 142) dX12_known_137 rfl ?_
              exact Ef.iret dX12_known_142 rfl h
          · have h := h.2 hc
            refine Ev.iconst (pc' := 123) dX12_known_122 rfl ki_4 ?_
            refine Ev.goto (tgt := 142) dX12_known_123 rfl ?_
            exact Ef.iret dX12_known_142 rfl h
        · have h := h.2 hc
          refine Ev.iconst (pc' := 109) dX12_known_108 rfl ki_3 ?_
          refine Ev.goto (tgt := 142) dX12_known_109 rfl ?_
          exact Ef.iret dX12_known_142 rfl h
      · have h := h.2 hc
        refine Ev.iconst (pc' := 95) dX12_known_94 rfl ki_2 ?_
        refine Ev.goto (tgt := 142) dX12_known_95 rfl ?_
        exact Ef.iret dX12_known_142 rfl h
    · have h := h.2 hc
      refine Ev.iconst (pc' := 81) dX12_known_80 rfl ki_1 ?_
      refine Ev.goto (tgt := 142) dX12_known_81 rfl ?_
      exact Ef.iret dX12_known_142 rfl h
set_option maxRecDepth 10000 in
theorem okX12_known_b60 {G : Gx} {Q : Int32 → Ix → Lx → Prop} {I : Ix} {L : Lx} (h : wpX12_known_b60 Q I L) : Ef G MX12_known (qI Q) 60 [(0, .ref 120)] [] I L := by
  unfold wpX12_known_b60 at h
  refine Ev.iconst (pc' := 61) dX12_known_60 rfl ki_1 ?_
  refine Ev.goto (tgt := 65) dX12_known_61 rfl ?_
  exact okX12_known_b65 h
set_option maxRecDepth 10000 in
theorem okX12_known {G : Gx} {I : Ix} {L : Lx} {Q : Int32 → Ix → Lx → Prop} (h : wpX12_known I L Q) : Mf G MX12_known [.ref 120] I L (qI Q) := by
  unfold wpX12_known at h
  refine Mf.of pn_RX12 (Nat.le_of_ble_eq_true rfl) ?_
  refine Ev.aload_n (k := 0) (pc' := 1) dX12_known_0 rfl rfl rfl ?_
  refine Ev.ldc2 (pc' := 4) dX12_known_1 rfl ll_RX12_251 ?_
  refine Ef.callVZ [.long _] [] (pc' := 7) dX12_known_4 rfl cv_RX12_295_X12_isWord ⟨Nat.le_of_ble_eq_true rfl, Nat.le_of_ble_eq_true rfl⟩ ob_120 rfl rfl rfl (Nat.le_of_ble_eq_true rfl) (okX12_isWord h) (fun r3 I1 L2 h => ?_)
  refine Ef.ifz_ne (pc' := 10) (tgt := 60) dX12_known_7 rfl rfl (fun hc => ?_) (fun hc => ?_)
  · have h := h.1 hc
    exact okX12_known_b60 h
  · have h := h.2 hc
    refine Ev.aload_n (k := 0) (pc' := 11) dX12_known_10 rfl rfl rfl ?_
    refine Ev.ldc2 (pc' := 14) dX12_known_11 rfl ll_RX12_277 ?_
    refine Ef.callVZ [.long _] [] (pc' := 17) dX12_known_14 rfl cv_RX12_295_X12_isWord ⟨Nat.le_of_ble_eq_true rfl, Nat.le_of_ble_eq_true rfl⟩ ob_120 rfl rfl rfl (Nat.le_of_ble_eq_true rfl) (okX12_isWord h) (fun r6 I4 L5 h => ?_)
    refine Ef.ifz_ne (pc' := 20) (tgt := 60) dX12_known_17 rfl rfl (fun hc => ?_) (fun hc => ?_)
    · have h := h.1 hc
      exact okX12_known_b60 h
    · have h := h.2 hc
      refine Ev.aload_n (k := 0) (pc' := 21) dX12_known_20 rfl rfl rfl ?_
      refine Ev.ldc2 (pc' := 24) dX12_known_21 rfl ll_RX12_255 ?_
      refine Ef.callVZ [.long _] [] (pc' := 27) dX12_known_24 rfl cv_RX12_295_X12_isWord ⟨Nat.le_of_ble_eq_true rfl, Nat.le_of_ble_eq_true rfl⟩ ob_120 rfl rfl rfl (Nat.le_of_ble_eq_true rfl) (okX12_isWord h) (fun r9 I7 L8 h => ?_)
      refine Ef.ifz_ne (pc' := 30) (tgt := 60) dX12_known_27 rfl rfl (fun hc => ?_) (fun hc => ?_)
      · have h := h.1 hc
        exact okX12_known_b60 h
      · have h := h.2 hc
        refine Ev.aload_n (k := 0) (pc' := 31) dX12_known_30 rfl rfl rfl ?_
        refine Ev.ldc2 (pc' := 34) dX12_known_31 rfl ll_RX12_279 ?_
        refine Ef.callVZ [.long _] [] (pc' := 37) dX12_known_34 rfl cv_RX12_295_X12_isWord ⟨Nat.le_of_ble_eq_true rfl, Nat.le_of_ble_eq_true rfl⟩ ob_120 rfl rfl rfl (Nat.le_of_ble_eq_true rfl) (okX12_isWord h) (fun r12 I10 L11 h => ?_)
        refine Ef.ifz_ne (pc' := 40) (tgt := 60) dX12_known_37 rfl rfl (fun hc => ?_) (fun hc => ?_)
        · have h := h.1 hc
          exact okX12_known_b60 h
        · have h := h.2 hc
          refine Ev.aload_n (k := 0) (pc' := 41) dX12_known_40 rfl rfl rfl ?_
          refine Ev.ldc2 (pc' := 44) dX12_known_41 rfl ll_RX12_281 ?_
          refine Ef.callVZ [.long _] [] (pc' := 47) dX12_known_44 rfl cv_RX12_295_X12_isWord ⟨Nat.le_of_ble_eq_true rfl, Nat.le_of_ble_eq_true rfl⟩ ob_120 rfl rfl rfl (Nat.le_of_ble_eq_true rfl) (okX12_isWord h) (fun r15 I13 L14 h => ?_)
          refine Ef.ifz_ne (pc' := 50) (tgt := 60) dX12_known_47 rfl rfl (fun hc => ?_) (fun hc => ?_)
          · have h := h.1 hc
            exact okX12_known_b60 h
          · have h := h.2 hc
            refine Ev.aload_n (k := 0) (pc' := 51) dX12_known_50 rfl rfl rfl ?_
            refine Ev.ldc2 (pc' := 54) dX12_known_51 rfl ll_RX12_283 ?_
            refine Ef.callVZ [.long _] [] (pc' := 57) dX12_known_54 rfl cv_RX12_295_X12_isWord ⟨Nat.le_of_ble_eq_true rfl, Nat.le_of_ble_eq_true rfl⟩ ob_120 rfl rfl rfl (Nat.le_of_ble_eq_true rfl) (okX12_isWord h) (fun r18 I16 L17 h => ?_)
            refine Ef.ifz_eq (pc' := 60) (tgt := 64) dX12_known_57 rfl rfl (fun hc => ?_) (fun hc => ?_)
            · have h := h.1 hc
              refine Ev.iconst (pc' := 65) dX12_known_64 rfl ki_0 ?_
              exact okX12_known_b65 h
            · have h := h.2 hc
              exact okX12_known_b60 h
def wpX12_operand_b169 (Q : Int32 → Ix → Lx → Prop) (t1 : Int32) (I : Ix) (L : Lx) : Prop := wpX12_note t1 (I 120 8) I L (fun I1 L2 => wpX12_token I1 L2 (fun I3 L4 => Q 2 I3 L4))
def wpX12_operand_b103 (Q : Int32 → Ix → Lx → Prop) (v1 : Int32) (v2 : Int32) (v3 : Int32) (I : Ix) (L : Lx) : Prop := ((I 120 2) ≤ 0 → (v2 = 0 → ∀ I1 : Ix, I1 = pu I 120 20 ((I 120 20) + 1) → (¬ (I1 120 6) = 40 → (0 ≤ v3 → wpX12_operand_b169 Q v3 I1 L) ∧ (¬ 0 ≤ v3 → wpX12_operand_b169 Q 0 I1 L)) ∧ ((I1 120 6) = 40 → wpX12_hold 40 I1 L (fun I2 L3 => wpX12_token I2 L3 (fun I4 L5 => Q 0 I4 L5)))) ∧ (¬ v2 = 0 → wpX12_hold 22 I L (fun I6 L7 => wpX12_token I6 L7 (fun I8 L9 => Q 0 I8 L9)))) ∧ (¬ (I 120 2) ≤ 0 → Q v1 I L)
def wpX12_operand_b98 (Q : Int32 → Ix → Lx → Prop) (v1 : Int32) (v2 : Int32) (v3 : Int32) (I : Ix) (L : Lx) : Prop := wpX12_wrong 2 I L (fun I1 L2 => wpX12_operand_b103 Q v1 v2 v3 I1 L2)
def wpX12_operand_b89 (Q : Int32 → Ix → Lx → Prop) (v1 : Int32) (v2 : Int32) (v3 : Int32) (I : Ix) (L : Lx) : Prop := ((I 120 23) < 7 → wpX12_operand_b103 Q v1 v2 v3 I L) ∧ (¬ (I 120 23) < 7 → wpX12_operand_b98 Q v1 v2 v3 I L)
def wpX12_operand_b76 (Q : Int32 → Ix → Lx → Prop) (v1 : Int32) (v2 : Int32) (v3 : Int32) (I : Ix) (L : Lx) : Prop := (¬ v2 = 0 → wpX12_operand_b89 Q v1 v2 v3 I L) ∧ (v2 = 0 → (¬ (I 120 6) = 40 → wpX12_operand_b103 Q v1 v2 v3 I L) ∧ ((I 120 6) = 40 → wpX12_operand_b89 Q v1 v2 v3 I L))
def wpX12_operand_b62 (Q : Int32 → Ix → Lx → Prop) (v1 : Int32) (v2 : Int32) (v3 : Int32) (v4 : Int32) (I : Ix) (L : Lx) : Prop := (v4 = 0 → wpX12_operand_b76 Q v1 v2 v3 I L) ∧ (¬ v4 = 0 → ((I 120 20) = 80 → wpX12_operand_b98 Q v1 v2 v3 I L) ∧ (¬ (I 120 20) = 80 → wpX12_operand_b76 Q v1 v2 v3 I L))
def wpX12_operand_b51 (Q : Int32 → Ix → Lx → Prop) (v1 : Int32) (v2 : Int32) (v3 : Int32) (t0 : Int32) (I : Ix) (L : Lx) : Prop := (¬ v2 = 0 → wpX12_operand_b62 Q v1 v2 v3 t0 I L) ∧ (v2 = 0 → (t0 = 0 → wpX12_operand_b98 Q v1 v2 v3 I L) ∧ (¬ t0 = 0 → wpX12_operand_b62 Q v1 v2 v3 t0 I L))
def wpX12_operand_b46 (Q : Int32 → Ix → Lx → Prop) (v1 : Int32) (v2 : Int32) (v3 : Int32) (I : Ix) (L : Lx) : Prop := wpX12_operand_b51 Q v1 v2 v3 1 I L
def wpX12_operand_b19 (Q : Int32 → Ix → Lx → Prop) (v1 : Int32) (t0 : Int32) (I : Ix) (L : Lx) : Prop := wpX12_known I L (fun r3 I1 L2 => ((I1 120 6) = 2 → wpX12_operand_b46 Q v1 t0 r3 I1 L2) ∧ (¬ (I1 120 6) = 2 → ((I1 120 6) = 40 → wpX12_operand_b46 Q v1 t0 r3 I1 L2) ∧ (¬ (I1 120 6) = 40 → (r3 < 0 → wpX12_operand_b51 Q v1 t0 r3 0 I1 L2) ∧ (¬ r3 < 0 → wpX12_operand_b46 Q v1 t0 r3 I1 L2))))
def wpX12_operand_b18 (Q : Int32 → Ix → Lx → Prop) (v1 : Int32) (I : Ix) (L : Lx) : Prop := wpX12_operand_b19 Q v1 0 I L
def wpX12_operand (a1 : Int32) (I : Ix) (L : Lx) (Q : Int32 → Ix → Lx → Prop) : Prop := (¬ a1 = 0 → wpX12_operand_b18 Q a1 I L) ∧ (a1 = 0 → wpX12_isWord 7237492 I L (fun r3 I1 L2 => (r3 = false → wpX12_operand_b18 Q a1 I1 L2) ∧ (r3 = true → wpX12_operand_b19 Q a1 1 I1 L2)))
set_option maxRecDepth 10000 in
theorem okX12_operand_b169 {G : Gx} {Q : Int32 → Ix → Lx → Prop} {t1 : Int32} {I : Ix} {L : Lx} (h : wpX12_operand_b169 Q t1 I L) : Ef G MX12_operand (qI Q) 169 [(0, .ref 120)] [.int t1, .ref 120] I L := by
  unfold wpX12_operand_b169 at h
  refine Ev.aload_n (k := 0) (pc' := 170) dX12_operand_169 rfl rfl rfl ?_
  refine Ev.getI (pc' := 173) dX12_operand_170 rfl fa_RX12_220 ob_120 fk_12_8 ?_
  refine Ef.callVV [.int _, .int _] [] (pc' := 176) dX12_operand_173 rfl cv_RX12_322_X12_note ⟨Nat.le_of_ble_eq_true rfl, Nat.le_of_ble_eq_true rfl⟩ ob_120 rfl rfl rfl (Nat.le_of_ble_eq_true rfl) (okX12_note h) (fun I1 L2 h => ?_)
  refine Ev.aload_n (k := 0) (pc' := 177) dX12_operand_176 rfl rfl rfl ?_
  refine Ef.callVV [] [] (pc' := 180) dX12_operand_177 rfl cv_RX12_302_X12_token ⟨Nat.le_of_ble_eq_true rfl, Nat.le_of_ble_eq_true rfl⟩ ob_120 rfl rfl rfl (Nat.le_of_ble_eq_true rfl) (okX12_token h) (fun I3 L4 h => ?_)
  refine Ev.iconst (pc' := 181) dX12_operand_180 rfl ki_2 ?_
  exact Ef.iret dX12_operand_181 rfl h
set_option maxRecDepth 10000 in
theorem okX12_operand_b103 {G : Gx} {Q : Int32 → Ix → Lx → Prop} {v1 : Int32} {v2 : Int32} {v3 : Int32} {I : Ix} {L : Lx} (h : wpX12_operand_b103 Q v1 v2 v3 I L) : Ef G MX12_operand (qI Q) 103 [(0, .ref 120), (1, .int v1), (2, .int v2), (3, .int v3)] [] I L := by
  unfold wpX12_operand_b103 at h
  refine Ev.aload_n (k := 0) (pc' := 104) dX12_operand_103 rfl rfl rfl ?_
  refine Ev.getI (pc' := 107) dX12_operand_104 rfl fa_RX12_236 ob_120 fk_12_2 ?_
  refine Ev.if_le (pc' := 110) (tgt := 112) dX12_operand_107 rfl rfl (fun hc => ?_) (fun hc => ?_)
  · have h := h.1 hc
    refine Ev.iload_n (k := 2) (pc' := 113) dX12_operand_112 rfl rfl rfl ?_
    refine Ev.if_eq (pc' := 116) (tgt := 128) dX12_operand_113 rfl rfl (fun hc => ?_) (fun hc => ?_)
    · have h := h.1 hc
      refine Ev.aload_n (k := 0) (pc' := 129) dX12_operand_128 rfl rfl rfl ?_
      refine Ev.dup (pc' := 130) dX12_operand_129 rfl rfl ?_
      refine Ev.getI (pc' := 133) dX12_operand_130 rfl fa_RX12_339 ob_120 fk_12_20 ?_
      refine Ev.iconst (pc' := 134) dX12_operand_133 rfl ki_1 ?_
      refine Ev.iadd (pc' := 135) dX12_operand_134 rfl ?_
      refine Ev.putI (pc' := 138) dX12_operand_135 rfl fa_RX12_339 ob_120 fk_12_20 rfl rfl (fun I1 eI1 => ?_)
      have h := h I1 eI1
      refine Ev.aload_n (k := 0) (pc' := 139) dX12_operand_138 rfl rfl rfl ?_
      refine Ev.getI (pc' := 142) dX12_operand_139 rfl fa_RX12_223 ob_120 fk_12_6 ?_
      refine Ev.bipush (pc' := 144) dX12_operand_142 rfl kb_40 ?_
      refine Ev.icmp_ne (pc' := 147) (tgt := 159) dX12_operand_144 rfl rfl (fun hc => ?_) (fun hc => ?_)
      · have h := h.1 hc
        refine Ev.aload_n (k := 0) (pc' := 160) dX12_operand_159 rfl rfl rfl ?_
        refine Ev.iload_n (k := 3) (pc' := 161) dX12_operand_160 rfl rfl rfl ?_
        refine Ev.if_ge (pc' := 164) (tgt := 168) dX12_operand_161 rfl rfl (fun hc => ?_) (fun hc => ?_)
        · have h := h.1 hc
          refine Ev.iload_n (k := 3) (pc' := 169) dX12_operand_168 rfl rfl rfl ?_
          exact Ev.sub [0] rfl (okX12_operand_b169 h)
        · have h := h.2 hc
          refine Ev.iconst (pc' := 165) dX12_operand_164 rfl ki_0 ?_
          refine Ev.goto (tgt := 169) dX12_operand_165 rfl ?_
          exact Ev.sub [0] rfl (okX12_operand_b169 h)
      · have h := h.2 hc
        refine Ev.aload_n (k := 0) (pc' := 148) dX12_operand_147 rfl rfl rfl ?_
        refine Ev.bipush (pc' := 150) dX12_operand_148 rfl kb_40 ?_
        refine Ef.callVV [.int _] [] (pc' := 153) dX12_operand_150 rfl cv_RX12_342_X12_hold ⟨Nat.le_of_ble_eq_true rfl, Nat.le_of_ble_eq_true rfl⟩ ob_120 rfl rfl rfl (Nat.le_of_ble_eq_true rfl) (okX12_hold h) (fun I2 L3 h => ?_)
        refine Ev.aload_n (k := 0) (pc' := 154) dX12_operand_153 rfl rfl rfl ?_
        refine Ef.callVV [] [] (pc' := 157) dX12_operand_154 rfl cv_RX12_302_X12_token ⟨Nat.le_of_ble_eq_true rfl, Nat.le_of_ble_eq_true rfl⟩ ob_120 rfl rfl rfl (Nat.le_of_ble_eq_true rfl) (okX12_token h) (fun I4 L5 h => ?_)
        refine Ev.iconst (pc' := 158) dX12_operand_157 rfl ki_0 ?_
        exact Ef.iret dX12_operand_158 rfl h
    · have h := h.2 hc
      refine Ev.aload_n (k := 0) (pc' := 117) dX12_operand_116 rfl rfl rfl ?_
      refine Ev.bipush (pc' := 119) dX12_operand_117 rfl kb_22 ?_
      refine Ef.callVV [.int _] [] (pc' := 122) dX12_operand_119 rfl cv_RX12_342_X12_hold ⟨Nat.le_of_ble_eq_true rfl, Nat.le_of_ble_eq_true rfl⟩ ob_120 rfl rfl rfl (Nat.le_of_ble_eq_true rfl) (okX12_hold h) (fun I6 L7 h => ?_)
      refine Ev.aload_n (k := 0) (pc' := 123) dX12_operand_122 rfl rfl rfl ?_
      refine Ef.callVV [] [] (pc' := 126) dX12_operand_123 rfl cv_RX12_302_X12_token ⟨Nat.le_of_ble_eq_true rfl, Nat.le_of_ble_eq_true rfl⟩ ob_120 rfl rfl rfl (Nat.le_of_ble_eq_true rfl) (okX12_token h) (fun I8 L9 h => ?_)
      refine Ev.iconst (pc' := 127) dX12_operand_126 rfl ki_0 ?_
      exact Ef.iret dX12_operand_127 rfl h
  · have h := h.2 hc
    refine Ev.iload_n (k := 1) (pc' := 111) dX12_operand_110 rfl rfl rfl ?_
    exact Ef.iret dX12_operand_111 rfl h
set_option maxRecDepth 10000 in
theorem okX12_operand_b98 {G : Gx} {Q : Int32 → Ix → Lx → Prop} {v1 : Int32} {v2 : Int32} {v3 : Int32} {I : Ix} {L : Lx} (h : wpX12_operand_b98 Q v1 v2 v3 I L) : Ef G MX12_operand (qI Q) 98 [(0, .ref 120), (1, .int v1), (2, .int v2), (3, .int v3)] [] I L := by
  unfold wpX12_operand_b98 at h
  refine Ev.aload_n (k := 0) (pc' := 99) dX12_operand_98 rfl rfl rfl ?_
  refine Ev.iconst (pc' := 100) dX12_operand_99 rfl ki_2 ?_
  refine Ef.callVV [.int _] [] (pc' := 103) dX12_operand_100 rfl cv_RX12_299_X12_wrong ⟨Nat.le_of_ble_eq_true rfl, Nat.le_of_ble_eq_true rfl⟩ ob_120 rfl rfl rfl (Nat.le_of_ble_eq_true rfl) (okX12_wrong h) (fun I1 L2 h => ?_)
  exact okX12_operand_b103 h
set_option maxRecDepth 10000 in
theorem okX12_operand_b89 {G : Gx} {Q : Int32 → Ix → Lx → Prop} {v1 : Int32} {v2 : Int32} {v3 : Int32} {I : Ix} {L : Lx} (h : wpX12_operand_b89 Q v1 v2 v3 I L) : Ef G MX12_operand (qI Q) 89 [(0, .ref 120), (1, .int v1), (2, .int v2), (3, .int v3)] [] I L := by
  unfold wpX12_operand_b89 at h
  refine Ev.aload_n (k := 0) (pc' := 90) dX12_operand_89 rfl rfl rfl ?_
  refine Ev.getI (pc' := 93) dX12_operand_90 rfl fa_RX12_319 ob_120 fk_12_23 ?_
  refine Ev.bipush (pc' := 95) dX12_operand_93 rfl kb_7 ?_
  refine Ev.icmp_lt (pc' := 98) (tgt := 103) dX12_operand_95 rfl rfl (fun hc => ?_) (fun hc => ?_)
  · have h := h.1 hc
    exact okX12_operand_b103 h
  · have h := h.2 hc
    exact okX12_operand_b98 h
set_option maxRecDepth 10000 in
theorem okX12_operand_b76 {G : Gx} {Q : Int32 → Ix → Lx → Prop} {v1 : Int32} {v2 : Int32} {v3 : Int32} {I : Ix} {L : Lx} (h : wpX12_operand_b76 Q v1 v2 v3 I L) : Ef G MX12_operand (qI Q) 76 [(0, .ref 120), (1, .int v1), (2, .int v2), (3, .int v3)] [] I L := by
  unfold wpX12_operand_b76 at h
  refine Ev.iload_n (k := 2) (pc' := 77) dX12_operand_76 rfl rfl rfl ?_
  refine Ev.if_ne (pc' := 80) (tgt := 89) dX12_operand_77 rfl rfl (fun hc => ?_) (fun hc => ?_)
  · have h := h.1 hc
    exact okX12_operand_b89 h
  · have h := h.2 hc
    refine Ev.aload_n (k := 0) (pc' := 81) dX12_operand_80 rfl rfl rfl ?_
    refine Ev.getI (pc' := 84) dX12_operand_81 rfl fa_RX12_223 ob_120 fk_12_6 ?_
    refine Ev.bipush (pc' := 86) dX12_operand_84 rfl kb_40 ?_
    refine Ev.icmp_ne (pc' := 89) (tgt := 103) dX12_operand_86 rfl rfl (fun hc => ?_) (fun hc => ?_)
    · have h := h.1 hc
      exact okX12_operand_b103 h
    · have h := h.2 hc
      exact okX12_operand_b89 h
set_option maxRecDepth 10000 in
theorem okX12_operand_b62 {G : Gx} {Q : Int32 → Ix → Lx → Prop} {v1 : Int32} {v2 : Int32} {v3 : Int32} {v4 : Int32} {I : Ix} {L : Lx} (h : wpX12_operand_b62 Q v1 v2 v3 v4 I L) : Ef G MX12_operand (qI Q) 62 [(0, .ref 120), (1, .int v1), (2, .int v2), (3, .int v3), (4, .int v4)] [] I L := by
  unfold wpX12_operand_b62 at h
  refine Ev.iload (k := 4) (pc' := 64) dX12_operand_62 rfl rfl ?_
  refine Ev.if_eq (pc' := 67) (tgt := 76) dX12_operand_64 rfl rfl (fun hc => ?_) (fun hc => ?_)
  · have h := h.1 hc
    exact Ev.sub [0, 1, 2, 3] rfl (okX12_operand_b76 h)
  · have h := h.2 hc
    refine Ev.aload_n (k := 0) (pc' := 68) dX12_operand_67 rfl rfl rfl ?_
    refine Ev.getI (pc' := 71) dX12_operand_68 rfl fa_RX12_339 ob_120 fk_12_20 ?_
    refine Ev.bipush (pc' := 73) dX12_operand_71 rfl kb_80 ?_
    refine Ev.icmp_eq (pc' := 76) (tgt := 98) dX12_operand_73 rfl rfl (fun hc => ?_) (fun hc => ?_)
    · have h := h.1 hc
      exact Ev.sub [0, 1, 2, 3] rfl (okX12_operand_b98 h)
    · have h := h.2 hc
      exact Ev.sub [0, 1, 2, 3] rfl (okX12_operand_b76 h)
set_option maxRecDepth 10000 in
theorem okX12_operand_b51 {G : Gx} {Q : Int32 → Ix → Lx → Prop} {v1 : Int32} {v2 : Int32} {v3 : Int32} {t0 : Int32} {I : Ix} {L : Lx} (h : wpX12_operand_b51 Q v1 v2 v3 t0 I L) : Ef G MX12_operand (qI Q) 51 [(0, .ref 120), (1, .int v1), (2, .int v2), (3, .int v3)] [.int t0] I L := by
  unfold wpX12_operand_b51 at h
  refine Ev.istore (ls' := [(4, .int _), (0, .ref _), (1, .int _), (2, .int _), (3, .int _)]) (pc' := 53) dX12_operand_51 rfl (Nat.le_of_ble_eq_true rfl) rfl ?_
  refine Ev.iload_n (k := 3) (pc' := 54) dX12_operand_53 rfl rfl rfl ?_
  refine Ev.if_ne (pc' := 57) (tgt := 62) dX12_operand_54 rfl rfl (fun hc => ?_) (fun hc => ?_)
  · have h := h.1 hc
    exact Ev.sub [1, 2, 3, 4, 0] rfl (okX12_operand_b62 h)
  · have h := h.2 hc
    refine Ev.iload (k := 0) (pc' := 59) dX12_operand_57 rfl rfl ?_
    refine Ev.if_eq (pc' := 62) (tgt := 98) dX12_operand_59 rfl rfl (fun hc => ?_) (fun hc => ?_)
    · have h := h.1 hc
      exact Ev.sub [1, 2, 3, 4] rfl (okX12_operand_b98 h)
    · have h := h.2 hc
      exact Ev.sub [1, 2, 3, 4, 0] rfl (okX12_operand_b62 h)
set_option maxRecDepth 10000 in
theorem okX12_operand_b46 {G : Gx} {Q : Int32 → Ix → Lx → Prop} {v1 : Int32} {v2 : Int32} {v3 : Int32} {I : Ix} {L : Lx} (h : wpX12_operand_b46 Q v1 v2 v3 I L) : Ef G MX12_operand (qI Q) 46 [(0, .ref 120), (1, .int v1), (2, .int v2), (3, .int v3)] [] I L := by
  unfold wpX12_operand_b46 at h
  refine Ev.iconst (pc' := 47) dX12_operand_46 rfl ki_1 ?_
  refine Ev.goto (tgt := 51) dX12_operand_47 rfl ?_
  exact okX12_operand_b51 h
set_option maxRecDepth 10000 in
theorem okX12_operand_b19 {G : Gx} {Q : Int32 → Ix → Lx → Prop} {v1 : Int32} {t0 : Int32} {I : Ix} {L : Lx} (h : wpX12_operand_b19 Q v1 t0 I L) : Ef G MX12_operand (qI Q) 19 [(0, .ref 120), (1, .int v1)] [.int t0] I L := by
  unfold wpX12_operand_b19 at h
  refine Ev.istore_n (ls' := [(2, .int _), (0, .ref _), (1, .int _)]) (pc' := 20) dX12_operand_19 rfl rfl (Nat.le_of_ble_eq_true rfl) rfl ?_
  refine Ev.aload_n (k := 1) (pc' := 21) dX12_operand_20 rfl rfl rfl ?_
  refine Ef.callVI [] [] (pc' := 24) dX12_operand_21 rfl cv_RX12_336_X12_known ⟨Nat.le_of_ble_eq_true rfl, Nat.le_of_ble_eq_true rfl⟩ ob_120 rfl rfl rfl (Nat.le_of_ble_eq_true rfl) (okX12_known h) (fun r3 I1 L2 h => ?_)
  refine Ev.istore_n (ls' := [(3, .int _), (2, .int _), (0, .ref _), (1, .int _)]) (pc' := 25) dX12_operand_24 rfl rfl (Nat.le_of_ble_eq_true rfl) rfl ?_
  refine Ev.aload_n (k := 2) (pc' := 26) dX12_operand_25 rfl rfl rfl ?_
  refine Ev.getI (pc' := 29) dX12_operand_26 rfl fa_RX12_223 ob_120 fk_12_6 ?_
  refine Ev.iconst (pc' := 30) dX12_operand_29 rfl ki_2 ?_
  refine Ev.icmp_eq (pc' := 33) (tgt := 46) dX12_operand_30 rfl rfl (fun hc => ?_) (fun hc => ?_)
  · have h := h.1 hc
    exact Ev.sub [2, 3, 1, 0] rfl (okX12_operand_b46 h)
  · have h := h.2 hc
    refine Ev.aload_n (k := 2) (pc' := 34) dX12_operand_33 rfl rfl rfl ?_
    refine Ev.getI (pc' := 37) dX12_operand_34 rfl fa_RX12_223 ob_120 fk_12_6 ?_
    refine Ev.bipush (pc' := 39) dX12_operand_37 rfl kb_40 ?_
    refine Ev.icmp_eq (pc' := 42) (tgt := 46) dX12_operand_39 rfl rfl (fun hc => ?_) (fun hc => ?_)
    · have h := h.1 hc
      exact Ev.sub [2, 3, 1, 0] rfl (okX12_operand_b46 h)
    · have h := h.2 hc
      refine Ev.iload_n (k := 0) (pc' := 43) dX12_operand_42 rfl rfl rfl ?_
      refine Ev.if_lt (pc' := 46) (tgt := 50) dX12_operand_43 rfl rfl (fun hc => ?_) (fun hc => ?_)
      · have h := h.1 hc
        refine Ev.iconst (pc' := 51) dX12_operand_50 rfl ki_0 ?_
        exact Ev.sub [2, 3, 1, 0] rfl (okX12_operand_b51 h)
      · have h := h.2 hc
        exact Ev.sub [2, 3, 1, 0] rfl (okX12_operand_b46 h)
set_option maxRecDepth 10000 in
theorem okX12_operand_b18 {G : Gx} {Q : Int32 → Ix → Lx → Prop} {v1 : Int32} {I : Ix} {L : Lx} (h : wpX12_operand_b18 Q v1 I L) : Ef G MX12_operand (qI Q) 18 [(0, .ref 120), (1, .int v1)] [] I L := by
  unfold wpX12_operand_b18 at h
  refine Ev.iconst (pc' := 19) dX12_operand_18 rfl ki_0 ?_
  exact okX12_operand_b19 h
set_option maxRecDepth 10000 in
theorem okX12_operand {G : Gx} {a1 : Int32} {I : Ix} {L : Lx} {Q : Int32 → Ix → Lx → Prop} (h : wpX12_operand a1 I L Q) : Mf G MX12_operand [.ref 120, .int a1] I L (qI Q) := by
  unfold wpX12_operand at h
  refine Mf.of pn_RX12 (Nat.le_of_ble_eq_true rfl) ?_
  refine Ev.iload_n (k := 1) (pc' := 1) dX12_operand_0 rfl rfl rfl ?_
  refine Ev.if_ne (pc' := 4) (tgt := 18) dX12_operand_1 rfl rfl (fun hc => ?_) (fun hc => ?_)
  · have h := h.1 hc
    exact okX12_operand_b18 h
  · have h := h.2 hc
    refine Ev.aload_n (k := 0) (pc' := 5) dX12_operand_4 rfl rfl rfl ?_
    refine Ev.ldc2 (pc' := 8) dX12_operand_5 rfl ll_RX12_293 ?_
    refine Ef.callVZ [.long _] [] (pc' := 11) dX12_operand_8 rfl cv_RX12_295_X12_isWord ⟨Nat.le_of_ble_eq_true rfl, Nat.le_of_ble_eq_true rfl⟩ ob_120 rfl rfl rfl (Nat.le_of_ble_eq_true rfl) (okX12_isWord h) (fun r3 I1 L2 h => ?_)
    refine Ef.ifz_eq (pc' := 14) (tgt := 18) dX12_operand_11 rfl rfl (fun hc => ?_) (fun hc => ?_)
    · have h := h.1 hc
      exact okX12_operand_b18 h
    · have h := h.2 hc
      refine Ev.iconst (pc' := 15) dX12_operand_14 rfl ki_1 ?_
      refine Ev.goto (tgt := 19) dX12_operand_15 rfl ?_
      exact okX12_operand_b19 h
def wpX12_signOf (I : Ix) (L : Lx) (Q : Int32 → Ix → Lx → Prop) : Prop := (¬ (I 120 6) = 43 → (¬ (I 120 6) = 45 → (¬ (I 120 6) = 42 → (¬ (I 120 6) = 61 → (¬ (I 120 6) = 60 → (¬ (I 120 6) = 62 → wpX12_isWord 6385252 I L (fun r3 I1 L2 => (r3 = false → wpX12_isWord 28530 I1 L2 (fun r6 I4 L5 => (r6 = false → Q (-1) I4 L5) ∧ (r6 = true → Q 20 I4 L5))) ∧ (r3 = true → Q 21 I1 L2))) ∧ ((I 120 6) = 62 → Q 25 I L)) ∧ ((I 120 6) = 60 → Q 24 I L)) ∧ ((I 120 6) = 61 → Q 23 I L)) ∧ ((I 120 6) = 42 → Q 28 I L)) ∧ ((I 120 6) = 45 → Q 27 I L)) ∧ ((I 120 6) = 43 → Q 26 I L)
set_option maxRecDepth 10000 in
theorem okX12_signOf {G : Gx} {I : Ix} {L : Lx} {Q : Int32 → Ix → Lx → Prop} (h : wpX12_signOf I L Q) : Mf G MX12_signOf [.ref 120] I L (qI Q) := by
  unfold wpX12_signOf at h
  refine Mf.of pn_RX12 (Nat.le_of_ble_eq_true rfl) ?_
  refine Ev.aload_n (k := 0) (pc' := 1) dX12_signOf_0 rfl rfl rfl ?_
  refine Ev.getI (pc' := 4) dX12_signOf_1 rfl fa_RX12_223 ob_120 fk_12_6 ?_
  refine Ev.bipush (pc' := 6) dX12_signOf_4 rfl kb_43 ?_
  refine Ev.icmp_ne (pc' := 9) (tgt := 14) dX12_signOf_6 rfl rfl (fun hc => ?_) (fun hc => ?_)
  · have h := h.1 hc
    refine Ev.aload_n (k := 0) (pc' := 15) dX12_signOf_14 rfl rfl rfl ?_
    refine Ev.getI (pc' := 18) dX12_signOf_15 rfl fa_RX12_223 ob_120 fk_12_6 ?_
    refine Ev.bipush (pc' := 20) dX12_signOf_18 rfl kb_45 ?_
    refine Ev.icmp_ne (pc' := 23) (tgt := 28) dX12_signOf_20 rfl rfl (fun hc => ?_) (fun hc => ?_)
    · have h := h.1 hc
      refine Ev.aload_n (k := 0) (pc' := 29) dX12_signOf_28 rfl rfl rfl ?_
      refine Ev.getI (pc' := 32) dX12_signOf_29 rfl fa_RX12_223 ob_120 fk_12_6 ?_
      refine Ev.bipush (pc' := 34) dX12_signOf_32 rfl kb_42 ?_
      refine Ev.icmp_ne (pc' := 37) (tgt := 42) dX12_signOf_34 rfl rfl (fun hc => ?_) (fun hc => ?_)
      · have h := h.1 hc
        refine Ev.aload_n (k := 0) (pc' := 43) dX12_signOf_42 rfl rfl rfl ?_
        refine Ev.getI (pc' := 46) dX12_signOf_43 rfl fa_RX12_223 ob_120 fk_12_6 ?_
        refine Ev.bipush (pc' := 48) dX12_signOf_46 rfl kb_61 ?_
        refine Ev.icmp_ne (pc' := 51) (tgt := 56) dX12_signOf_48 rfl rfl (fun hc => ?_) (fun hc => ?_)
        · have h := h.1 hc
          refine Ev.aload_n (k := 0) (pc' := 57) dX12_signOf_56 rfl rfl rfl ?_
          refine Ev.getI (pc' := 60) dX12_signOf_57 rfl fa_RX12_223 ob_120 fk_12_6 ?_
          refine Ev.bipush (pc' := 62) dX12_signOf_60 rfl kb_60 ?_
          refine Ev.icmp_ne (pc' := 65) (tgt := 70) dX12_signOf_62 rfl rfl (fun hc => ?_) (fun hc => ?_)
          · have h := h.1 hc
            refine Ev.aload_n (k := 0) (pc' := 71) dX12_signOf_70 rfl rfl rfl ?_
            refine Ev.getI (pc' := 74) dX12_signOf_71 rfl fa_RX12_223 ob_120 fk_12_6 ?_
            refine Ev.bipush (pc' := 76) dX12_signOf_74 rfl kb_62 ?_
            refine Ev.icmp_ne (pc' := 79) (tgt := 84) dX12_signOf_76 rfl rfl (fun hc => ?_) (fun hc => ?_)
            · have h := h.1 hc
              refine Ev.aload_n (k := 0) (pc' := 85) dX12_signOf_84 rfl rfl rfl ?_
              refine Ev.ldc2 (pc' := 88) dX12_signOf_85 rfl ll_RX12_289 ?_
              refine Ef.callVZ [.long _] [] (pc' := 91) dX12_signOf_88 rfl cv_RX12_295_X12_isWord ⟨Nat.le_of_ble_eq_true rfl, Nat.le_of_ble_eq_true rfl⟩ ob_120 rfl rfl rfl (Nat.le_of_ble_eq_true rfl) (okX12_isWord h) (fun r3 I1 L2 h => ?_)
              refine Ef.ifz_eq (pc' := 94) (tgt := 99) dX12_signOf_91 rfl rfl (fun hc => ?_) (fun hc => ?_)
              · have h := h.1 hc
                refine Ev.aload_n (k := 0) (pc' := 100) dX12_signOf_99 rfl rfl rfl ?_
                refine Ev.ldc2 (pc' := 103) dX12_signOf_100 rfl ll_RX12_291 ?_
                refine Ef.callVZ [.long _] [] (pc' := 106) dX12_signOf_103 rfl cv_RX12_295_X12_isWord ⟨Nat.le_of_ble_eq_true rfl, Nat.le_of_ble_eq_true rfl⟩ ob_120 rfl rfl rfl (Nat.le_of_ble_eq_true rfl) (okX12_isWord h) (fun r6 I4 L5 h => ?_)
                refine Ef.ifz_eq (pc' := 109) (tgt := 114) dX12_signOf_106 rfl rfl (fun hc => ?_) (fun hc => ?_)
                · have h := h.1 hc
                  refine Ev.iconst (pc' := 115) dX12_signOf_114 rfl ki_m1 ?_
                  exact Ef.iret dX12_signOf_115 rfl h
                · have h := h.2 hc
                  refine Ev.bipush (pc' := 111) dX12_signOf_109 rfl kb_20 ?_
                  refine Ev.goto (tgt := 115) dX12_signOf_111 rfl ?_
                  exact Ef.iret dX12_signOf_115 rfl h
              · have h := h.2 hc
                refine Ev.bipush (pc' := 96) dX12_signOf_94 rfl kb_21 ?_
                refine Ev.goto (tgt := 115) dX12_signOf_96 rfl ?_
                exact Ef.iret dX12_signOf_115 rfl h
            · have h := h.2 hc
              refine Ev.bipush (pc' := 81) dX12_signOf_79 rfl kb_25 ?_
              refine Ev.goto (tgt := 115) dX12_signOf_81 rfl ?_
              exact Ef.iret dX12_signOf_115 rfl h
          · have h := h.2 hc
            refine Ev.bipush (pc' := 67) dX12_signOf_65 rfl kb_24 ?_
            refine Ev.goto (tgt := 115) dX12_signOf_67 rfl ?_
            exact Ef.iret dX12_signOf_115 rfl h
        · have h := h.2 hc
          refine Ev.bipush (pc' := 53) dX12_signOf_51 rfl kb_23 ?_
          refine Ev.goto (tgt := 115) dX12_signOf_53 rfl ?_
          exact Ef.iret dX12_signOf_115 rfl h
      · have h := h.2 hc
        refine Ev.bipush (pc' := 39) dX12_signOf_37 rfl kb_28 ?_
        refine Ev.goto (tgt := 115) dX12_signOf_39 rfl ?_
        exact Ef.iret dX12_signOf_115 rfl h
    · have h := h.2 hc
      refine Ev.bipush (pc' := 25) dX12_signOf_23 rfl kb_27 ?_
      refine Ev.goto (tgt := 115) dX12_signOf_25 rfl ?_
      exact Ef.iret dX12_signOf_115 rfl h
  · have h := h.2 hc
    refine Ev.bipush (pc' := 11) dX12_signOf_9 rfl kb_26 ?_
    refine Ev.goto (tgt := 115) dX12_signOf_11 rfl ?_
    exact Ef.iret dX12_signOf_115 rfl h
def wpX12_isOpen_b27 (Q : Bool → Ix → Lx → Prop) (P4 : Int32 → Int32 → Ix → Lx → Prop) (v2 : Int32) (I : Ix) (L : Lx) : Prop := P4 1 (v2 + 1) I L
def wpX12_isOpen_l4 (Q : Bool → Ix → Lx → Prop) (P4 : Int32 → Int32 → Ix → Lx → Prop) (v1 : Int32) (v2 : Int32) (I : Ix) (L : Lx) : Prop := ((I 120 22) ≤ v2 → ∃ b, v1 = b2i b ∧ Q b I L) ∧ (¬ (I 120 22) ≤ v2 → (¬ v1 = 0 → wpX12_isOpen_b27 Q P4 v2 I L) ∧ (v1 = 0 → vp_in v2 300 ∧ (¬ (I 128 v2.toNatClampNeg) = 40 → P4 0 (v2 + 1) I L) ∧ ((I 128 v2.toNatClampNeg) = 40 → wpX12_isOpen_b27 Q P4 v2 I L)))
def wpX12_isOpen_h4 (Q : Bool → Ix → Lx → Prop) (v1 : Int32) (v2 : Int32) (I : Ix) (L : Lx) : Prop := Lfp (X := Int32 × Int32 × Ix × Lx) (fun P z => wpX12_isOpen_l4 Q (fun v1 v2 I L => P (v1, v2, I, L)) z.1 z.2.1 z.2.2.1 z.2.2.2) (v1, v2, I, L)
theorem wpX12_isOpen_h4_fold {Q : Bool → Ix → Lx → Prop} {v1 : Int32} {v2 : Int32} {I : Ix} {L : Lx} (h : wpX12_isOpen_l4 Q (wpX12_isOpen_h4 Q) v1 v2 I L) : wpX12_isOpen_h4 Q v1 v2 I L := Lfp.fold h
def wpX12_isOpen (I : Ix) (L : Lx) (Q : Bool → Ix → Lx → Prop) : Prop := wpX12_isOpen_h4 Q 0 0 I L
set_option maxRecDepth 10000 in
theorem okX12_isOpen_b27 {G : Gx} {Q : Bool → Ix → Lx → Prop} {P4 : Int32 → Int32 → Ix → Lx → Prop} (hP4 : ∀ (v1 : Int32) (v2 : Int32) (I : Ix) (L : Lx), P4 v1 v2 I L → Ef G MX12_isOpen (qZ Q) 4 [(0, .ref 120), (1, .int v1), (2, .int v2)] [] I L) {v2 : Int32} {I : Ix} {L : Lx} (h : wpX12_isOpen_b27 Q P4 v2 I L) : Ef G MX12_isOpen (qZ Q) 27 [(0, .ref 120), (2, .int v2)] [] I L := by
  unfold wpX12_isOpen_b27 at h
  refine Ev.iconst (pc' := 28) dX12_isOpen_27 rfl ki_1 ?_
  refine Ev.goto (tgt := 32) dX12_isOpen_28 rfl ?_
  refine Ev.istore_n (ls' := [(1, .int _), (0, .ref _), (2, .int _)]) (pc' := 33) dX12_isOpen_32 rfl rfl (Nat.le_of_ble_eq_true rfl) rfl ?_
  refine Ev.iinc (k := 2) (v := _) (ls' := [(2, .int _), (1, .int _), (0, .ref _)]) (pc' := 36) dX12_isOpen_33 rfl rfl (congrArg (_ + ·) ki_1) (Nat.le_of_ble_eq_true rfl) rfl ?_
  refine Ev.goto (tgt := 4) dX12_isOpen_36 rfl ?_
  exact Ev.sub [2, 1, 0] rfl (hP4 _ _ _ _ h)
set_option maxRecDepth 10000 in
theorem okX12_isOpen_l4 {G : Gx} {Q : Bool → Ix → Lx → Prop} {P4 : Int32 → Int32 → Ix → Lx → Prop} (hP4 : ∀ (v1 : Int32) (v2 : Int32) (I : Ix) (L : Lx), P4 v1 v2 I L → Ef G MX12_isOpen (qZ Q) 4 [(0, .ref 120), (1, .int v1), (2, .int v2)] [] I L) {v1 : Int32} {v2 : Int32} {I : Ix} {L : Lx} (h : wpX12_isOpen_l4 Q P4 v1 v2 I L) : Ef G MX12_isOpen (qZ Q) 4 [(0, .ref 120), (1, .int v1), (2, .int v2)] [] I L := by
  unfold wpX12_isOpen_l4 at h
  refine Ev.iload_n (k := 2) (pc' := 5) dX12_isOpen_4 rfl rfl rfl ?_
  refine Ev.aload_n (k := 0) (pc' := 6) dX12_isOpen_5 rfl rfl rfl ?_
  refine Ev.getI (pc' := 9) dX12_isOpen_6 rfl fa_RX12_316 ob_120 fk_12_22 ?_
  refine Ev.icmp_ge (pc' := 12) (tgt := 39) dX12_isOpen_9 rfl rfl (fun hc => ?_) (fun hc => ?_)
  · have h := h.1 hc
    refine Ev.iload_n (k := 1) (pc' := 40) dX12_isOpen_39 rfl rfl rfl ?_
    exact Ef.zretx dX12_isOpen_40 rfl h
  · have h := h.2 hc
    refine Ev.iload_n (k := 1) (pc' := 13) dX12_isOpen_12 rfl rfl rfl ?_
    refine Ev.if_ne (pc' := 16) (tgt := 27) dX12_isOpen_13 rfl rfl (fun hc => ?_) (fun hc => ?_)
    · have h := h.1 hc
      exact Ev.sub [0, 2] rfl (okX12_isOpen_b27 hP4 h)
    · have h := h.2 hc
      refine Ev.aload_n (k := 0) (pc' := 17) dX12_isOpen_16 rfl rfl rfl ?_
      refine Ev.getR (pc' := 20) dX12_isOpen_17 rfl fa_RX12_35 ob_120 fk_12_16 rf_120_16 ?_
      refine Ev.iload_n (k := 2) (pc' := 21) dX12_isOpen_20 rfl rfl rfl ?_
      refine Ev.iaload (j := _) (pc' := 22) dX12_isOpen_21 rfl ar_128 h.1 rfl ?_
      have h := h.2
      refine Ev.bipush (pc' := 24) dX12_isOpen_22 rfl kb_40 ?_
      refine Ev.icmp_ne (pc' := 27) (tgt := 31) dX12_isOpen_24 rfl rfl (fun hc => ?_) (fun hc => ?_)
      · have h := h.1 hc
        refine Ev.iconst (pc' := 32) dX12_isOpen_31 rfl ki_0 ?_
        refine Ev.istore_n (ls' := [(1, .int _), (0, .ref _), (2, .int _)]) (pc' := 33) dX12_isOpen_32 rfl rfl (Nat.le_of_ble_eq_true rfl) rfl ?_
        refine Ev.iinc (k := 2) (v := _) (ls' := [(2, .int _), (1, .int _), (0, .ref _)]) (pc' := 36) dX12_isOpen_33 rfl rfl (congrArg (_ + ·) ki_1) (Nat.le_of_ble_eq_true rfl) rfl ?_
        refine Ev.goto (tgt := 4) dX12_isOpen_36 rfl ?_
        exact Ev.sub [2, 1, 0] rfl (hP4 _ _ _ _ h)
      · have h := h.2 hc
        exact Ev.sub [0, 2] rfl (okX12_isOpen_b27 hP4 h)
set_option maxRecDepth 10000 in
theorem okX12_isOpen_h4 {G : Gx} {Q : Bool → Ix → Lx → Prop} {v1 : Int32} {v2 : Int32} {I : Ix} {L : Lx} (h : wpX12_isOpen_h4 Q v1 v2 I L) : Ef G MX12_isOpen (qZ Q) 4 [(0, .ref 120), (1, .int v1), (2, .int v2)] [] I L := by
  unfold wpX12_isOpen_h4 at h
  refine Lfp.ind (P := fun z => Ef G MX12_isOpen (qZ Q) 4 [(0, .ref 120), (1, .int z.1), (2, .int z.2.1)] [] z.2.2.1 z.2.2.2) ?_ h
  intro z P' hP' h
  obtain ⟨v1, v2, I, L⟩ := z
  exact okX12_isOpen_l4 (fun v1 v2 I L h9 => hP' (v1, v2, I, L) h9) h
set_option maxRecDepth 10000 in
theorem okX12_isOpen {G : Gx} {I : Ix} {L : Lx} {Q : Bool → Ix → Lx → Prop} (h : wpX12_isOpen I L Q) : Mf G MX12_isOpen [.ref 120] I L (qZ Q) := by
  unfold wpX12_isOpen at h
  refine Mf.of pn_RX12 (Nat.le_of_ble_eq_true rfl) ?_
  refine Ev.iconst (pc' := 1) dX12_isOpen_0 rfl ki_0 ?_
  refine Ev.istore_n (ls' := [(1, .int _), (0, .ref _)]) (pc' := 2) dX12_isOpen_1 rfl rfl (Nat.le_of_ble_eq_true rfl) rfl ?_
  refine Ev.iconst (pc' := 3) dX12_isOpen_2 rfl ki_0 ?_
  refine Ev.istore_n (ls' := [(2, .int _), (1, .int _), (0, .ref _)]) (pc' := 4) dX12_isOpen_3 rfl rfl (Nat.le_of_ble_eq_true rfl) rfl ?_
  exact Ev.sub [2, 1, 0] rfl (okX12_isOpen_h4 h)
def wpX12_sign_b136 (Q : Int32 → Ix → Lx → Prop) (I : Ix) (L : Lx) : Prop := Q 0 I L
def wpX12_sign_b106 (Q : Int32 → Ix → Lx → Prop) (v1 : Int32) (I : Ix) (L : Lx) : Prop := ((I 120 2) ≤ 0 → wpX12_hold v1 I L (fun I1 L2 => wpX12_token I1 L2 (fun I3 L4 => (v1 = 21 → wpX12_sign_b136 Q I3 L4) ∧ (¬ v1 = 21 → (¬ v1 = 20 → Q 1 I3 L4) ∧ (v1 = 20 → wpX12_sign_b136 Q I3 L4))))) ∧ (¬ (I 120 2) ≤ 0 → Q 2 I L)
def wpX12_sign_b52 (Q : Int32 → Ix → Lx → Prop) (v1 : Int32) (I : Ix) (L : Lx) : Prop := (0 ≤ v1 → wpX12_rank v1 I L (fun r3 I1 L2 => (¬ r3 = 23 → wpX12_rank v1 I1 L2 (fun r6 I4 L5 => wpX12_settle r6 I4 L5 (fun I7 L8 => wpX12_sign_b106 Q v1 I7 L8))) ∧ (r3 = 23 → wpX12_settle 26 I1 L2 (fun I9 L10 => wpX12_upper I9 L10 (fun r13 I11 L12 => wpX12_rank r13 I11 L12 (fun r16 I14 L15 => (¬ r16 = 23 → wpX12_sign_b106 Q v1 I14 L15) ∧ (r16 = 23 → wpX12_wrong 2 I14 L15 (fun I17 L18 => wpX12_sign_b106 Q v1 I17 L18)))))))) ∧ (¬ 0 ≤ v1 → wpX12_wrong 2 I L (fun I19 L20 => Q 2 I19 L20))
def wpX12_sign (I : Ix) (L : Lx) (Q : Int32 → Ix → Lx → Prop) : Prop := wpX12_signOf I L (fun r3 I1 L2 => (¬ (I1 120 6) = 41 → wpX12_sign_b52 Q r3 I1 L2) ∧ ((I1 120 6) = 41 → wpX12_isOpen I1 L2 (fun r6 I4 L5 => (r6 = false → wpX12_sign_b52 Q r3 I4 L5) ∧ (r6 = true → wpX12_settle 0 I4 L5 (fun I7 L8 => ∀ I9 : Ix, I9 = pu I7 120 22 ((I7 120 22) - 1) → ∀ I10 : Ix, I10 = pu I9 120 23 ((I9 120 23) - 1) → wpX12_token I10 L8 (fun I11 L12 => Q 2 I11 L12))))))
set_option maxRecDepth 10000 in
theorem okX12_sign_b136 {G : Gx} {Q : Int32 → Ix → Lx → Prop} {I : Ix} {L : Lx} (h : wpX12_sign_b136 Q I L) : Ef G MX12_sign (qI Q) 136 [] [] I L := by
  unfold wpX12_sign_b136 at h
  refine Ev.iconst (pc' := 137) dX12_sign_136 rfl ki_0 ?_
  refine Ev.goto (tgt := 141) dX12_sign_137 rfl ?_
  exact Ef.iret dX12_sign_141 rfl h
set_option maxRecDepth 10000 in
theorem okX12_sign_b106 {G : Gx} {Q : Int32 → Ix → Lx → Prop} {v1 : Int32} {I : Ix} {L : Lx} (h : wpX12_sign_b106 Q v1 I L) : Ef G MX12_sign (qI Q) 106 [(0, .ref 120), (1, .int v1)] [] I L := by
  unfold wpX12_sign_b106 at h
  refine Ev.aload_n (k := 0) (pc' := 107) dX12_sign_106 rfl rfl rfl ?_
  refine Ev.getI (pc' := 110) dX12_sign_107 rfl fa_RX12_236 ob_120 fk_12_2 ?_
  refine Ev.if_le (pc' := 113) (tgt := 115) dX12_sign_110 rfl rfl (fun hc => ?_) (fun hc => ?_)
  · have h := h.1 hc
    refine Ev.aload_n (k := 0) (pc' := 116) dX12_sign_115 rfl rfl rfl ?_
    refine Ev.iload_n (k := 1) (pc' := 117) dX12_sign_116 rfl rfl rfl ?_
    refine Ef.callVV [.int _] [] (pc' := 120) dX12_sign_117 rfl cv_RX12_342_X12_hold ⟨Nat.le_of_ble_eq_true rfl, Nat.le_of_ble_eq_true rfl⟩ ob_120 rfl rfl rfl (Nat.le_of_ble_eq_true rfl) (okX12_hold h) (fun I1 L2 h => ?_)
    refine Ev.aload_n (k := 0) (pc' := 121) dX12_sign_120 rfl rfl rfl ?_
    refine Ef.callVV [] [] (pc' := 124) dX12_sign_121 rfl cv_RX12_302_X12_token ⟨Nat.le_of_ble_eq_true rfl, Nat.le_of_ble_eq_true rfl⟩ ob_120 rfl rfl rfl (Nat.le_of_ble_eq_true rfl) (okX12_token h) (fun I3 L4 h => ?_)
    refine Ev.iload_n (k := 1) (pc' := 125) dX12_sign_124 rfl rfl rfl ?_
    refine Ev.bipush (pc' := 127) dX12_sign_125 rfl kb_21 ?_
    refine Ev.icmp_eq (pc' := 130) (tgt := 136) dX12_sign_127 rfl rfl (fun hc => ?_) (fun hc => ?_)
    · have h := h.1 hc
      exact Ev.sub [] rfl (okX12_sign_b136 h)
    · have h := h.2 hc
      refine Ev.iload_n (k := 1) (pc' := 131) dX12_sign_130 rfl rfl rfl ?_
      refine Ev.bipush (pc' := 133) dX12_sign_131 rfl kb_20 ?_
      refine Ev.icmp_ne (pc' := 136) (tgt := 140) dX12_sign_133 rfl rfl (fun hc => ?_) (fun hc => ?_)
      · have h := h.1 hc
        refine Ev.iconst (pc' := 141) dX12_sign_140 rfl ki_1 ?_
        exact Ef.iret dX12_sign_141 rfl h
      · have h := h.2 hc
        exact Ev.sub [] rfl (okX12_sign_b136 h)
  · have h := h.2 hc
    refine Ev.iconst (pc' := 114) dX12_sign_113 rfl ki_2 ?_
    exact Ef.iret dX12_sign_114 rfl h
set_option maxRecDepth 10000 in
theorem okX12_sign_b52 {G : Gx} {Q : Int32 → Ix → Lx → Prop} {v1 : Int32} {I : Ix} {L : Lx} (h : wpX12_sign_b52 Q v1 I L) : Ef G MX12_sign (qI Q) 52 [(0, .ref 120), (1, .int v1)] [] I L := by
  unfold wpX12_sign_b52 at h
  refine Ev.iload_n (k := 1) (pc' := 53) dX12_sign_52 rfl rfl rfl ?_
  refine Ev.if_ge (pc' := 56) (tgt := 63) dX12_sign_53 rfl rfl (fun hc => ?_) (fun hc => ?_)
  · have h := h.1 hc
    refine Ev.iload_n (k := 1) (pc' := 64) dX12_sign_63 rfl rfl rfl ?_
    refine Ef.callSI [.int _] [] (pc' := 67) dX12_sign_64 rfl cv_RX12_330_X12_rank ⟨Nat.le_of_ble_eq_true rfl, Nat.le_of_ble_eq_true rfl⟩ rfl rfl (Nat.le_of_ble_eq_true rfl) (okX12_rank h) (fun r3 I1 L2 h => ?_)
    refine Ev.bipush (pc' := 69) dX12_sign_67 rfl kb_23 ?_
    refine Ev.icmp_ne (pc' := 72) (tgt := 98) dX12_sign_69 rfl rfl (fun hc => ?_) (fun hc => ?_)
    · have h := h.1 hc
      refine Ev.aload_n (k := 0) (pc' := 99) dX12_sign_98 rfl rfl rfl ?_
      refine Ev.iload_n (k := 1) (pc' := 100) dX12_sign_99 rfl rfl rfl ?_
      refine Ef.callSI [.int _] [.ref _] (pc' := 103) dX12_sign_100 rfl cv_RX12_330_X12_rank ⟨Nat.le_of_ble_eq_true rfl, Nat.le_of_ble_eq_true rfl⟩ rfl rfl (Nat.le_of_ble_eq_true rfl) (okX12_rank h) (fun r6 I4 L5 h => ?_)
      refine Ef.callVV [.int _] [] (pc' := 106) dX12_sign_103 rfl cv_RX12_352_X12_settle ⟨Nat.le_of_ble_eq_true rfl, Nat.le_of_ble_eq_true rfl⟩ ob_120 rfl rfl rfl (Nat.le_of_ble_eq_true rfl) (okX12_settle h) (fun I7 L8 h => ?_)
      exact okX12_sign_b106 h
    · have h := h.2 hc
      refine Ev.aload_n (k := 0) (pc' := 73) dX12_sign_72 rfl rfl rfl ?_
      refine Ev.bipush (pc' := 75) dX12_sign_73 rfl kb_26 ?_
      refine Ef.callVV [.int _] [] (pc' := 78) dX12_sign_75 rfl cv_RX12_352_X12_settle ⟨Nat.le_of_ble_eq_true rfl, Nat.le_of_ble_eq_true rfl⟩ ob_120 rfl rfl rfl (Nat.le_of_ble_eq_true rfl) (okX12_settle h) (fun I9 L10 h => ?_)
      refine Ev.aload_n (k := 0) (pc' := 79) dX12_sign_78 rfl rfl rfl ?_
      refine Ef.callVI [] [] (pc' := 82) dX12_sign_79 rfl cv_RX12_326_X12_upper ⟨Nat.le_of_ble_eq_true rfl, Nat.le_of_ble_eq_true rfl⟩ ob_120 rfl rfl rfl (Nat.le_of_ble_eq_true rfl) (okX12_upper h) (fun r13 I11 L12 h => ?_)
      refine Ef.callSI [.int _] [] (pc' := 85) dX12_sign_82 rfl cv_RX12_330_X12_rank ⟨Nat.le_of_ble_eq_true rfl, Nat.le_of_ble_eq_true rfl⟩ rfl rfl (Nat.le_of_ble_eq_true rfl) (okX12_rank h) (fun r16 I14 L15 h => ?_)
      refine Ev.bipush (pc' := 87) dX12_sign_85 rfl kb_23 ?_
      refine Ev.icmp_ne (pc' := 90) (tgt := 106) dX12_sign_87 rfl rfl (fun hc => ?_) (fun hc => ?_)
      · have h := h.1 hc
        exact okX12_sign_b106 h
      · have h := h.2 hc
        refine Ev.aload_n (k := 0) (pc' := 91) dX12_sign_90 rfl rfl rfl ?_
        refine Ev.iconst (pc' := 92) dX12_sign_91 rfl ki_2 ?_
        refine Ef.callVV [.int _] [] (pc' := 95) dX12_sign_92 rfl cv_RX12_299_X12_wrong ⟨Nat.le_of_ble_eq_true rfl, Nat.le_of_ble_eq_true rfl⟩ ob_120 rfl rfl rfl (Nat.le_of_ble_eq_true rfl) (okX12_wrong h) (fun I17 L18 h => ?_)
        refine Ev.goto (tgt := 106) dX12_sign_95 rfl ?_
        exact okX12_sign_b106 h
  · have h := h.2 hc
    refine Ev.aload_n (k := 0) (pc' := 57) dX12_sign_56 rfl rfl rfl ?_
    refine Ev.iconst (pc' := 58) dX12_sign_57 rfl ki_2 ?_
    refine Ef.callVV [.int _] [] (pc' := 61) dX12_sign_58 rfl cv_RX12_299_X12_wrong ⟨Nat.le_of_ble_eq_true rfl, Nat.le_of_ble_eq_true rfl⟩ ob_120 rfl rfl rfl (Nat.le_of_ble_eq_true rfl) (okX12_wrong h) (fun I19 L20 h => ?_)
    refine Ev.iconst (pc' := 62) dX12_sign_61 rfl ki_2 ?_
    exact Ef.iret dX12_sign_62 rfl h
set_option maxRecDepth 10000 in
theorem okX12_sign {G : Gx} {I : Ix} {L : Lx} {Q : Int32 → Ix → Lx → Prop} (h : wpX12_sign I L Q) : Mf G MX12_sign [.ref 120] I L (qI Q) := by
  unfold wpX12_sign at h
  refine Mf.of pn_RX12 (Nat.le_of_ble_eq_true rfl) ?_
  refine Ev.aload_n (k := 0) (pc' := 1) dX12_sign_0 rfl rfl rfl ?_
  refine Ef.callVI [] [] (pc' := 4) dX12_sign_1 rfl cv_RX12_345_X12_signOf ⟨Nat.le_of_ble_eq_true rfl, Nat.le_of_ble_eq_true rfl⟩ ob_120 rfl rfl rfl (Nat.le_of_ble_eq_true rfl) (okX12_signOf h) (fun r3 I1 L2 h => ?_)
  refine Ev.istore_n (ls' := [(1, .int _), (0, .ref _)]) (pc' := 5) dX12_sign_4 rfl rfl (Nat.le_of_ble_eq_true rfl) rfl ?_
  refine Ev.aload_n (k := 1) (pc' := 6) dX12_sign_5 rfl rfl rfl ?_
  refine Ev.getI (pc' := 9) dX12_sign_6 rfl fa_RX12_223 ob_120 fk_12_6 ?_
  refine Ev.bipush (pc' := 11) dX12_sign_9 rfl kb_41 ?_
  refine Ev.icmp_ne (pc' := 14) (tgt := 52) dX12_sign_11 rfl rfl (fun hc => ?_) (fun hc => ?_)
  · have h := h.1 hc
    exact Ev.sub [1, 0] rfl (okX12_sign_b52 h)
  · have h := h.2 hc
    refine Ev.aload_n (k := 1) (pc' := 15) dX12_sign_14 rfl rfl rfl ?_
    refine Ef.callVZ [] [] (pc' := 18) dX12_sign_15 rfl cv_RX12_348_X12_isOpen ⟨Nat.le_of_ble_eq_true rfl, Nat.le_of_ble_eq_true rfl⟩ ob_120 rfl rfl rfl (Nat.le_of_ble_eq_true rfl) (okX12_isOpen h) (fun r6 I4 L5 h => ?_)
    refine Ef.ifz_eq (pc' := 21) (tgt := 52) dX12_sign_18 rfl rfl (fun hc => ?_) (fun hc => ?_)
    · have h := h.1 hc
      exact Ev.sub [1, 0] rfl (okX12_sign_b52 h)
    · have h := h.2 hc
      refine Ev.aload_n (k := 1) (pc' := 22) dX12_sign_21 rfl rfl rfl ?_
      refine Ev.iconst (pc' := 23) dX12_sign_22 rfl ki_0 ?_
      refine Ef.callVV [.int _] [] (pc' := 26) dX12_sign_23 rfl cv_RX12_352_X12_settle ⟨Nat.le_of_ble_eq_true rfl, Nat.le_of_ble_eq_true rfl⟩ ob_120 rfl rfl rfl (Nat.le_of_ble_eq_true rfl) (okX12_settle h) (fun I7 L8 h => ?_)
      refine Ev.aload_n (k := 1) (pc' := 27) dX12_sign_26 rfl rfl rfl ?_
      refine Ev.dup (pc' := 28) dX12_sign_27 rfl rfl ?_
      refine Ev.getI (pc' := 31) dX12_sign_28 rfl fa_RX12_316 ob_120 fk_12_22 ?_
      refine Ev.iconst (pc' := 32) dX12_sign_31 rfl ki_1 ?_
      refine Ev.isub (pc' := 33) dX12_sign_32 rfl ?_
      refine Ev.putI (pc' := 36) dX12_sign_33 rfl fa_RX12_316 ob_120 fk_12_22 rfl rfl (fun I9 eI9 => ?_)
      have h := h I9 eI9
      refine Ev.aload_n (k := 1) (pc' := 37) dX12_sign_36 rfl rfl rfl ?_
      refine Ev.dup (pc' := 38) dX12_sign_37 rfl rfl ?_
      refine Ev.getI (pc' := 41) dX12_sign_38 rfl fa_RX12_319 ob_120 fk_12_23 ?_
      refine Ev.iconst (pc' := 42) dX12_sign_41 rfl ki_1 ?_
      refine Ev.isub (pc' := 43) dX12_sign_42 rfl ?_
      refine Ev.putI (pc' := 46) dX12_sign_43 rfl fa_RX12_319 ob_120 fk_12_23 rfl rfl (fun I10 eI10 => ?_)
      have h := h I10 eI10
      refine Ev.aload_n (k := 1) (pc' := 47) dX12_sign_46 rfl rfl rfl ?_
      refine Ef.callVV [] [] (pc' := 50) dX12_sign_47 rfl cv_RX12_302_X12_token ⟨Nat.le_of_ble_eq_true rfl, Nat.le_of_ble_eq_true rfl⟩ ob_120 rfl rfl rfl (Nat.le_of_ble_eq_true rfl) (okX12_token h) (fun I11 L12 h => ?_)
      refine Ev.iconst (pc' := 51) dX12_sign_50 rfl ki_2 ?_
      exact Ef.iret dX12_sign_51 rfl h
def wpX12_readStands_b89 (Q : Ix → Lx → Prop) (I : Ix) (L : Lx) : Prop := (¬ (I 120 2) = 0 → Q I L) ∧ ((I 120 2) = 0 → wpX12_settle 0 I L (fun I1 L2 => Q I1 L2))
def wpX12_readStands_b68 (Q : Ix → Lx → Prop) (P40 : Int32 → Ix → Lx → Prop) (v1 : Int32) (I : Ix) (L : Lx) : Prop := (¬ v1 = 2 → wpX12_operand v1 I L (fun r3 I1 L2 => P40 r3 I1 L2)) ∧ (v1 = 2 → wpX12_sign I L (fun r6 I4 L5 => P40 r6 I4 L5))
def wpX12_readStands_l40 (Q : Ix → Lx → Prop) (P40 : Int32 → Ix → Lx → Prop) (v1 : Int32) (I : Ix) (L : Lx) : Prop := (¬ (I 120 2) = 0 → wpX12_readStands_b89 Q I L) ∧ ((I 120 2) = 0 → (¬ v1 = 2 → wpX12_readStands_b68 Q P40 v1 I L) ∧ (v1 = 2 → wpX12_isOpen I L (fun r3 I1 L2 => (r3 = true → wpX12_readStands_b68 Q P40 v1 I1 L2) ∧ (r3 = false → ((I1 120 6) = 59 → wpX12_readStands_b89 Q I1 L2) ∧ (¬ (I1 120 6) = 59 → wpX12_readStands_b68 Q P40 v1 I1 L2)))))
def wpX12_readStands_h40 (Q : Ix → Lx → Prop) (v1 : Int32) (I : Ix) (L : Lx) : Prop := Lfp (X := Int32 × Ix × Lx) (fun P z => wpX12_readStands_l40 Q (fun v1 I L => P (v1, I, L)) z.1 z.2.1 z.2.2) (v1, I, L)
theorem wpX12_readStands_h40_fold {Q : Ix → Lx → Prop} {v1 : Int32} {I : Ix} {L : Lx} (h : wpX12_readStands_l40 Q (wpX12_readStands_h40 Q) v1 I L) : wpX12_readStands_h40 Q v1 I L := Lfp.fold h
def wpX12_readStands (I : Ix) (L : Lx) (Q : Ix → Lx → Prop) : Prop := wpX12_want 126943688025203 I L (fun I1 L2 => ((I1 120 2) ≤ 0 → vp_in (I1 120 39) 7 ∧ ∀ I3 : Ix, I3 = pu I1 124 (I1 120 39).toNatClampNeg (I1 120 19) → ∀ I4 : Ix, I4 = pu I3 120 22 0 → ∀ I5 : Ix, I5 = pu I4 120 23 0 → wpX12_readStands_h40 Q 0 I5 L2) ∧ (¬ (I1 120 2) ≤ 0 → Q I1 L2))
set_option maxRecDepth 10000 in
theorem okX12_readStands_b89 {G : Gx} {Q : Ix → Lx → Prop} {I : Ix} {L : Lx} (h : wpX12_readStands_b89 Q I L) : Ef G MX12_readStands (qV Q) 89 [(0, .ref 120)] [] I L := by
  unfold wpX12_readStands_b89 at h
  refine Ev.aload_n (k := 0) (pc' := 90) dX12_readStands_89 rfl rfl rfl ?_
  refine Ev.getI (pc' := 93) dX12_readStands_90 rfl fa_RX12_236 ob_120 fk_12_2 ?_
  refine Ev.if_ne (pc' := 96) (tgt := 101) dX12_readStands_93 rfl rfl (fun hc => ?_) (fun hc => ?_)
  · have h := h.1 hc
    exact Ef.vret dX12_readStands_101 rfl h
  · have h := h.2 hc
    refine Ev.aload_n (k := 0) (pc' := 97) dX12_readStands_96 rfl rfl rfl ?_
    refine Ev.iconst (pc' := 98) dX12_readStands_97 rfl ki_0 ?_
    refine Ef.callVV [.int _] [] (pc' := 101) dX12_readStands_98 rfl cv_RX12_352_X12_settle ⟨Nat.le_of_ble_eq_true rfl, Nat.le_of_ble_eq_true rfl⟩ ob_120 rfl rfl rfl (Nat.le_of_ble_eq_true rfl) (okX12_settle h) (fun I1 L2 h => ?_)
    exact Ef.vret dX12_readStands_101 rfl h
set_option maxRecDepth 10000 in
theorem okX12_readStands_b68 {G : Gx} {Q : Ix → Lx → Prop} {P40 : Int32 → Ix → Lx → Prop} (hP40 : ∀ (v1 : Int32) (I : Ix) (L : Lx), P40 v1 I L → Ef G MX12_readStands (qV Q) 40 [(0, .ref 120), (1, .int v1)] [] I L) {v1 : Int32} {I : Ix} {L : Lx} (h : wpX12_readStands_b68 Q P40 v1 I L) : Ef G MX12_readStands (qV Q) 68 [(0, .ref 120), (1, .int v1)] [] I L := by
  unfold wpX12_readStands_b68 at h
  refine Ev.iload_n (k := 1) (pc' := 69) dX12_readStands_68 rfl rfl rfl ?_
  refine Ev.iconst (pc' := 70) dX12_readStands_69 rfl ki_2 ?_
  refine Ev.icmp_ne (pc' := 73) (tgt := 80) dX12_readStands_70 rfl rfl (fun hc => ?_) (fun hc => ?_)
  · have h := h.1 hc
    refine Ev.aload_n (k := 0) (pc' := 81) dX12_readStands_80 rfl rfl rfl ?_
    refine Ev.iload_n (k := 1) (pc' := 82) dX12_readStands_81 rfl rfl rfl ?_
    refine Ef.callVI [.int _] [] (pc' := 85) dX12_readStands_82 rfl cv_RX12_361_X12_operand ⟨Nat.le_of_ble_eq_true rfl, Nat.le_of_ble_eq_true rfl⟩ ob_120 rfl rfl rfl (Nat.le_of_ble_eq_true rfl) (okX12_operand h) (fun r3 I1 L2 h => ?_)
    refine Ev.istore_n (ls' := [(1, .int _), (0, .ref _)]) (pc' := 86) dX12_readStands_85 rfl rfl (Nat.le_of_ble_eq_true rfl) rfl ?_
    refine Ev.goto (tgt := 40) dX12_readStands_86 rfl ?_
    exact Ev.sub [1, 0] rfl (hP40 _ _ _ h)
  · have h := h.2 hc
    refine Ev.aload_n (k := 0) (pc' := 74) dX12_readStands_73 rfl rfl rfl ?_
    refine Ef.callVI [] [] (pc' := 77) dX12_readStands_74 rfl cv_RX12_358_X12_sign ⟨Nat.le_of_ble_eq_true rfl, Nat.le_of_ble_eq_true rfl⟩ ob_120 rfl rfl rfl (Nat.le_of_ble_eq_true rfl) (okX12_sign h) (fun r6 I4 L5 h => ?_)
    refine Ev.goto (tgt := 85) dX12_readStands_77 rfl ?_
    refine Ev.istore_n (ls' := [(1, .int _), (0, .ref _)]) (pc' := 86) dX12_readStands_85 rfl rfl (Nat.le_of_ble_eq_true rfl) rfl ?_
    refine Ev.goto (tgt := 40) dX12_readStands_86 rfl ?_
    exact Ev.sub [1, 0] rfl (hP40 _ _ _ h)
set_option maxRecDepth 10000 in
theorem okX12_readStands_l40 {G : Gx} {Q : Ix → Lx → Prop} {P40 : Int32 → Ix → Lx → Prop} (hP40 : ∀ (v1 : Int32) (I : Ix) (L : Lx), P40 v1 I L → Ef G MX12_readStands (qV Q) 40 [(0, .ref 120), (1, .int v1)] [] I L) {v1 : Int32} {I : Ix} {L : Lx} (h : wpX12_readStands_l40 Q P40 v1 I L) : Ef G MX12_readStands (qV Q) 40 [(0, .ref 120), (1, .int v1)] [] I L := by
  unfold wpX12_readStands_l40 at h
  refine Ev.aload_n (k := 0) (pc' := 41) dX12_readStands_40 rfl rfl rfl ?_
  refine Ev.getI (pc' := 44) dX12_readStands_41 rfl fa_RX12_236 ob_120 fk_12_2 ?_
  refine Ev.if_ne (pc' := 47) (tgt := 89) dX12_readStands_44 rfl rfl (fun hc => ?_) (fun hc => ?_)
  · have h := h.1 hc
    exact Ev.sub [0] rfl (okX12_readStands_b89 h)
  · have h := h.2 hc
    refine Ev.iload_n (k := 1) (pc' := 48) dX12_readStands_47 rfl rfl rfl ?_
    refine Ev.iconst (pc' := 49) dX12_readStands_48 rfl ki_2 ?_
    refine Ev.icmp_ne (pc' := 52) (tgt := 68) dX12_readStands_49 rfl rfl (fun hc => ?_) (fun hc => ?_)
    · have h := h.1 hc
      exact okX12_readStands_b68 hP40 h
    · have h := h.2 hc
      refine Ev.aload_n (k := 0) (pc' := 53) dX12_readStands_52 rfl rfl rfl ?_
      refine Ef.callVZ [] [] (pc' := 56) dX12_readStands_53 rfl cv_RX12_348_X12_isOpen ⟨Nat.le_of_ble_eq_true rfl, Nat.le_of_ble_eq_true rfl⟩ ob_120 rfl rfl rfl (Nat.le_of_ble_eq_true rfl) (okX12_isOpen h) (fun r3 I1 L2 h => ?_)
      refine Ef.ifz_ne (pc' := 59) (tgt := 68) dX12_readStands_56 rfl rfl (fun hc => ?_) (fun hc => ?_)
      · have h := h.1 hc
        exact okX12_readStands_b68 hP40 h
      · have h := h.2 hc
        refine Ev.aload_n (k := 0) (pc' := 60) dX12_readStands_59 rfl rfl rfl ?_
        refine Ev.getI (pc' := 63) dX12_readStands_60 rfl fa_RX12_223 ob_120 fk_12_6 ?_
        refine Ev.bipush (pc' := 65) dX12_readStands_63 rfl kb_59 ?_
        refine Ev.icmp_eq (pc' := 68) (tgt := 89) dX12_readStands_65 rfl rfl (fun hc => ?_) (fun hc => ?_)
        · have h := h.1 hc
          exact Ev.sub [0] rfl (okX12_readStands_b89 h)
        · have h := h.2 hc
          exact okX12_readStands_b68 hP40 h
set_option maxRecDepth 10000 in
theorem okX12_readStands_h40 {G : Gx} {Q : Ix → Lx → Prop} {v1 : Int32} {I : Ix} {L : Lx} (h : wpX12_readStands_h40 Q v1 I L) : Ef G MX12_readStands (qV Q) 40 [(0, .ref 120), (1, .int v1)] [] I L := by
  unfold wpX12_readStands_h40 at h
  refine Lfp.ind (P := fun z => Ef G MX12_readStands (qV Q) 40 [(0, .ref 120), (1, .int z.1)] [] z.2.1 z.2.2) ?_ h
  intro z P' hP' h
  obtain ⟨v1, I, L⟩ := z
  exact okX12_readStands_l40 (fun v1 I L h9 => hP' (v1, I, L) h9) h
set_option maxRecDepth 10000 in
theorem okX12_readStands {G : Gx} {I : Ix} {L : Lx} {Q : Ix → Lx → Prop} (h : wpX12_readStands I L Q) : Mf G MX12_readStands [.ref 120] I L (qV Q) := by
  unfold wpX12_readStands at h
  refine Mf.of pn_RX12 (Nat.le_of_ble_eq_true rfl) ?_
  refine Ev.aload_n (k := 0) (pc' := 1) dX12_readStands_0 rfl rfl rfl ?_
  refine Ev.ldc2 (pc' := 4) dX12_readStands_1 rfl ll_RX12_267 ?_
  refine Ef.callVV [.long _] [] (pc' := 7) dX12_readStands_4 rfl cv_RX12_305_X12_want ⟨Nat.le_of_ble_eq_true rfl, Nat.le_of_ble_eq_true rfl⟩ ob_120 rfl rfl rfl (Nat.le_of_ble_eq_true rfl) (okX12_want h) (fun I1 L2 h => ?_)
  refine Ev.aload_n (k := 0) (pc' := 8) dX12_readStands_7 rfl rfl rfl ?_
  refine Ev.getI (pc' := 11) dX12_readStands_8 rfl fa_RX12_236 ob_120 fk_12_2 ?_
  refine Ev.if_le (pc' := 14) (tgt := 15) dX12_readStands_11 rfl rfl (fun hc => ?_) (fun hc => ?_)
  · have h := h.1 hc
    refine Ev.aload_n (k := 0) (pc' := 16) dX12_readStands_15 rfl rfl rfl ?_
    refine Ev.getR (pc' := 19) dX12_readStands_16 rfl fa_RX12_23 ob_120 fk_12_12 rf_120_12 ?_
    refine Ev.aload_n (k := 0) (pc' := 20) dX12_readStands_19 rfl rfl rfl ?_
    refine Ev.getI (pc' := 23) dX12_readStands_20 rfl fa_RX12_355 ob_120 fk_12_39 ?_
    refine Ev.aload_n (k := 0) (pc' := 24) dX12_readStands_23 rfl rfl rfl ?_
    refine Ev.getI (pc' := 27) dX12_readStands_24 rfl fa_RX12_313 ob_120 fk_12_19 ?_
    refine Ev.iastore (j := _) (pc' := 28) dX12_readStands_27 rfl ar_124 h.1 rfl (fun I3 eI3 => ?_)
    have h := h.2 I3 eI3
    refine Ev.aload_n (k := 0) (pc' := 29) dX12_readStands_28 rfl rfl rfl ?_
    refine Ev.iconst (pc' := 30) dX12_readStands_29 rfl ki_0 ?_
    refine Ev.putI (pc' := 33) dX12_readStands_30 rfl fa_RX12_316 ob_120 fk_12_22 rfl rfl (fun I4 eI4 => ?_)
    have h := h I4 eI4
    refine Ev.aload_n (k := 0) (pc' := 34) dX12_readStands_33 rfl rfl rfl ?_
    refine Ev.iconst (pc' := 35) dX12_readStands_34 rfl ki_0 ?_
    refine Ev.putI (pc' := 38) dX12_readStands_35 rfl fa_RX12_319 ob_120 fk_12_23 rfl rfl (fun I5 eI5 => ?_)
    have h := h I5 eI5
    refine Ev.iconst (pc' := 39) dX12_readStands_38 rfl ki_0 ?_
    refine Ev.istore_n (ls' := [(1, .int _), (0, .ref _)]) (pc' := 40) dX12_readStands_39 rfl rfl (Nat.le_of_ble_eq_true rfl) rfl ?_
    exact Ev.sub [1, 0] rfl (okX12_readStands_h40 h)
  · have h := h.2 hc
    exact Ef.vret dX12_readStands_14 rfl h
def wpX12_readPerson (I : Ix) (L : Lx) (Q : Ix → Lx → Prop) : Prop := wpX12_newName 133 6 (I 120 39) I L (fun r3 I1 L2 => wpX12_atPlace I1 L2 (fun r6 I4 L5 => wpX12_told 427120748148 0 9 I4 L5 (fun r9 I7 L8 => wpX12_told 439956431717 0 99 I7 L8 (fun r12 I10 L11 => wpX12_told 1751216740 0 9 I10 L11 (fun r15 I13 L14 => wpX12_readStands I13 L14 (fun I16 L17 => ((I16 120 2) ≤ 0 → vp_in (4 * (I 120 39)) 24 ∧ ∀ I18 : Ix, I18 = pu I16 137 (4 * (I 120 39)).toNatClampNeg r6 → vp_in ((4 * (I 120 39)) + 1) 24 ∧ ∀ I19 : Ix, I19 = pu I18 137 ((4 * (I 120 39)) + 1).toNatClampNeg r9 → vp_in ((4 * (I 120 39)) + 2) 24 ∧ ∀ I20 : Ix, I20 = pu I19 137 ((4 * (I 120 39)) + 2).toNatClampNeg r12 → vp_in ((4 * (I 120 39)) + 3) 24 ∧ ∀ I21 : Ix, I21 = pu I20 137 ((4 * (I 120 39)) + 3).toNatClampNeg r15 → vp_in (I21 120 39) 6 ∧ ∀ L22 : Lx, L22 = pu L17 133 (I21 120 39).toNatClampNeg r3 → ∀ I23 : Ix, I23 = pu I21 120 39 ((I21 120 39) + 1) → vp_in (I23 120 39) 7 ∧ ∀ I24 : Ix, I24 = pu I23 124 (I23 120 39).toNatClampNeg (I23 120 19) → Q I24 L22) ∧ (¬ (I16 120 2) ≤ 0 → Q I16 L17)))))))
set_option maxRecDepth 10000 in
theorem okX12_readPerson {G : Gx} {I : Ix} {L : Lx} {Q : Ix → Lx → Prop} (h : wpX12_readPerson I L Q) : Mf G MX12_readPerson [.ref 120] I L (qV Q) := by
  unfold wpX12_readPerson at h
  refine Mf.of pn_RX12 (Nat.le_of_ble_eq_true rfl) ?_
  refine Ev.iconst (pc' := 1) dX12_readPerson_0 rfl ki_4 ?_
  refine Ev.aload_n (k := 0) (pc' := 2) dX12_readPerson_1 rfl rfl rfl ?_
  refine Ev.getI (pc' := 5) dX12_readPerson_2 rfl fa_RX12_355 ob_120 fk_12_39 ?_
  refine Ev.imul (pc' := 6) dX12_readPerson_5 rfl ?_
  refine Ev.istore_n (ls' := [(1, .int _), (0, .ref _)]) (pc' := 7) dX12_readPerson_6 rfl rfl (Nat.le_of_ble_eq_true rfl) rfl ?_
  refine Ev.aload_n (k := 1) (pc' := 8) dX12_readPerson_7 rfl rfl rfl ?_
  refine Ev.aload_n (k := 1) (pc' := 9) dX12_readPerson_8 rfl rfl rfl ?_
  refine Ev.getR (pc' := 12) dX12_readPerson_9 rfl fa_RX12_51 ob_120 fk_12_26 rf_120_26 ?_
  refine Ev.aload_n (k := 1) (pc' := 13) dX12_readPerson_12 rfl rfl rfl ?_
  refine Ev.getI (pc' := 16) dX12_readPerson_13 rfl fa_RX12_355 ob_120 fk_12_39 ?_
  refine Ef.callVL [.ref _, .int _] [] (pc' := 19) dX12_readPerson_16 rfl cv_RX12_377_X12_newName ⟨Nat.le_of_ble_eq_true rfl, Nat.le_of_ble_eq_true rfl⟩ ob_120 rfl rfl rfl (Nat.le_of_ble_eq_true rfl) (okX12_newName ar_133 h) (fun r3 I1 L2 h => ?_)
  refine Ev.lstore_n (ls' := [(2, .long _), (1, .int _), (0, .ref _)]) (pc' := 20) dX12_readPerson_19 rfl rfl (Nat.le_of_ble_eq_true rfl) rfl ?_
  refine Ev.aload_n (k := 2) (pc' := 21) dX12_readPerson_20 rfl rfl rfl ?_
  refine Ef.callVI [] [] (pc' := 24) dX12_readPerson_21 rfl cv_RX12_391_X12_atPlace ⟨Nat.le_of_ble_eq_true rfl, Nat.le_of_ble_eq_true rfl⟩ ob_120 rfl rfl rfl (Nat.le_of_ble_eq_true rfl) (okX12_atPlace h) (fun r6 I4 L5 h => ?_)
  refine Ev.istore (ls' := [(4, .int _), (2, .long _), (1, .int _), (0, .ref _)]) (pc' := 26) dX12_readPerson_24 rfl (Nat.le_of_ble_eq_true rfl) rfl ?_
  refine Ev.aload_n (k := 3) (pc' := 27) dX12_readPerson_26 rfl rfl rfl ?_
  refine Ev.ldc2 (pc' := 30) dX12_readPerson_27 rfl ll_RX12_261 ?_
  refine Ev.iconst (pc' := 31) dX12_readPerson_30 rfl ki_0 ?_
  refine Ev.bipush (pc' := 33) dX12_readPerson_31 rfl kb_9 ?_
  refine Ef.callVI [.long _, .int _, .int _] [] (pc' := 36) dX12_readPerson_33 rfl cv_RX12_381_X12_told ⟨Nat.le_of_ble_eq_true rfl, Nat.le_of_ble_eq_true rfl⟩ ob_120 rfl rfl rfl (Nat.le_of_ble_eq_true rfl) (okX12_told h) (fun r9 I7 L8 h => ?_)
  refine Ev.istore (ls' := [(5, .int _), (4, .int _), (2, .long _), (1, .int _), (0, .ref _)]) (pc' := 38) dX12_readPerson_36 rfl (Nat.le_of_ble_eq_true rfl) rfl ?_
  refine Ev.aload_n (k := 4) (pc' := 39) dX12_readPerson_38 rfl rfl rfl ?_
  refine Ev.ldc2 (pc' := 42) dX12_readPerson_39 rfl ll_RX12_263 ?_
  refine Ev.iconst (pc' := 43) dX12_readPerson_42 rfl ki_0 ?_
  refine Ev.bipush (pc' := 45) dX12_readPerson_43 rfl kb_99 ?_
  refine Ef.callVI [.long _, .int _, .int _] [] (pc' := 48) dX12_readPerson_45 rfl cv_RX12_381_X12_told ⟨Nat.le_of_ble_eq_true rfl, Nat.le_of_ble_eq_true rfl⟩ ob_120 rfl rfl rfl (Nat.le_of_ble_eq_true rfl) (okX12_told h) (fun r12 I10 L11 h => ?_)
  refine Ev.istore (ls' := [(6, .int _), (5, .int _), (4, .int _), (2, .long _), (1, .int _), (0, .ref _)]) (pc' := 50) dX12_readPerson_48 rfl (Nat.le_of_ble_eq_true rfl) rfl ?_
  refine Ev.aload_n (k := 5) (pc' := 51) dX12_readPerson_50 rfl rfl rfl ?_
  refine Ev.ldc2 (pc' := 54) dX12_readPerson_51 rfl ll_RX12_265 ?_
  refine Ev.iconst (pc' := 55) dX12_readPerson_54 rfl ki_0 ?_
  refine Ev.bipush (pc' := 57) dX12_readPerson_55 rfl kb_9 ?_
  refine Ef.callVI [.long _, .int _, .int _] [] (pc' := 60) dX12_readPerson_57 rfl cv_RX12_381_X12_told ⟨Nat.le_of_ble_eq_true rfl, Nat.le_of_ble_eq_true rfl⟩ ob_120 rfl rfl rfl (Nat.le_of_ble_eq_true rfl) (okX12_told h) (fun r15 I13 L14 h => ?_)
  refine Ev.istore (ls' := [(7, .int _), (6, .int _), (5, .int _), (4, .int _), (2, .long _), (1, .int _), (0, .ref _)]) (pc' := 62) dX12_readPerson_60 rfl (Nat.le_of_ble_eq_true rfl) rfl ?_
  refine Ev.aload_n (k := 6) (pc' := 63) dX12_readPerson_62 rfl rfl rfl ?_
  refine Ef.callVV [] [] (pc' := 66) dX12_readPerson_63 rfl cv_RX12_394_X12_readStands ⟨Nat.le_of_ble_eq_true rfl, Nat.le_of_ble_eq_true rfl⟩ ob_120 rfl rfl rfl (Nat.le_of_ble_eq_true rfl) (okX12_readStands h) (fun I16 L17 h => ?_)
  refine Ev.aload_n (k := 6) (pc' := 67) dX12_readPerson_66 rfl rfl rfl ?_
  refine Ev.getI (pc' := 70) dX12_readPerson_67 rfl fa_RX12_236 ob_120 fk_12_2 ?_
  refine Ev.if_le (pc' := 73) (tgt := 74) dX12_readPerson_70 rfl rfl (fun hc => ?_) (fun hc => ?_)
  · have h := h.1 hc
    refine Ev.aload_n (k := 6) (pc' := 75) dX12_readPerson_74 rfl rfl rfl ?_
    refine Ev.getR (pc' := 78) dX12_readPerson_75 rfl fa_RX12_63 ob_120 fk_12_30 rf_120_30 ?_
    refine Ev.iload_n (k := 5) (pc' := 79) dX12_readPerson_78 rfl rfl rfl ?_
    refine Ev.iload (k := 3) (pc' := 81) dX12_readPerson_79 rfl rfl ?_
    refine Ev.iastore (j := _) (pc' := 82) dX12_readPerson_81 rfl ar_137 h.1 rfl (fun I18 eI18 => ?_)
    have h := h.2 I18 eI18
    refine Ev.aload_n (k := 6) (pc' := 83) dX12_readPerson_82 rfl rfl rfl ?_
    refine Ev.getR (pc' := 86) dX12_readPerson_83 rfl fa_RX12_63 ob_120 fk_12_30 rf_120_30 ?_
    refine Ev.iload_n (k := 5) (pc' := 87) dX12_readPerson_86 rfl rfl rfl ?_
    refine Ev.iconst (pc' := 88) dX12_readPerson_87 rfl ki_1 ?_
    refine Ev.iadd (pc' := 89) dX12_readPerson_88 rfl ?_
    refine Ev.iload (k := 2) (pc' := 91) dX12_readPerson_89 rfl rfl ?_
    refine Ev.iastore (j := _) (pc' := 92) dX12_readPerson_91 rfl ar_137 h.1 rfl (fun I19 eI19 => ?_)
    have h := h.2 I19 eI19
    refine Ev.aload_n (k := 6) (pc' := 93) dX12_readPerson_92 rfl rfl rfl ?_
    refine Ev.getR (pc' := 96) dX12_readPerson_93 rfl fa_RX12_63 ob_120 fk_12_30 rf_120_30 ?_
    refine Ev.iload_n (k := 5) (pc' := 97) dX12_readPerson_96 rfl rfl rfl ?_
    refine Ev.iconst (pc' := 98) dX12_readPerson_97 rfl ki_2 ?_
    refine Ev.iadd (pc' := 99) dX12_readPerson_98 rfl ?_
    refine Ev.iload (k := 1) (pc' := 101) dX12_readPerson_99 rfl rfl ?_
    refine Ev.iastore (j := _) (pc' := 102) dX12_readPerson_101 rfl ar_137 h.1 rfl (fun I20 eI20 => ?_)
    have h := h.2 I20 eI20
    refine Ev.aload_n (k := 6) (pc' := 103) dX12_readPerson_102 rfl rfl rfl ?_
    refine Ev.getR (pc' := 106) dX12_readPerson_103 rfl fa_RX12_63 ob_120 fk_12_30 rf_120_30 ?_
    refine Ev.iload_n (k := 5) (pc' := 107) dX12_readPerson_106 rfl rfl rfl ?_
    refine Ev.iconst (pc' := 108) dX12_readPerson_107 rfl ki_3 ?_
    refine Ev.iadd (pc' := 109) dX12_readPerson_108 rfl ?_
    refine Ev.iload (k := 0) (pc' := 111) dX12_readPerson_109 rfl rfl ?_
    refine Ev.iastore (j := _) (pc' := 112) dX12_readPerson_111 rfl ar_137 h.1 rfl (fun I21 eI21 => ?_)
    have h := h.2 I21 eI21
    refine Ev.aload_n (k := 6) (pc' := 113) dX12_readPerson_112 rfl rfl rfl ?_
    refine Ev.getR (pc' := 116) dX12_readPerson_113 rfl fa_RX12_51 ob_120 fk_12_26 rf_120_26 ?_
    refine Ev.aload_n (k := 6) (pc' := 117) dX12_readPerson_116 rfl rfl rfl ?_
    refine Ev.getI (pc' := 120) dX12_readPerson_117 rfl fa_RX12_355 ob_120 fk_12_39 ?_
    refine Ev.lload_n (k := 4) (pc' := 121) dX12_readPerson_120 rfl rfl rfl ?_
    refine Ev.lastore (j := _) (pc' := 122) dX12_readPerson_121 rfl ar_133 h.1 rfl (fun L22 eL22 => ?_)
    have h := h.2 L22 eL22
    refine Ev.aload_n (k := 6) (pc' := 123) dX12_readPerson_122 rfl rfl rfl ?_
    refine Ev.dup (pc' := 124) dX12_readPerson_123 rfl rfl ?_
    refine Ev.getI (pc' := 127) dX12_readPerson_124 rfl fa_RX12_355 ob_120 fk_12_39 ?_
    refine Ev.iconst (pc' := 128) dX12_readPerson_127 rfl ki_1 ?_
    refine Ev.iadd (pc' := 129) dX12_readPerson_128 rfl ?_
    refine Ev.putI (pc' := 132) dX12_readPerson_129 rfl fa_RX12_355 ob_120 fk_12_39 rfl rfl (fun I23 eI23 => ?_)
    have h := h I23 eI23
    refine Ev.aload_n (k := 6) (pc' := 133) dX12_readPerson_132 rfl rfl rfl ?_
    refine Ev.getR (pc' := 136) dX12_readPerson_133 rfl fa_RX12_23 ob_120 fk_12_12 rf_120_12 ?_
    refine Ev.aload_n (k := 6) (pc' := 137) dX12_readPerson_136 rfl rfl rfl ?_
    refine Ev.getI (pc' := 140) dX12_readPerson_137 rfl fa_RX12_355 ob_120 fk_12_39 ?_
    refine Ev.aload_n (k := 6) (pc' := 141) dX12_readPerson_140 rfl rfl rfl ?_
    refine Ev.getI (pc' := 144) dX12_readPerson_141 rfl fa_RX12_313 ob_120 fk_12_19 ?_
    refine Ev.iastore (j := _) (pc' := 145) dX12_readPerson_144 rfl ar_124 h.1 rfl (fun I24 eI24 => ?_)
    have h := h.2 I24 eI24
    exact Ef.vret dX12_readPerson_145 rfl h
  · have h := h.2 hc
    exact Ef.vret dX12_readPerson_73 rfl h
def wpX12_readThing_b107 (Q : Ix → Lx → Prop) (v1 : Int32) (v2 : Int64) (v4 : Int32) (v5 : Int32) (v6 : Int32) (v7 : Int32) (I : Ix) (L : Lx) : Prop := vp_in v1 50 ∧ ∀ I1 : Ix, I1 = pu I 136 v1.toNatClampNeg v4 → vp_in (v1 + 1) 50 ∧ ∀ I2 : Ix, I2 = pu I1 136 (v1 + 1).toNatClampNeg v5 → vp_in (v1 + 2) 50 ∧ ∀ I3 : Ix, I3 = pu I2 136 (v1 + 2).toNatClampNeg v6 → vp_in (v1 + 3) 50 ∧ ∀ I4 : Ix, I4 = pu I3 136 (v1 + 3).toNatClampNeg v7 → vp_in (I4 120 38) 10 ∧ ∀ L5 : Lx, L5 = pu L 132 (I4 120 38).toNatClampNeg v2 → ∀ I6 : Ix, I6 = pu I4 120 38 ((I4 120 38) + 1) → Q I6 L5
def wpX12_readThing_b92 (Q : Ix → Lx → Prop) (v1 : Int32) (v2 : Int64) (v4 : Int32) (v5 : Int32) (v6 : Int32) (v7 : Int32) (t1 : Int32) (t2 : Int32) (I : Ix) (L : Lx) : Prop := vp_in t1 50 ∧ ∀ I1 : Ix, I1 = pu I 136 t1.toNatClampNeg t2 → wpX12_isWord 1718579044 I1 L (fun r4 I2 L3 => (r4 = false → wpX12_readThing_b107 Q v1 v2 v4 v5 v6 v7 I2 L3) ∧ (r4 = true → wpX12_token I2 L3 (fun I5 L6 => wpX12_readThing_b107 Q v1 v2 v4 v5 v6 v7 I5 L6)))
def wpX12_readThing (I : Ix) (L : Lx) (Q : Ix → Lx → Prop) : Prop := wpX12_newName 132 10 (I 120 38) I L (fun r3 I1 L2 => wpX12_atPlace I1 L2 (fun r6 I4 L5 => wpX12_told 512970880104 0 99 I4 L5 (fun r9 I7 L8 => wpX12_told 2003132786 0 20 I7 L8 (fun r12 I10 L11 => wpX12_told 448377484921 0 99 I10 L11 (fun r15 I13 L14 => ((I13 120 2) ≤ 0 → wpX12_isWord 1718579044 I13 L14 (fun r18 I16 L17 => (r18 = false → wpX12_readThing_b92 Q (5 * (I 120 38)) r3 r6 r9 r12 r15 ((5 * (I 120 38)) + 4) 0 I16 L17) ∧ (r18 = true → wpX12_readThing_b92 Q (5 * (I 120 38)) r3 r6 r9 r12 r15 ((5 * (I 120 38)) + 4) 1 I16 L17))) ∧ (¬ (I13 120 2) ≤ 0 → Q I13 L14))))))
set_option maxRecDepth 10000 in
theorem okX12_readThing_b107 {G : Gx} {Q : Ix → Lx → Prop} {v1 : Int32} {v2 : Int64} {v4 : Int32} {v5 : Int32} {v6 : Int32} {v7 : Int32} {I : Ix} {L : Lx} (h : wpX12_readThing_b107 Q v1 v2 v4 v5 v6 v7 I L) : Ef G MX12_readThing (qV Q) 107 [(0, .ref 120), (1, .int v1), (2, .long v2), (4, .int v4), (5, .int v5), (6, .int v6), (7, .int v7)] [] I L := by
  unfold wpX12_readThing_b107 at h
  refine Ev.aload_n (k := 0) (pc' := 108) dX12_readThing_107 rfl rfl rfl ?_
  refine Ev.getR (pc' := 111) dX12_readThing_108 rfl fa_RX12_60 ob_120 fk_12_29 rf_120_29 ?_
  refine Ev.iload_n (k := 1) (pc' := 112) dX12_readThing_111 rfl rfl rfl ?_
  refine Ev.iload (k := 3) (pc' := 114) dX12_readThing_112 rfl rfl ?_
  refine Ev.iastore (j := _) (pc' := 115) dX12_readThing_114 rfl ar_136 h.1 rfl (fun I1 eI1 => ?_)
  have h := h.2 I1 eI1
  refine Ev.aload_n (k := 0) (pc' := 116) dX12_readThing_115 rfl rfl rfl ?_
  refine Ev.getR (pc' := 119) dX12_readThing_116 rfl fa_RX12_60 ob_120 fk_12_29 rf_120_29 ?_
  refine Ev.iload_n (k := 1) (pc' := 120) dX12_readThing_119 rfl rfl rfl ?_
  refine Ev.iconst (pc' := 121) dX12_readThing_120 rfl ki_1 ?_
  refine Ev.iadd (pc' := 122) dX12_readThing_121 rfl ?_
  refine Ev.iload (k := 4) (pc' := 124) dX12_readThing_122 rfl rfl ?_
  refine Ev.iastore (j := _) (pc' := 125) dX12_readThing_124 rfl ar_136 h.1 rfl (fun I2 eI2 => ?_)
  have h := h.2 I2 eI2
  refine Ev.aload_n (k := 0) (pc' := 126) dX12_readThing_125 rfl rfl rfl ?_
  refine Ev.getR (pc' := 129) dX12_readThing_126 rfl fa_RX12_60 ob_120 fk_12_29 rf_120_29 ?_
  refine Ev.iload_n (k := 1) (pc' := 130) dX12_readThing_129 rfl rfl rfl ?_
  refine Ev.iconst (pc' := 131) dX12_readThing_130 rfl ki_2 ?_
  refine Ev.iadd (pc' := 132) dX12_readThing_131 rfl ?_
  refine Ev.iload (k := 5) (pc' := 134) dX12_readThing_132 rfl rfl ?_
  refine Ev.iastore (j := _) (pc' := 135) dX12_readThing_134 rfl ar_136 h.1 rfl (fun I3 eI3 => ?_)
  have h := h.2 I3 eI3
  refine Ev.aload_n (k := 0) (pc' := 136) dX12_readThing_135 rfl rfl rfl ?_
  refine Ev.getR (pc' := 139) dX12_readThing_136 rfl fa_RX12_60 ob_120 fk_12_29 rf_120_29 ?_
  refine Ev.iload_n (k := 1) (pc' := 140) dX12_readThing_139 rfl rfl rfl ?_
  refine Ev.iconst (pc' := 141) dX12_readThing_140 rfl ki_3 ?_
  refine Ev.iadd (pc' := 142) dX12_readThing_141 rfl ?_
  refine Ev.iload (k := 6) (pc' := 144) dX12_readThing_142 rfl rfl ?_
  refine Ev.iastore (j := _) (pc' := 145) dX12_readThing_144 rfl ar_136 h.1 rfl (fun I4 eI4 => ?_)
  have h := h.2 I4 eI4
  refine Ev.aload_n (k := 0) (pc' := 146) dX12_readThing_145 rfl rfl rfl ?_
  refine Ev.getR (pc' := 149) dX12_readThing_146 rfl fa_RX12_48 ob_120 fk_12_25 rf_120_25 ?_
  refine Ev.aload_n (k := 0) (pc' := 150) dX12_readThing_149 rfl rfl rfl ?_
  refine Ev.getI (pc' := 153) dX12_readThing_150 rfl fa_RX12_388 ob_120 fk_12_38 ?_
  refine Ev.lload_n (k := 2) (pc' := 154) dX12_readThing_153 rfl rfl rfl ?_
  refine Ev.lastore (j := _) (pc' := 155) dX12_readThing_154 rfl ar_132 h.1 rfl (fun L5 eL5 => ?_)
  have h := h.2 L5 eL5
  refine Ev.aload_n (k := 0) (pc' := 156) dX12_readThing_155 rfl rfl rfl ?_
  refine Ev.dup (pc' := 157) dX12_readThing_156 rfl rfl ?_
  refine Ev.getI (pc' := 160) dX12_readThing_157 rfl fa_RX12_388 ob_120 fk_12_38 ?_
  refine Ev.iconst (pc' := 161) dX12_readThing_160 rfl ki_1 ?_
  refine Ev.iadd (pc' := 162) dX12_readThing_161 rfl ?_
  refine Ev.putI (pc' := 165) dX12_readThing_162 rfl fa_RX12_388 ob_120 fk_12_38 rfl rfl (fun I6 eI6 => ?_)
  have h := h I6 eI6
  exact Ef.vret dX12_readThing_165 rfl h
set_option maxRecDepth 10000 in
theorem okX12_readThing_b92 {G : Gx} {Q : Ix → Lx → Prop} {v1 : Int32} {v2 : Int64} {v4 : Int32} {v5 : Int32} {v6 : Int32} {v7 : Int32} {t1 : Int32} {t2 : Int32} {I : Ix} {L : Lx} (h : wpX12_readThing_b92 Q v1 v2 v4 v5 v6 v7 t1 t2 I L) : Ef G MX12_readThing (qV Q) 92 [(0, .ref 120), (1, .int v1), (2, .long v2), (4, .int v4), (5, .int v5), (6, .int v6), (7, .int v7)] [.int t2, .int t1, .ref 136] I L := by
  unfold wpX12_readThing_b92 at h
  refine Ev.iastore (j := _) (pc' := 93) dX12_readThing_92 rfl ar_136 h.1 rfl (fun I1 eI1 => ?_)
  have h := h.2 I1 eI1
  refine Ev.aload_n (k := 0) (pc' := 94) dX12_readThing_93 rfl rfl rfl ?_
  refine Ev.ldc2 (pc' := 97) dX12_readThing_94 rfl ll_RX12_257 ?_
  refine Ef.callVZ [.long _] [] (pc' := 100) dX12_readThing_97 rfl cv_RX12_295_X12_isWord ⟨Nat.le_of_ble_eq_true rfl, Nat.le_of_ble_eq_true rfl⟩ ob_120 rfl rfl rfl (Nat.le_of_ble_eq_true rfl) (okX12_isWord h) (fun r4 I2 L3 h => ?_)
  refine Ef.ifz_eq (pc' := 103) (tgt := 107) dX12_readThing_100 rfl rfl (fun hc => ?_) (fun hc => ?_)
  · have h := h.1 hc
    exact okX12_readThing_b107 h
  · have h := h.2 hc
    refine Ev.aload_n (k := 0) (pc' := 104) dX12_readThing_103 rfl rfl rfl ?_
    refine Ef.callVV [] [] (pc' := 107) dX12_readThing_104 rfl cv_RX12_302_X12_token ⟨Nat.le_of_ble_eq_true rfl, Nat.le_of_ble_eq_true rfl⟩ ob_120 rfl rfl rfl (Nat.le_of_ble_eq_true rfl) (okX12_token h) (fun I5 L6 h => ?_)
    exact okX12_readThing_b107 h
set_option maxRecDepth 10000 in
theorem okX12_readThing {G : Gx} {I : Ix} {L : Lx} {Q : Ix → Lx → Prop} (h : wpX12_readThing I L Q) : Mf G MX12_readThing [.ref 120] I L (qV Q) := by
  unfold wpX12_readThing at h
  refine Mf.of pn_RX12 (Nat.le_of_ble_eq_true rfl) ?_
  refine Ev.iconst (pc' := 1) dX12_readThing_0 rfl ki_5 ?_
  refine Ev.aload_n (k := 0) (pc' := 2) dX12_readThing_1 rfl rfl rfl ?_
  refine Ev.getI (pc' := 5) dX12_readThing_2 rfl fa_RX12_388 ob_120 fk_12_38 ?_
  refine Ev.imul (pc' := 6) dX12_readThing_5 rfl ?_
  refine Ev.istore_n (ls' := [(1, .int _), (0, .ref _)]) (pc' := 7) dX12_readThing_6 rfl rfl (Nat.le_of_ble_eq_true rfl) rfl ?_
  refine Ev.aload_n (k := 1) (pc' := 8) dX12_readThing_7 rfl rfl rfl ?_
  refine Ev.aload_n (k := 1) (pc' := 9) dX12_readThing_8 rfl rfl rfl ?_
  refine Ev.getR (pc' := 12) dX12_readThing_9 rfl fa_RX12_48 ob_120 fk_12_25 rf_120_25 ?_
  refine Ev.aload_n (k := 1) (pc' := 13) dX12_readThing_12 rfl rfl rfl ?_
  refine Ev.getI (pc' := 16) dX12_readThing_13 rfl fa_RX12_388 ob_120 fk_12_38 ?_
  refine Ef.callVL [.ref _, .int _] [] (pc' := 19) dX12_readThing_16 rfl cv_RX12_377_X12_newName ⟨Nat.le_of_ble_eq_true rfl, Nat.le_of_ble_eq_true rfl⟩ ob_120 rfl rfl rfl (Nat.le_of_ble_eq_true rfl) (okX12_newName ar_132 h) (fun r3 I1 L2 h => ?_)
  refine Ev.lstore_n (ls' := [(2, .long _), (1, .int _), (0, .ref _)]) (pc' := 20) dX12_readThing_19 rfl rfl (Nat.le_of_ble_eq_true rfl) rfl ?_
  refine Ev.aload_n (k := 2) (pc' := 21) dX12_readThing_20 rfl rfl rfl ?_
  refine Ef.callVI [] [] (pc' := 24) dX12_readThing_21 rfl cv_RX12_391_X12_atPlace ⟨Nat.le_of_ble_eq_true rfl, Nat.le_of_ble_eq_true rfl⟩ ob_120 rfl rfl rfl (Nat.le_of_ble_eq_true rfl) (okX12_atPlace h) (fun r6 I4 L5 h => ?_)
  refine Ev.istore (ls' := [(4, .int _), (2, .long _), (1, .int _), (0, .ref _)]) (pc' := 26) dX12_readThing_24 rfl (Nat.le_of_ble_eq_true rfl) rfl ?_
  refine Ev.aload_n (k := 3) (pc' := 27) dX12_readThing_26 rfl rfl rfl ?_
  refine Ev.ldc2 (pc' := 30) dX12_readThing_27 rfl ll_RX12_251 ?_
  refine Ev.iconst (pc' := 31) dX12_readThing_30 rfl ki_0 ?_
  refine Ev.bipush (pc' := 33) dX12_readThing_31 rfl kb_99 ?_
  refine Ef.callVI [.long _, .int _, .int _] [] (pc' := 36) dX12_readThing_33 rfl cv_RX12_381_X12_told ⟨Nat.le_of_ble_eq_true rfl, Nat.le_of_ble_eq_true rfl⟩ ob_120 rfl rfl rfl (Nat.le_of_ble_eq_true rfl) (okX12_told h) (fun r9 I7 L8 h => ?_)
  refine Ev.istore (ls' := [(5, .int _), (4, .int _), (2, .long _), (1, .int _), (0, .ref _)]) (pc' := 38) dX12_readThing_36 rfl (Nat.le_of_ble_eq_true rfl) rfl ?_
  refine Ev.aload_n (k := 4) (pc' := 39) dX12_readThing_38 rfl rfl rfl ?_
  refine Ev.ldc2 (pc' := 42) dX12_readThing_39 rfl ll_RX12_253 ?_
  refine Ev.iconst (pc' := 43) dX12_readThing_42 rfl ki_0 ?_
  refine Ev.bipush (pc' := 45) dX12_readThing_43 rfl kb_20 ?_
  refine Ef.callVI [.long _, .int _, .int _] [] (pc' := 48) dX12_readThing_45 rfl cv_RX12_381_X12_told ⟨Nat.le_of_ble_eq_true rfl, Nat.le_of_ble_eq_true rfl⟩ ob_120 rfl rfl rfl (Nat.le_of_ble_eq_true rfl) (okX12_told h) (fun r12 I10 L11 h => ?_)
  refine Ev.istore (ls' := [(6, .int _), (5, .int _), (4, .int _), (2, .long _), (1, .int _), (0, .ref _)]) (pc' := 50) dX12_readThing_48 rfl (Nat.le_of_ble_eq_true rfl) rfl ?_
  refine Ev.aload_n (k := 5) (pc' := 51) dX12_readThing_50 rfl rfl rfl ?_
  refine Ev.ldc2 (pc' := 54) dX12_readThing_51 rfl ll_RX12_255 ?_
  refine Ev.iconst (pc' := 55) dX12_readThing_54 rfl ki_0 ?_
  refine Ev.bipush (pc' := 57) dX12_readThing_55 rfl kb_99 ?_
  refine Ef.callVI [.long _, .int _, .int _] [] (pc' := 60) dX12_readThing_57 rfl cv_RX12_381_X12_told ⟨Nat.le_of_ble_eq_true rfl, Nat.le_of_ble_eq_true rfl⟩ ob_120 rfl rfl rfl (Nat.le_of_ble_eq_true rfl) (okX12_told h) (fun r15 I13 L14 h => ?_)
  refine Ev.istore (ls' := [(7, .int _), (6, .int _), (5, .int _), (4, .int _), (2, .long _), (1, .int _), (0, .ref _)]) (pc' := 62) dX12_readThing_60 rfl (Nat.le_of_ble_eq_true rfl) rfl ?_
  refine Ev.aload_n (k := 6) (pc' := 63) dX12_readThing_62 rfl rfl rfl ?_
  refine Ev.getI (pc' := 66) dX12_readThing_63 rfl fa_RX12_236 ob_120 fk_12_2 ?_
  refine Ev.if_le (pc' := 69) (tgt := 70) dX12_readThing_66 rfl rfl (fun hc => ?_) (fun hc => ?_)
  · have h := h.1 hc
    refine Ev.aload_n (k := 6) (pc' := 71) dX12_readThing_70 rfl rfl rfl ?_
    refine Ev.getR (pc' := 74) dX12_readThing_71 rfl fa_RX12_60 ob_120 fk_12_29 rf_120_29 ?_
    refine Ev.iload_n (k := 5) (pc' := 75) dX12_readThing_74 rfl rfl rfl ?_
    refine Ev.iconst (pc' := 76) dX12_readThing_75 rfl ki_4 ?_
    refine Ev.iadd (pc' := 77) dX12_readThing_76 rfl ?_
    refine Ev.aload_n (k := 6) (pc' := 78) dX12_readThing_77 rfl rfl rfl ?_
    refine Ev.ldc2 (pc' := 81) dX12_readThing_78 rfl ll_RX12_257 ?_
    refine Ef.callVZ [.long _] [.int _, .ref _] (pc' := 84) dX12_readThing_81 rfl cv_RX12_295_X12_isWord ⟨Nat.le_of_ble_eq_true rfl, Nat.le_of_ble_eq_true rfl⟩ ob_120 rfl rfl rfl (Nat.le_of_ble_eq_true rfl) (okX12_isWord h) (fun r18 I16 L17 h => ?_)
    refine Ef.ifz_eq (pc' := 87) (tgt := 91) dX12_readThing_84 rfl rfl (fun hc => ?_) (fun hc => ?_)
    · have h := h.1 hc
      refine Ev.iconst (pc' := 92) dX12_readThing_91 rfl ki_0 ?_
      exact Ev.sub [6, 5, 4, 3, 2, 1, 0] rfl (okX12_readThing_b92 h)
    · have h := h.2 hc
      refine Ev.iconst (pc' := 88) dX12_readThing_87 rfl ki_1 ?_
      refine Ev.goto (tgt := 92) dX12_readThing_88 rfl ?_
      exact Ev.sub [6, 5, 4, 3, 2, 1, 0] rfl (okX12_readThing_b92 h)
  · have h := h.2 hc
    exact Ef.vret dX12_readThing_69 rfl h
def wpX12_readRoad_b71 (Q : Ix → Lx → Prop) (v1 : Int32) (I : Ix) (L : Lx) : Prop := wpX12_oldPlace I L (fun r3 I1 L2 => wpX12_told 30796695599342963 1 99 I1 L2 (fun r6 I4 L5 => ((I4 120 2) ≤ 0 → vp_in ((8 * v1) + r3) 64 ∧ ∀ I7 : Ix, I7 = pu I4 135 ((8 * v1) + r3).toNatClampNeg r6 → vp_in ((8 * r3) + v1) 64 ∧ ∀ I8 : Ix, I8 = pu I7 135 ((8 * r3) + v1).toNatClampNeg r6 → ∀ I9 : Ix, I9 = pu I8 120 37 ((I8 120 37) + 1) → Q I9 L5) ∧ (¬ (I4 120 2) ≤ 0 → Q I4 L5)))
def wpX12_readRoad_b66 (Q : Ix → Lx → Prop) (v1 : Int32) (I : Ix) (L : Lx) : Prop := wpX12_wrong 3 I L (fun I1 L2 => wpX12_readRoad_b71 Q v1 I1 L2)
def wpX12_readRoad (I : Ix) (L : Lx) (Q : Ix → Lx → Prop) : Prop := wpX12_token I L (fun I1 L2 => wpX12_oldPlace I1 L2 (fun r5 I3 L4 => ((I3 120 2) ≤ 0 → wpX12_find 131 8 (I3 120 36) (L4 120 9) I3 L4 (fun r8 I6 L7 => wpX12_isName I6 L7 (fun r11 I9 L10 => (r11 = false → wpX12_readRoad_b71 Q r5 I9 L10) ∧ (r11 = true → (r8 < 0 → wpX12_readRoad_b71 Q r5 I9 L10) ∧ (¬ r8 < 0 → (r5 = r8 → wpX12_readRoad_b66 Q r5 I9 L10) ∧ (¬ r5 = r8 → vp_in ((8 * r5) + r8) 64 ∧ (999 ≤ (I9 135 ((8 * r5) + r8).toNatClampNeg) → wpX12_readRoad_b71 Q r5 I9 L10) ∧ (¬ 999 ≤ (I9 135 ((8 * r5) + r8).toNatClampNeg) → wpX12_readRoad_b66 Q r5 I9 L10))))))) ∧ (¬ (I3 120 2) ≤ 0 → Q I3 L4)))
set_option maxRecDepth 10000 in
theorem okX12_readRoad_b71 {G : Gx} {Q : Ix → Lx → Prop} {v1 : Int32} {I : Ix} {L : Lx} (h : wpX12_readRoad_b71 Q v1 I L) : Ef G MX12_readRoad (qV Q) 71 [(0, .ref 120), (1, .int v1)] [] I L := by
  unfold wpX12_readRoad_b71 at h
  refine Ev.aload_n (k := 0) (pc' := 72) dX12_readRoad_71 rfl rfl rfl ?_
  refine Ef.callVI [] [] (pc' := 75) dX12_readRoad_72 rfl cv_RX12_374_X12_oldPlace ⟨Nat.le_of_ble_eq_true rfl, Nat.le_of_ble_eq_true rfl⟩ ob_120 rfl rfl rfl (Nat.le_of_ble_eq_true rfl) (okX12_oldPlace h) (fun r3 I1 L2 h => ?_)
  refine Ev.istore_n (ls' := [(2, .int _), (0, .ref _), (1, .int _)]) (pc' := 76) dX12_readRoad_75 rfl rfl (Nat.le_of_ble_eq_true rfl) rfl ?_
  refine Ev.aload_n (k := 1) (pc' := 77) dX12_readRoad_76 rfl rfl rfl ?_
  refine Ev.ldc2 (pc' := 80) dX12_readRoad_77 rfl ll_RX12_245 ?_
  refine Ev.iconst (pc' := 81) dX12_readRoad_80 rfl ki_1 ?_
  refine Ev.bipush (pc' := 83) dX12_readRoad_81 rfl kb_99 ?_
  refine Ef.callVI [.long _, .int _, .int _] [] (pc' := 86) dX12_readRoad_83 rfl cv_RX12_381_X12_told ⟨Nat.le_of_ble_eq_true rfl, Nat.le_of_ble_eq_true rfl⟩ ob_120 rfl rfl rfl (Nat.le_of_ble_eq_true rfl) (okX12_told h) (fun r6 I4 L5 h => ?_)
  refine Ev.istore_n (ls' := [(3, .int _), (2, .int _), (0, .ref _), (1, .int _)]) (pc' := 87) dX12_readRoad_86 rfl rfl (Nat.le_of_ble_eq_true rfl) rfl ?_
  refine Ev.aload_n (k := 2) (pc' := 88) dX12_readRoad_87 rfl rfl rfl ?_
  refine Ev.getI (pc' := 91) dX12_readRoad_88 rfl fa_RX12_236 ob_120 fk_12_2 ?_
  refine Ev.if_le (pc' := 94) (tgt := 95) dX12_readRoad_91 rfl rfl (fun hc => ?_) (fun hc => ?_)
  · have h := h.1 hc
    refine Ev.aload_n (k := 2) (pc' := 96) dX12_readRoad_95 rfl rfl rfl ?_
    refine Ev.getR (pc' := 99) dX12_readRoad_96 rfl fa_RX12_57 ob_120 fk_12_28 rf_120_28 ?_
    refine Ev.bipush (pc' := 101) dX12_readRoad_99 rfl kb_8 ?_
    refine Ev.iload_n (k := 3) (pc' := 102) dX12_readRoad_101 rfl rfl rfl ?_
    refine Ev.imul (pc' := 103) dX12_readRoad_102 rfl ?_
    refine Ev.iload_n (k := 1) (pc' := 104) dX12_readRoad_103 rfl rfl rfl ?_
    refine Ev.iadd (pc' := 105) dX12_readRoad_104 rfl ?_
    refine Ev.iload_n (k := 0) (pc' := 106) dX12_readRoad_105 rfl rfl rfl ?_
    refine Ev.iastore (j := _) (pc' := 107) dX12_readRoad_106 rfl ar_135 h.1 rfl (fun I7 eI7 => ?_)
    have h := h.2 I7 eI7
    refine Ev.aload_n (k := 2) (pc' := 108) dX12_readRoad_107 rfl rfl rfl ?_
    refine Ev.getR (pc' := 111) dX12_readRoad_108 rfl fa_RX12_57 ob_120 fk_12_28 rf_120_28 ?_
    refine Ev.bipush (pc' := 113) dX12_readRoad_111 rfl kb_8 ?_
    refine Ev.iload_n (k := 1) (pc' := 114) dX12_readRoad_113 rfl rfl rfl ?_
    refine Ev.imul (pc' := 115) dX12_readRoad_114 rfl ?_
    refine Ev.iload_n (k := 3) (pc' := 116) dX12_readRoad_115 rfl rfl rfl ?_
    refine Ev.iadd (pc' := 117) dX12_readRoad_116 rfl ?_
    refine Ev.iload_n (k := 0) (pc' := 118) dX12_readRoad_117 rfl rfl rfl ?_
    refine Ev.iastore (j := _) (pc' := 119) dX12_readRoad_118 rfl ar_135 h.1 rfl (fun I8 eI8 => ?_)
    have h := h.2 I8 eI8
    refine Ev.aload_n (k := 2) (pc' := 120) dX12_readRoad_119 rfl rfl rfl ?_
    refine Ev.dup (pc' := 121) dX12_readRoad_120 rfl rfl ?_
    refine Ev.getI (pc' := 124) dX12_readRoad_121 rfl fa_RX12_385 ob_120 fk_12_37 ?_
    refine Ev.iconst (pc' := 125) dX12_readRoad_124 rfl ki_1 ?_
    refine Ev.iadd (pc' := 126) dX12_readRoad_125 rfl ?_
    refine Ev.putI (pc' := 129) dX12_readRoad_126 rfl fa_RX12_385 ob_120 fk_12_37 rfl rfl (fun I9 eI9 => ?_)
    have h := h I9 eI9
    exact Ef.vret dX12_readRoad_129 rfl h
  · have h := h.2 hc
    exact Ef.vret dX12_readRoad_94 rfl h
set_option maxRecDepth 10000 in
theorem okX12_readRoad_b66 {G : Gx} {Q : Ix → Lx → Prop} {v1 : Int32} {I : Ix} {L : Lx} (h : wpX12_readRoad_b66 Q v1 I L) : Ef G MX12_readRoad (qV Q) 66 [(0, .ref 120), (1, .int v1)] [] I L := by
  unfold wpX12_readRoad_b66 at h
  refine Ev.aload_n (k := 0) (pc' := 67) dX12_readRoad_66 rfl rfl rfl ?_
  refine Ev.iconst (pc' := 68) dX12_readRoad_67 rfl ki_3 ?_
  refine Ef.callVV [.int _] [] (pc' := 71) dX12_readRoad_68 rfl cv_RX12_299_X12_wrong ⟨Nat.le_of_ble_eq_true rfl, Nat.le_of_ble_eq_true rfl⟩ ob_120 rfl rfl rfl (Nat.le_of_ble_eq_true rfl) (okX12_wrong h) (fun I1 L2 h => ?_)
  exact okX12_readRoad_b71 h
set_option maxRecDepth 10000 in
theorem okX12_readRoad {G : Gx} {I : Ix} {L : Lx} {Q : Ix → Lx → Prop} (h : wpX12_readRoad I L Q) : Mf G MX12_readRoad [.ref 120] I L (qV Q) := by
  unfold wpX12_readRoad at h
  refine Mf.of pn_RX12 (Nat.le_of_ble_eq_true rfl) ?_
  refine Ev.aload_n (k := 0) (pc' := 1) dX12_readRoad_0 rfl rfl rfl ?_
  refine Ef.callVV [] [] (pc' := 4) dX12_readRoad_1 rfl cv_RX12_302_X12_token ⟨Nat.le_of_ble_eq_true rfl, Nat.le_of_ble_eq_true rfl⟩ ob_120 rfl rfl rfl (Nat.le_of_ble_eq_true rfl) (okX12_token h) (fun I1 L2 h => ?_)
  refine Ev.aload_n (k := 0) (pc' := 5) dX12_readRoad_4 rfl rfl rfl ?_
  refine Ef.callVI [] [] (pc' := 8) dX12_readRoad_5 rfl cv_RX12_374_X12_oldPlace ⟨Nat.le_of_ble_eq_true rfl, Nat.le_of_ble_eq_true rfl⟩ ob_120 rfl rfl rfl (Nat.le_of_ble_eq_true rfl) (okX12_oldPlace h) (fun r5 I3 L4 h => ?_)
  refine Ev.istore_n (ls' := [(1, .int _), (0, .ref _)]) (pc' := 9) dX12_readRoad_8 rfl rfl (Nat.le_of_ble_eq_true rfl) rfl ?_
  refine Ev.aload_n (k := 1) (pc' := 10) dX12_readRoad_9 rfl rfl rfl ?_
  refine Ev.getI (pc' := 13) dX12_readRoad_10 rfl fa_RX12_236 ob_120 fk_12_2 ?_
  refine Ev.if_le (pc' := 16) (tgt := 17) dX12_readRoad_13 rfl rfl (fun hc => ?_) (fun hc => ?_)
  · have h := h.1 hc
    refine Ev.aload_n (k := 1) (pc' := 18) dX12_readRoad_17 rfl rfl rfl ?_
    refine Ev.getR (pc' := 21) dX12_readRoad_18 rfl fa_RX12_44 ob_120 fk_12_24 rf_120_24 ?_
    refine Ev.aload_n (k := 1) (pc' := 22) dX12_readRoad_21 rfl rfl rfl ?_
    refine Ev.getI (pc' := 25) dX12_readRoad_22 rfl fa_RX12_371 ob_120 fk_12_36 ?_
    refine Ev.aload_n (k := 1) (pc' := 26) dX12_readRoad_25 rfl rfl rfl ?_
    refine Ev.getL (pc' := 29) dX12_readRoad_26 rfl fa_RX12_216 ob_120 fk_12_9 ?_
    refine Ef.callSI [.ref _, .int _, .long _] [] (pc' := 32) dX12_readRoad_29 rfl cv_RX12_367_X12_find ⟨Nat.le_of_ble_eq_true rfl, Nat.le_of_ble_eq_true rfl⟩ rfl rfl (Nat.le_of_ble_eq_true rfl) (okX12_find ar_131 h) (fun r8 I6 L7 h => ?_)
    refine Ev.istore_n (ls' := [(2, .int _), (1, .int _), (0, .ref _)]) (pc' := 33) dX12_readRoad_32 rfl rfl (Nat.le_of_ble_eq_true rfl) rfl ?_
    refine Ev.aload_n (k := 2) (pc' := 34) dX12_readRoad_33 rfl rfl rfl ?_
    refine Ef.callVZ [] [] (pc' := 37) dX12_readRoad_34 rfl cv_RX12_364_X12_isName ⟨Nat.le_of_ble_eq_true rfl, Nat.le_of_ble_eq_true rfl⟩ ob_120 rfl rfl rfl (Nat.le_of_ble_eq_true rfl) (okX12_isName h) (fun r11 I9 L10 h => ?_)
    refine Ef.ifz_eq (pc' := 40) (tgt := 71) dX12_readRoad_37 rfl rfl (fun hc => ?_) (fun hc => ?_)
    · have h := h.1 hc
      exact Ev.sub [2, 1] rfl (okX12_readRoad_b71 h)
    · have h := h.2 hc
      refine Ev.iload_n (k := 0) (pc' := 41) dX12_readRoad_40 rfl rfl rfl ?_
      refine Ev.if_lt (pc' := 44) (tgt := 71) dX12_readRoad_41 rfl rfl (fun hc => ?_) (fun hc => ?_)
      · have h := h.1 hc
        exact Ev.sub [2, 1] rfl (okX12_readRoad_b71 h)
      · have h := h.2 hc
        refine Ev.iload_n (k := 1) (pc' := 45) dX12_readRoad_44 rfl rfl rfl ?_
        refine Ev.iload_n (k := 0) (pc' := 46) dX12_readRoad_45 rfl rfl rfl ?_
        refine Ev.icmp_eq (pc' := 49) (tgt := 66) dX12_readRoad_46 rfl rfl (fun hc => ?_) (fun hc => ?_)
        · have h := h.1 hc
          exact Ev.sub [2, 1] rfl (okX12_readRoad_b66 h)
        · have h := h.2 hc
          refine Ev.aload_n (k := 2) (pc' := 50) dX12_readRoad_49 rfl rfl rfl ?_
          refine Ev.getR (pc' := 53) dX12_readRoad_50 rfl fa_RX12_57 ob_120 fk_12_28 rf_120_28 ?_
          refine Ev.bipush (pc' := 55) dX12_readRoad_53 rfl kb_8 ?_
          refine Ev.iload_n (k := 1) (pc' := 56) dX12_readRoad_55 rfl rfl rfl ?_
          refine Ev.imul (pc' := 57) dX12_readRoad_56 rfl ?_
          refine Ev.iload_n (k := 0) (pc' := 58) dX12_readRoad_57 rfl rfl rfl ?_
          refine Ev.iadd (pc' := 59) dX12_readRoad_58 rfl ?_
          refine Ev.iaload (j := _) (pc' := 60) dX12_readRoad_59 rfl ar_135 h.1 rfl ?_
          have h := h.2
          refine Ev.sipush (pc' := 63) dX12_readRoad_60 rfl ks_999 ?_
          refine Ev.icmp_ge (pc' := 66) (tgt := 71) dX12_readRoad_63 rfl rfl (fun hc => ?_) (fun hc => ?_)
          · have h := h.1 hc
            exact Ev.sub [2, 1] rfl (okX12_readRoad_b71 h)
          · have h := h.2 hc
            exact Ev.sub [2, 1] rfl (okX12_readRoad_b66 h)
  · have h := h.2 hc
    exact Ef.vret dX12_readRoad_16 rfl h
