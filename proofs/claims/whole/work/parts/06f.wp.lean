def wpX12_readPlace (I : Ix) (L : Lx) (Q : Ix → Lx → Prop) : Prop := wpX12_newName 131 8 (I 120 36) I L (fun r3 I1 L2 => wpX12_told 1852796782 0 59 I1 L2 (fun r6 I4 L5 => ((I4 120 2) ≤ 0 → vp_in (I4 120 36) 8 ∧ ∀ L7 : Lx, L7 = pu L5 131 (I4 120 36).toNatClampNeg r3 → vp_in (I4 120 36) 8 ∧ ∀ I8 : Ix, I8 = pu I4 134 (I4 120 36).toNatClampNeg r6 → ∀ I9 : Ix, I9 = pu I8 120 36 ((I8 120 36) + 1) → Q I9 L7) ∧ (¬ (I4 120 2) ≤ 0 → Q I4 L5)))
set_option maxRecDepth 10000 in
theorem okX12_readPlace {G : Gx} {I : Ix} {L : Lx} {Q : Ix → Lx → Prop} (h : wpX12_readPlace I L Q) : Mf G MX12_readPlace [.ref 120] I L (qV Q) := by
  unfold wpX12_readPlace at h
  refine Mf.of pn_RX12 (Nat.le_of_ble_eq_true rfl) ?_
  refine Ev.aload_n (k := 0) (pc' := 1) dX12_readPlace_0 rfl rfl rfl ?_
  refine Ev.aload_n (k := 0) (pc' := 2) dX12_readPlace_1 rfl rfl rfl ?_
  refine Ev.getR (pc' := 5) dX12_readPlace_2 rfl fa_RX12_44 ob_120 fk_12_24 rf_120_24 ?_
  refine Ev.aload_n (k := 0) (pc' := 6) dX12_readPlace_5 rfl rfl rfl ?_
  refine Ev.getI (pc' := 9) dX12_readPlace_6 rfl fa_RX12_371 ob_120 fk_12_36 ?_
  refine Ef.callVL [.ref _, .int _] [] (pc' := 12) dX12_readPlace_9 rfl cv_RX12_377_X12_newName ⟨Nat.le_of_ble_eq_true rfl, Nat.le_of_ble_eq_true rfl⟩ ob_120 rfl rfl rfl (Nat.le_of_ble_eq_true rfl) (okX12_newName ar_131 h) (fun r3 I1 L2 h => ?_)
  refine Ev.lstore_n (ls' := [(1, .long _), (0, .ref _)]) (pc' := 13) dX12_readPlace_12 rfl rfl (Nat.le_of_ble_eq_true rfl) rfl ?_
  refine Ev.aload_n (k := 1) (pc' := 14) dX12_readPlace_13 rfl rfl rfl ?_
  refine Ev.ldc2 (pc' := 17) dX12_readPlace_14 rfl ll_RX12_241 ?_
  refine Ev.iconst (pc' := 18) dX12_readPlace_17 rfl ki_0 ?_
  refine Ev.bipush (pc' := 20) dX12_readPlace_18 rfl kb_59 ?_
  refine Ef.callVI [.long _, .int _, .int _] [] (pc' := 23) dX12_readPlace_20 rfl cv_RX12_381_X12_told ⟨Nat.le_of_ble_eq_true rfl, Nat.le_of_ble_eq_true rfl⟩ ob_120 rfl rfl rfl (Nat.le_of_ble_eq_true rfl) (okX12_told h) (fun r6 I4 L5 h => ?_)
  refine Ev.istore_n (ls' := [(3, .int _), (1, .long _), (0, .ref _)]) (pc' := 24) dX12_readPlace_23 rfl rfl (Nat.le_of_ble_eq_true rfl) rfl ?_
  refine Ev.aload_n (k := 2) (pc' := 25) dX12_readPlace_24 rfl rfl rfl ?_
  refine Ev.getI (pc' := 28) dX12_readPlace_25 rfl fa_RX12_236 ob_120 fk_12_2 ?_
  refine Ev.if_le (pc' := 31) (tgt := 32) dX12_readPlace_28 rfl rfl (fun hc => ?_) (fun hc => ?_)
  · have h := h.1 hc
    refine Ev.aload_n (k := 2) (pc' := 33) dX12_readPlace_32 rfl rfl rfl ?_
    refine Ev.getR (pc' := 36) dX12_readPlace_33 rfl fa_RX12_44 ob_120 fk_12_24 rf_120_24 ?_
    refine Ev.aload_n (k := 2) (pc' := 37) dX12_readPlace_36 rfl rfl rfl ?_
    refine Ev.getI (pc' := 40) dX12_readPlace_37 rfl fa_RX12_371 ob_120 fk_12_36 ?_
    refine Ev.lload_n (k := 1) (pc' := 41) dX12_readPlace_40 rfl rfl rfl ?_
    refine Ev.lastore (j := _) (pc' := 42) dX12_readPlace_41 rfl ar_131 h.1 rfl (fun L7 eL7 => ?_)
    have h := h.2 L7 eL7
    refine Ev.aload_n (k := 2) (pc' := 43) dX12_readPlace_42 rfl rfl rfl ?_
    refine Ev.getR (pc' := 46) dX12_readPlace_43 rfl fa_RX12_54 ob_120 fk_12_27 rf_120_27 ?_
    refine Ev.aload_n (k := 2) (pc' := 47) dX12_readPlace_46 rfl rfl rfl ?_
    refine Ev.getI (pc' := 50) dX12_readPlace_47 rfl fa_RX12_371 ob_120 fk_12_36 ?_
    refine Ev.iload_n (k := 0) (pc' := 51) dX12_readPlace_50 rfl rfl rfl ?_
    refine Ev.iastore (j := _) (pc' := 52) dX12_readPlace_51 rfl ar_134 h.1 rfl (fun I8 eI8 => ?_)
    have h := h.2 I8 eI8
    refine Ev.aload_n (k := 2) (pc' := 53) dX12_readPlace_52 rfl rfl rfl ?_
    refine Ev.dup (pc' := 54) dX12_readPlace_53 rfl rfl ?_
    refine Ev.getI (pc' := 57) dX12_readPlace_54 rfl fa_RX12_371 ob_120 fk_12_36 ?_
    refine Ev.iconst (pc' := 58) dX12_readPlace_57 rfl ki_1 ?_
    refine Ev.iadd (pc' := 59) dX12_readPlace_58 rfl ?_
    refine Ev.putI (pc' := 62) dX12_readPlace_59 rfl fa_RX12_371 ob_120 fk_12_36 rfl rfl (fun I9 eI9 => ?_)
    have h := h I9 eI9
    exact Ef.vret dX12_readPlace_62 rfl h
  · have h := h.2 hc
    exact Ef.vret dX12_readPlace_31 rfl h
def wpX12_readLine_b178 (Q : Ix → Lx → Prop) (I : Ix) (L : Lx) : Prop := (¬ (I 120 2) = 0 → Q I L) ∧ ((I 120 2) = 0 → wpX12_token I L (fun I1 L2 => Q I1 L2))
def wpX12_readLine_b157 (Q : Ix → Lx → Prop) (I : Ix) (L : Lx) : Prop := (¬ (I 120 2) = 0 → wpX12_readLine_b178 Q I L) ∧ ((I 120 2) = 0 → ((I 120 6) = 59 → wpX12_readLine_b178 Q I L) ∧ (¬ (I 120 6) = 59 → wpX12_wrong 2 I L (fun I1 L2 => wpX12_readLine_b178 Q I1 L2)))
def wpX12_readLine_b152 (Q : Ix → Lx → Prop) (I : Ix) (L : Lx) : Prop := wpX12_wrong 2 I L (fun I1 L2 => wpX12_readLine_b157 Q I1 L2)
def wpX12_readLine_b128 (Q : Ix → Lx → Prop) (I : Ix) (L : Lx) : Prop := wpX12_isWord 1818326117 I L (fun r3 I1 L2 => (r3 = false → wpX12_readLine_b152 Q I1 L2) ∧ (r3 = true → (¬ (I1 120 49) = 0 → wpX12_readLine_b152 Q I1 L2) ∧ ((I1 120 49) = 0 → wpX12_readLate I1 L2 (fun I4 L5 => wpX12_readLine_b157 Q I4 L5))))
def wpX12_readLine_b104 (Q : Ix → Lx → Prop) (I : Ix) (L : Lx) : Prop := wpX12_isWord 7102839 I L (fun r3 I1 L2 => (r3 = false → wpX12_readLine_b128 Q I1 L2) ∧ (r3 = true → (¬ (I1 120 48) = 0 → wpX12_readLine_b128 Q I1 L2) ∧ ((I1 120 48) = 0 → wpX12_readLaw I1 L2 (fun I4 L5 => wpX12_readLine_b157 Q I4 L5))))
def wpX12_readLine_b78 (Q : Ix → Lx → Prop) (I : Ix) (L : Lx) : Prop := wpX12_isWord 123581014175598 I L (fun r3 I1 L2 => (r3 = false → wpX12_readLine_b104 Q I1 L2) ∧ (r3 = true → (6 ≤ (I1 120 39) → wpX12_readLine_b104 Q I1 L2) ∧ (¬ 6 ≤ (I1 120 39) → wpX12_readPerson I1 L2 (fun I4 L5 => wpX12_readLine_b157 Q I4 L5))))
def wpX12_readLine_b52 (Q : Ix → Lx → Prop) (I : Ix) (L : Lx) : Prop := wpX12_isWord 499967946343 I L (fun r3 I1 L2 => (r3 = false → wpX12_readLine_b78 Q I1 L2) ∧ (r3 = true → (10 ≤ (I1 120 38) → wpX12_readLine_b78 Q I1 L2) ∧ (¬ 10 ≤ (I1 120 38) → wpX12_readThing I1 L2 (fun I4 L5 => wpX12_readLine_b157 Q I4 L5))))
def wpX12_readLine_b26 (Q : Ix → Lx → Prop) (I : Ix) (L : Lx) : Prop := wpX12_isWord 1919902052 I L (fun r3 I1 L2 => (r3 = false → wpX12_readLine_b52 Q I1 L2) ∧ (r3 = true → (16 ≤ (I1 120 37) → wpX12_readLine_b52 Q I1 L2) ∧ (¬ 16 ≤ (I1 120 37) → wpX12_readRoad I1 L2 (fun I4 L5 => wpX12_readLine_b157 Q I4 L5))))
def wpX12_readLine (I : Ix) (L : Lx) (Q : Ix → Lx → Prop) : Prop := wpX12_isWord 482854658917 I L (fun r3 I1 L2 => (r3 = false → wpX12_readLine_b26 Q I1 L2) ∧ (r3 = true → (8 ≤ (I1 120 36) → wpX12_readLine_b26 Q I1 L2) ∧ (¬ 8 ≤ (I1 120 36) → wpX12_readPlace I1 L2 (fun I4 L5 => wpX12_readLine_b157 Q I4 L5))))
set_option maxRecDepth 10000 in
theorem okX12_readLine_b178 {G : Gx} {Q : Ix → Lx → Prop} {I : Ix} {L : Lx} (h : wpX12_readLine_b178 Q I L) : Ef G MX12_readLine (qV Q) 178 [(0, .ref 120)] [] I L := by
  unfold wpX12_readLine_b178 at h
  refine Ev.aload_n (k := 0) (pc' := 179) dX12_readLine_178 rfl rfl rfl ?_
  refine Ev.getI (pc' := 182) dX12_readLine_179 rfl fa_RX12_236 ob_120 fk_12_2 ?_
  refine Ev.if_ne (pc' := 185) (tgt := 189) dX12_readLine_182 rfl rfl (fun hc => ?_) (fun hc => ?_)
  · have h := h.1 hc
    exact Ef.vret dX12_readLine_189 rfl h
  · have h := h.2 hc
    refine Ev.aload_n (k := 0) (pc' := 186) dX12_readLine_185 rfl rfl rfl ?_
    refine Ef.callVV [] [] (pc' := 189) dX12_readLine_186 rfl cv_RX12_302_X12_token ⟨Nat.le_of_ble_eq_true rfl, Nat.le_of_ble_eq_true rfl⟩ ob_120 rfl rfl rfl (Nat.le_of_ble_eq_true rfl) (okX12_token h) (fun I1 L2 h => ?_)
    exact Ef.vret dX12_readLine_189 rfl h
set_option maxRecDepth 10000 in
theorem okX12_readLine_b157 {G : Gx} {Q : Ix → Lx → Prop} {I : Ix} {L : Lx} (h : wpX12_readLine_b157 Q I L) : Ef G MX12_readLine (qV Q) 157 [(0, .ref 120)] [] I L := by
  unfold wpX12_readLine_b157 at h
  refine Ev.aload_n (k := 0) (pc' := 158) dX12_readLine_157 rfl rfl rfl ?_
  refine Ev.getI (pc' := 161) dX12_readLine_158 rfl fa_RX12_236 ob_120 fk_12_2 ?_
  refine Ev.if_ne (pc' := 164) (tgt := 178) dX12_readLine_161 rfl rfl (fun hc => ?_) (fun hc => ?_)
  · have h := h.1 hc
    exact okX12_readLine_b178 h
  · have h := h.2 hc
    refine Ev.aload_n (k := 0) (pc' := 165) dX12_readLine_164 rfl rfl rfl ?_
    refine Ev.getI (pc' := 168) dX12_readLine_165 rfl fa_RX12_223 ob_120 fk_12_6 ?_
    refine Ev.bipush (pc' := 170) dX12_readLine_168 rfl kb_59 ?_
    refine Ev.icmp_eq (pc' := 173) (tgt := 178) dX12_readLine_170 rfl rfl (fun hc => ?_) (fun hc => ?_)
    · have h := h.1 hc
      exact okX12_readLine_b178 h
    · have h := h.2 hc
      refine Ev.aload_n (k := 0) (pc' := 174) dX12_readLine_173 rfl rfl rfl ?_
      refine Ev.iconst (pc' := 175) dX12_readLine_174 rfl ki_2 ?_
      refine Ef.callVV [.int _] [] (pc' := 178) dX12_readLine_175 rfl cv_RX12_299_X12_wrong ⟨Nat.le_of_ble_eq_true rfl, Nat.le_of_ble_eq_true rfl⟩ ob_120 rfl rfl rfl (Nat.le_of_ble_eq_true rfl) (okX12_wrong h) (fun I1 L2 h => ?_)
      exact okX12_readLine_b178 h
set_option maxRecDepth 10000 in
theorem okX12_readLine_b152 {G : Gx} {Q : Ix → Lx → Prop} {I : Ix} {L : Lx} (h : wpX12_readLine_b152 Q I L) : Ef G MX12_readLine (qV Q) 152 [(0, .ref 120)] [] I L := by
  unfold wpX12_readLine_b152 at h
  refine Ev.aload_n (k := 0) (pc' := 153) dX12_readLine_152 rfl rfl rfl ?_
  refine Ev.iconst (pc' := 154) dX12_readLine_153 rfl ki_2 ?_
  refine Ef.callVV [.int _] [] (pc' := 157) dX12_readLine_154 rfl cv_RX12_299_X12_wrong ⟨Nat.le_of_ble_eq_true rfl, Nat.le_of_ble_eq_true rfl⟩ ob_120 rfl rfl rfl (Nat.le_of_ble_eq_true rfl) (okX12_wrong h) (fun I1 L2 h => ?_)
  exact okX12_readLine_b157 h
set_option maxRecDepth 10000 in
theorem okX12_readLine_b128 {G : Gx} {Q : Ix → Lx → Prop} {I : Ix} {L : Lx} (h : wpX12_readLine_b128 Q I L) : Ef G MX12_readLine (qV Q) 128 [(0, .ref 120)] [] I L := by
  unfold wpX12_readLine_b128 at h
  refine Ev.aload_n (k := 0) (pc' := 129) dX12_readLine_128 rfl rfl rfl ?_
  refine Ev.ldc2 (pc' := 132) dX12_readLine_129 rfl ll_RX12_275 ?_
  refine Ef.callVZ [.long _] [] (pc' := 135) dX12_readLine_132 rfl cv_RX12_295_X12_isWord ⟨Nat.le_of_ble_eq_true rfl, Nat.le_of_ble_eq_true rfl⟩ ob_120 rfl rfl rfl (Nat.le_of_ble_eq_true rfl) (okX12_isWord h) (fun r3 I1 L2 h => ?_)
  refine Ef.ifz_eq (pc' := 138) (tgt := 152) dX12_readLine_135 rfl rfl (fun hc => ?_) (fun hc => ?_)
  · have h := h.1 hc
    exact okX12_readLine_b152 h
  · have h := h.2 hc
    refine Ev.aload_n (k := 0) (pc' := 139) dX12_readLine_138 rfl rfl rfl ?_
    refine Ev.getI (pc' := 142) dX12_readLine_139 rfl fa_RX12_404 ob_120 fk_12_49 ?_
    refine Ev.if_ne (pc' := 145) (tgt := 152) dX12_readLine_142 rfl rfl (fun hc => ?_) (fun hc => ?_)
    · have h := h.1 hc
      exact okX12_readLine_b152 h
    · have h := h.2 hc
      refine Ev.aload_n (k := 0) (pc' := 146) dX12_readLine_145 rfl rfl rfl ?_
      refine Ef.callVV [] [] (pc' := 149) dX12_readLine_146 rfl cv_RX12_425_X12_readLate ⟨Nat.le_of_ble_eq_true rfl, Nat.le_of_ble_eq_true rfl⟩ ob_120 rfl rfl rfl (Nat.le_of_ble_eq_true rfl) (okX12_readLate h) (fun I4 L5 h => ?_)
      refine Ev.goto (tgt := 157) dX12_readLine_149 rfl ?_
      exact okX12_readLine_b157 h
set_option maxRecDepth 10000 in
theorem okX12_readLine_b104 {G : Gx} {Q : Ix → Lx → Prop} {I : Ix} {L : Lx} (h : wpX12_readLine_b104 Q I L) : Ef G MX12_readLine (qV Q) 104 [(0, .ref 120)] [] I L := by
  unfold wpX12_readLine_b104 at h
  refine Ev.aload_n (k := 0) (pc' := 105) dX12_readLine_104 rfl rfl rfl ?_
  refine Ev.ldc2 (pc' := 108) dX12_readLine_105 rfl ll_RX12_269 ?_
  refine Ef.callVZ [.long _] [] (pc' := 111) dX12_readLine_108 rfl cv_RX12_295_X12_isWord ⟨Nat.le_of_ble_eq_true rfl, Nat.le_of_ble_eq_true rfl⟩ ob_120 rfl rfl rfl (Nat.le_of_ble_eq_true rfl) (okX12_isWord h) (fun r3 I1 L2 h => ?_)
  refine Ef.ifz_eq (pc' := 114) (tgt := 128) dX12_readLine_111 rfl rfl (fun hc => ?_) (fun hc => ?_)
  · have h := h.1 hc
    exact okX12_readLine_b128 h
  · have h := h.2 hc
    refine Ev.aload_n (k := 0) (pc' := 115) dX12_readLine_114 rfl rfl rfl ?_
    refine Ev.getI (pc' := 118) dX12_readLine_115 rfl fa_RX12_397 ob_120 fk_12_48 ?_
    refine Ev.if_ne (pc' := 121) (tgt := 128) dX12_readLine_118 rfl rfl (fun hc => ?_) (fun hc => ?_)
    · have h := h.1 hc
      exact okX12_readLine_b128 h
    · have h := h.2 hc
      refine Ev.aload_n (k := 0) (pc' := 122) dX12_readLine_121 rfl rfl rfl ?_
      refine Ef.callVV [] [] (pc' := 125) dX12_readLine_122 rfl cv_RX12_422_X12_readLaw ⟨Nat.le_of_ble_eq_true rfl, Nat.le_of_ble_eq_true rfl⟩ ob_120 rfl rfl rfl (Nat.le_of_ble_eq_true rfl) (okX12_readLaw h) (fun I4 L5 h => ?_)
      refine Ev.goto (tgt := 157) dX12_readLine_125 rfl ?_
      exact okX12_readLine_b157 h
set_option maxRecDepth 10000 in
theorem okX12_readLine_b78 {G : Gx} {Q : Ix → Lx → Prop} {I : Ix} {L : Lx} (h : wpX12_readLine_b78 Q I L) : Ef G MX12_readLine (qV Q) 78 [(0, .ref 120)] [] I L := by
  unfold wpX12_readLine_b78 at h
  refine Ev.aload_n (k := 0) (pc' := 79) dX12_readLine_78 rfl rfl rfl ?_
  refine Ev.ldc2 (pc' := 82) dX12_readLine_79 rfl ll_RX12_259 ?_
  refine Ef.callVZ [.long _] [] (pc' := 85) dX12_readLine_82 rfl cv_RX12_295_X12_isWord ⟨Nat.le_of_ble_eq_true rfl, Nat.le_of_ble_eq_true rfl⟩ ob_120 rfl rfl rfl (Nat.le_of_ble_eq_true rfl) (okX12_isWord h) (fun r3 I1 L2 h => ?_)
  refine Ef.ifz_eq (pc' := 88) (tgt := 104) dX12_readLine_85 rfl rfl (fun hc => ?_) (fun hc => ?_)
  · have h := h.1 hc
    exact okX12_readLine_b104 h
  · have h := h.2 hc
    refine Ev.aload_n (k := 0) (pc' := 89) dX12_readLine_88 rfl rfl rfl ?_
    refine Ev.getI (pc' := 92) dX12_readLine_89 rfl fa_RX12_355 ob_120 fk_12_39 ?_
    refine Ev.bipush (pc' := 94) dX12_readLine_92 rfl kb_6 ?_
    refine Ev.icmp_ge (pc' := 97) (tgt := 104) dX12_readLine_94 rfl rfl (fun hc => ?_) (fun hc => ?_)
    · have h := h.1 hc
      exact okX12_readLine_b104 h
    · have h := h.2 hc
      refine Ev.aload_n (k := 0) (pc' := 98) dX12_readLine_97 rfl rfl rfl ?_
      refine Ef.callVV [] [] (pc' := 101) dX12_readLine_98 rfl cv_RX12_419_X12_readPerson ⟨Nat.le_of_ble_eq_true rfl, Nat.le_of_ble_eq_true rfl⟩ ob_120 rfl rfl rfl (Nat.le_of_ble_eq_true rfl) (okX12_readPerson h) (fun I4 L5 h => ?_)
      refine Ev.goto (tgt := 157) dX12_readLine_101 rfl ?_
      exact okX12_readLine_b157 h
set_option maxRecDepth 10000 in
theorem okX12_readLine_b52 {G : Gx} {Q : Ix → Lx → Prop} {I : Ix} {L : Lx} (h : wpX12_readLine_b52 Q I L) : Ef G MX12_readLine (qV Q) 52 [(0, .ref 120)] [] I L := by
  unfold wpX12_readLine_b52 at h
  refine Ev.aload_n (k := 0) (pc' := 53) dX12_readLine_52 rfl rfl rfl ?_
  refine Ev.ldc2 (pc' := 56) dX12_readLine_53 rfl ll_RX12_247 ?_
  refine Ef.callVZ [.long _] [] (pc' := 59) dX12_readLine_56 rfl cv_RX12_295_X12_isWord ⟨Nat.le_of_ble_eq_true rfl, Nat.le_of_ble_eq_true rfl⟩ ob_120 rfl rfl rfl (Nat.le_of_ble_eq_true rfl) (okX12_isWord h) (fun r3 I1 L2 h => ?_)
  refine Ef.ifz_eq (pc' := 62) (tgt := 78) dX12_readLine_59 rfl rfl (fun hc => ?_) (fun hc => ?_)
  · have h := h.1 hc
    exact okX12_readLine_b78 h
  · have h := h.2 hc
    refine Ev.aload_n (k := 0) (pc' := 63) dX12_readLine_62 rfl rfl rfl ?_
    refine Ev.getI (pc' := 66) dX12_readLine_63 rfl fa_RX12_388 ob_120 fk_12_38 ?_
    refine Ev.bipush (pc' := 68) dX12_readLine_66 rfl kb_10 ?_
    refine Ev.icmp_ge (pc' := 71) (tgt := 78) dX12_readLine_68 rfl rfl (fun hc => ?_) (fun hc => ?_)
    · have h := h.1 hc
      exact okX12_readLine_b78 h
    · have h := h.2 hc
      refine Ev.aload_n (k := 0) (pc' := 72) dX12_readLine_71 rfl rfl rfl ?_
      refine Ef.callVV [] [] (pc' := 75) dX12_readLine_72 rfl cv_RX12_416_X12_readThing ⟨Nat.le_of_ble_eq_true rfl, Nat.le_of_ble_eq_true rfl⟩ ob_120 rfl rfl rfl (Nat.le_of_ble_eq_true rfl) (okX12_readThing h) (fun I4 L5 h => ?_)
      refine Ev.goto (tgt := 157) dX12_readLine_75 rfl ?_
      exact okX12_readLine_b157 h
set_option maxRecDepth 10000 in
theorem okX12_readLine_b26 {G : Gx} {Q : Ix → Lx → Prop} {I : Ix} {L : Lx} (h : wpX12_readLine_b26 Q I L) : Ef G MX12_readLine (qV Q) 26 [(0, .ref 120)] [] I L := by
  unfold wpX12_readLine_b26 at h
  refine Ev.aload_n (k := 0) (pc' := 27) dX12_readLine_26 rfl rfl rfl ?_
  refine Ev.ldc2 (pc' := 30) dX12_readLine_27 rfl ll_RX12_243 ?_
  refine Ef.callVZ [.long _] [] (pc' := 33) dX12_readLine_30 rfl cv_RX12_295_X12_isWord ⟨Nat.le_of_ble_eq_true rfl, Nat.le_of_ble_eq_true rfl⟩ ob_120 rfl rfl rfl (Nat.le_of_ble_eq_true rfl) (okX12_isWord h) (fun r3 I1 L2 h => ?_)
  refine Ef.ifz_eq (pc' := 36) (tgt := 52) dX12_readLine_33 rfl rfl (fun hc => ?_) (fun hc => ?_)
  · have h := h.1 hc
    exact okX12_readLine_b52 h
  · have h := h.2 hc
    refine Ev.aload_n (k := 0) (pc' := 37) dX12_readLine_36 rfl rfl rfl ?_
    refine Ev.getI (pc' := 40) dX12_readLine_37 rfl fa_RX12_385 ob_120 fk_12_37 ?_
    refine Ev.bipush (pc' := 42) dX12_readLine_40 rfl kb_16 ?_
    refine Ev.icmp_ge (pc' := 45) (tgt := 52) dX12_readLine_42 rfl rfl (fun hc => ?_) (fun hc => ?_)
    · have h := h.1 hc
      exact okX12_readLine_b52 h
    · have h := h.2 hc
      refine Ev.aload_n (k := 0) (pc' := 46) dX12_readLine_45 rfl rfl rfl ?_
      refine Ef.callVV [] [] (pc' := 49) dX12_readLine_46 rfl cv_RX12_413_X12_readRoad ⟨Nat.le_of_ble_eq_true rfl, Nat.le_of_ble_eq_true rfl⟩ ob_120 rfl rfl rfl (Nat.le_of_ble_eq_true rfl) (okX12_readRoad h) (fun I4 L5 h => ?_)
      refine Ev.goto (tgt := 157) dX12_readLine_49 rfl ?_
      exact okX12_readLine_b157 h
set_option maxRecDepth 10000 in
theorem okX12_readLine {G : Gx} {I : Ix} {L : Lx} {Q : Ix → Lx → Prop} (h : wpX12_readLine I L Q) : Mf G MX12_readLine [.ref 120] I L (qV Q) := by
  unfold wpX12_readLine at h
  refine Mf.of pn_RX12 (Nat.le_of_ble_eq_true rfl) ?_
  refine Ev.aload_n (k := 0) (pc' := 1) dX12_readLine_0 rfl rfl rfl ?_
  refine Ev.ldc2 (pc' := 4) dX12_readLine_1 rfl ll_RX12_239 ?_
  refine Ef.callVZ [.long _] [] (pc' := 7) dX12_readLine_4 rfl cv_RX12_295_X12_isWord ⟨Nat.le_of_ble_eq_true rfl, Nat.le_of_ble_eq_true rfl⟩ ob_120 rfl rfl rfl (Nat.le_of_ble_eq_true rfl) (okX12_isWord h) (fun r3 I1 L2 h => ?_)
  refine Ef.ifz_eq (pc' := 10) (tgt := 26) dX12_readLine_7 rfl rfl (fun hc => ?_) (fun hc => ?_)
  · have h := h.1 hc
    exact okX12_readLine_b26 h
  · have h := h.2 hc
    refine Ev.aload_n (k := 0) (pc' := 11) dX12_readLine_10 rfl rfl rfl ?_
    refine Ev.getI (pc' := 14) dX12_readLine_11 rfl fa_RX12_371 ob_120 fk_12_36 ?_
    refine Ev.bipush (pc' := 16) dX12_readLine_14 rfl kb_8 ?_
    refine Ev.icmp_ge (pc' := 19) (tgt := 26) dX12_readLine_16 rfl rfl (fun hc => ?_) (fun hc => ?_)
    · have h := h.1 hc
      exact okX12_readLine_b26 h
    · have h := h.2 hc
      refine Ev.aload_n (k := 0) (pc' := 20) dX12_readLine_19 rfl rfl rfl ?_
      refine Ef.callVV [] [] (pc' := 23) dX12_readLine_20 rfl cv_RX12_410_X12_readPlace ⟨Nat.le_of_ble_eq_true rfl, Nat.le_of_ble_eq_true rfl⟩ ob_120 rfl rfl rfl (Nat.le_of_ble_eq_true rfl) (okX12_readPlace h) (fun I4 L5 h => ?_)
      refine Ev.goto (tgt := 157) dX12_readLine_23 rfl ?_
      exact okX12_readLine_b157 h
def wpX12_valley_l393 (Q : Int32 → Ix → Lx → Prop) (P393 : Int32 → Ix → Lx → Prop) (v1 : Int32) (I : Ix) (L : Lx) : Prop := (3 ≤ v1 → Q (I 120 45) I L) ∧ (¬ 3 ≤ v1 → vp_in v1 3 ∧ ∀ I1 : Ix, I1 = pu I 169 v1.toNatClampNeg 0 → P393 (v1 + 1) I1 L)
def wpX12_valley_h393 (Q : Int32 → Ix → Lx → Prop) (v1 : Int32) (I : Ix) (L : Lx) : Prop := Lfp (X := Int32 × Ix × Lx) (fun P z => wpX12_valley_l393 Q (fun v1 I L => P (v1, I, L)) z.1 z.2.1 z.2.2) (v1, I, L)
theorem wpX12_valley_h393_fold {Q : Int32 → Ix → Lx → Prop} {v1 : Int32} {I : Ix} {L : Lx} (h : wpX12_valley_l393 Q (wpX12_valley_h393 Q) v1 I L) : wpX12_valley_h393 Q v1 I L := Lfp.fold h
def wpX12_valley_l352 (Q : Int32 → Ix → Lx → Prop) (P352 : Int32 → Ix → Lx → Prop) (v1 : Int32) (I : Ix) (L : Lx) : Prop := ((I 120 45) < v1 → wpX12_layFar I L (fun I1 L2 => wpX12_fresh I1 L2 (fun I3 L4 => ∀ I5 : Ix, I5 = pu I3 120 93 0 → wpX12_valley_h393 Q 0 I5 L4))) ∧ (¬ (I 120 45) < v1 → vp_in v1 7 ∧ vp_in v1 7 ∧ ∀ I6 : Ix, I6 = pu I 127 v1.toNatClampNeg (I 124 v1.toNatClampNeg) → P352 (v1 + 1) I6 L)
def wpX12_valley_h352 (Q : Int32 → Ix → Lx → Prop) (v1 : Int32) (I : Ix) (L : Lx) : Prop := Lfp (X := Int32 × Ix × Lx) (fun P z => wpX12_valley_l352 Q (fun v1 I L => P (v1, I, L)) z.1 z.2.1 z.2.2) (v1, I, L)
theorem wpX12_valley_h352_fold {Q : Int32 → Ix → Lx → Prop} {v1 : Int32} {I : Ix} {L : Lx} (h : wpX12_valley_l352 Q (wpX12_valley_h352 Q) v1 I L) : wpX12_valley_h352 Q v1 I L := Lfp.fold h
def wpX12_valley_l312 (Q : Int32 → Ix → Lx → Prop) (P312 : Int32 → Ix → Lx → Prop) (v1 : Int32) (I : Ix) (L : Lx) : Prop := ((I 120 19) ≤ v1 → wpX12_valley_h352 Q 0 I L) ∧ (¬ (I 120 19) ≤ v1 → vp_in v1 640 ∧ vp_in v1 640 ∧ ∀ I1 : Ix, I1 = pu I 125 v1.toNatClampNeg (I 122 v1.toNatClampNeg) → vp_in v1 640 ∧ vp_in v1 640 ∧ ∀ I2 : Ix, I2 = pu I1 126 v1.toNatClampNeg (I1 123 v1.toNatClampNeg) → P312 (v1 + 1) I2 L)
def wpX12_valley_h312 (Q : Int32 → Ix → Lx → Prop) (v1 : Int32) (I : Ix) (L : Lx) : Prop := Lfp (X := Int32 × Ix × Lx) (fun P z => wpX12_valley_l312 Q (fun v1 I L => P (v1, I, L)) z.1 z.2.1 z.2.2) (v1, I, L)
theorem wpX12_valley_h312_fold {Q : Int32 → Ix → Lx → Prop} {v1 : Int32} {I : Ix} {L : Lx} (h : wpX12_valley_l312 Q (wpX12_valley_h312 Q) v1 I L) : wpX12_valley_h312 Q v1 I L := Lfp.fold h
def wpX12_valley_l286 (Q : Int32 → Ix → Lx → Prop) (P286 : Int32 → Ix → Lx → Prop) (v1 : Int32) (I : Ix) (L : Lx) : Prop := (24 ≤ v1 → wpX12_valley_h312 Q 0 I L) ∧ (¬ 24 ≤ v1 → vp_in v1 24 ∧ vp_in v1 24 ∧ ∀ I1 : Ix, I1 = pu I 142 v1.toNatClampNeg (I 137 v1.toNatClampNeg) → P286 (v1 + 1) I1 L)
def wpX12_valley_h286 (Q : Int32 → Ix → Lx → Prop) (v1 : Int32) (I : Ix) (L : Lx) : Prop := Lfp (X := Int32 × Ix × Lx) (fun P z => wpX12_valley_l286 Q (fun v1 I L => P (v1, I, L)) z.1 z.2.1 z.2.2) (v1, I, L)
theorem wpX12_valley_h286_fold {Q : Int32 → Ix → Lx → Prop} {v1 : Int32} {I : Ix} {L : Lx} (h : wpX12_valley_l286 Q (wpX12_valley_h286 Q) v1 I L) : wpX12_valley_h286 Q v1 I L := Lfp.fold h
def wpX12_valley_l260 (Q : Int32 → Ix → Lx → Prop) (P260 : Int32 → Ix → Lx → Prop) (v1 : Int32) (I : Ix) (L : Lx) : Prop := (50 ≤ v1 → wpX12_valley_h286 Q 0 I L) ∧ (¬ 50 ≤ v1 → vp_in v1 50 ∧ vp_in v1 50 ∧ ∀ I1 : Ix, I1 = pu I 141 v1.toNatClampNeg (I 136 v1.toNatClampNeg) → P260 (v1 + 1) I1 L)
def wpX12_valley_h260 (Q : Int32 → Ix → Lx → Prop) (v1 : Int32) (I : Ix) (L : Lx) : Prop := Lfp (X := Int32 × Ix × Lx) (fun P z => wpX12_valley_l260 Q (fun v1 I L => P (v1, I, L)) z.1 z.2.1 z.2.2) (v1, I, L)
theorem wpX12_valley_h260_fold {Q : Int32 → Ix → Lx → Prop} {v1 : Int32} {I : Ix} {L : Lx} (h : wpX12_valley_l260 Q (wpX12_valley_h260 Q) v1 I L) : wpX12_valley_h260 Q v1 I L := Lfp.fold h
def wpX12_valley_l234 (Q : Int32 → Ix → Lx → Prop) (P234 : Int32 → Ix → Lx → Prop) (v1 : Int32) (I : Ix) (L : Lx) : Prop := (64 ≤ v1 → wpX12_valley_h260 Q 0 I L) ∧ (¬ 64 ≤ v1 → vp_in v1 64 ∧ vp_in v1 64 ∧ ∀ I1 : Ix, I1 = pu I 139 v1.toNatClampNeg (I 135 v1.toNatClampNeg) → P234 (v1 + 1) I1 L)
def wpX12_valley_h234 (Q : Int32 → Ix → Lx → Prop) (v1 : Int32) (I : Ix) (L : Lx) : Prop := Lfp (X := Int32 × Ix × Lx) (fun P z => wpX12_valley_l234 Q (fun v1 I L => P (v1, I, L)) z.1 z.2.1 z.2.2) (v1, I, L)
theorem wpX12_valley_h234_fold {Q : Int32 → Ix → Lx → Prop} {v1 : Int32} {I : Ix} {L : Lx} (h : wpX12_valley_l234 Q (wpX12_valley_h234 Q) v1 I L) : wpX12_valley_h234 Q v1 I L := Lfp.fold h
def wpX12_valley_l208 (Q : Int32 → Ix → Lx → Prop) (P208 : Int32 → Ix → Lx → Prop) (v1 : Int32) (I : Ix) (L : Lx) : Prop := (8 ≤ v1 → wpX12_valley_h234 Q 0 I L) ∧ (¬ 8 ≤ v1 → vp_in v1 8 ∧ vp_in v1 8 ∧ ∀ I1 : Ix, I1 = pu I 138 v1.toNatClampNeg (I 134 v1.toNatClampNeg) → P208 (v1 + 1) I1 L)
def wpX12_valley_h208 (Q : Int32 → Ix → Lx → Prop) (v1 : Int32) (I : Ix) (L : Lx) : Prop := Lfp (X := Int32 × Ix × Lx) (fun P z => wpX12_valley_l208 Q (fun v1 I L => P (v1, I, L)) z.1 z.2.1 z.2.2) (v1, I, L)
theorem wpX12_valley_h208_fold {Q : Int32 → Ix → Lx → Prop} {v1 : Int32} {I : Ix} {L : Lx} (h : wpX12_valley_l208 Q (wpX12_valley_h208 Q) v1 I L) : wpX12_valley_h208 Q v1 I L := Lfp.fold h
def wpX12_valley_b141 (Q : Int32 → Ix → Lx → Prop) (I : Ix) (L : Lx) : Prop := ((I 120 2) ≤ 0 → ∀ I1 : Ix, I1 = pu I 120 42 (I 120 36) → ∀ I2 : Ix, I2 = pu I1 120 43 (I1 120 37) → ∀ I3 : Ix, I3 = pu I2 120 44 (I2 120 38) → ∀ I4 : Ix, I4 = pu I3 120 45 (I3 120 39) → ∀ I5 : Ix, I5 = pu I4 120 46 (I4 120 40) → ∀ I6 : Ix, I6 = pu I5 120 47 (I5 120 41) → ∀ I7 : Ix, I7 = pu I6 120 21 (I6 120 20) → wpX12_valley_h208 Q 0 I7 L) ∧ (¬ (I 120 2) ≤ 0 → Q (-1) I L)
def wpX12_valley_l120 (Q : Int32 → Ix → Lx → Prop) (P120 : Ix → Lx → Prop) (I : Ix) (L : Lx) : Prop := (¬ (I 120 2) = 0 → wpX12_valley_b141 Q I L) ∧ ((I 120 2) = 0 → ((I 120 6) = 0 → wpX12_valley_b141 Q I L) ∧ (¬ (I 120 6) = 0 → wpX12_readLine I L (fun I1 L2 => P120 I1 L2)))
def wpX12_valley_h120 (Q : Int32 → Ix → Lx → Prop) (I : Ix) (L : Lx) : Prop := Lfp (X := Ix × Lx) (fun P z => wpX12_valley_l120 Q (fun I L => P (I, L)) z.1 z.2) (I, L)
theorem wpX12_valley_h120_fold {Q : Int32 → Ix → Lx → Prop} {I : Ix} {L : Lx} (h : wpX12_valley_l120 Q (wpX12_valley_h120 Q) I L) : wpX12_valley_h120 Q I L := Lfp.fold h
def wpX12_valley_b109 (Q : Int32 → Ix → Lx → Prop) (P80 : Int32 → Ix → Lx → Prop) (v1 : Int32) (t1 : Int32) (t2 : Int32) (I : Ix) (L : Lx) : Prop := vp_in t1 64 ∧ ∀ I1 : Ix, I1 = pu I 135 t1.toNatClampNeg t2 → P80 (v1 + 1) I1 L
def wpX12_valley_l80 (Q : Int32 → Ix → Lx → Prop) (P80 : Int32 → Ix → Lx → Prop) (v1 : Int32) (I : Ix) (L : Lx) : Prop := (64 ≤ v1 → wpX12_token I L (fun I1 L2 => wpX12_valley_h120 Q I1 L2)) ∧ (¬ 64 ≤ v1 → (¬ (v1 / 8) = (jrem v1 8) → wpX12_valley_b109 Q P80 v1 v1 999 I L) ∧ ((v1 / 8) = (jrem v1 8) → wpX12_valley_b109 Q P80 v1 v1 0 I L))
def wpX12_valley_h80 (Q : Int32 → Ix → Lx → Prop) (v1 : Int32) (I : Ix) (L : Lx) : Prop := Lfp (X := Int32 × Ix × Lx) (fun P z => wpX12_valley_l80 Q (fun v1 I L => P (v1, I, L)) z.1 z.2.1 z.2.2) (v1, I, L)
theorem wpX12_valley_h80_fold {Q : Int32 → Ix → Lx → Prop} {v1 : Int32} {I : Ix} {L : Lx} (h : wpX12_valley_l80 Q (wpX12_valley_h80 Q) v1 I L) : wpX12_valley_h80 Q v1 I L := Lfp.fold h
def wpX12_valley (I : Ix) (L : Lx) (Q : Int32 → Ix → Lx → Prop) : Prop := ∀ I1 : Ix, I1 = pu I 120 5 (I 120 1) → ∀ I2 : Ix, I2 = pu I1 120 1 0 → ∀ I3 : Ix, I3 = pu I2 120 4 0 → ∀ I4 : Ix, I4 = pu I3 120 2 0 → ∀ I5 : Ix, I5 = pu I4 120 3 (-1) → ∀ I6 : Ix, I6 = pu I5 120 19 0 → ∀ I7 : Ix, I7 = pu I6 120 20 0 → ∀ I8 : Ix, I8 = pu I7 120 36 0 → ∀ I9 : Ix, I9 = pu I8 120 37 0 → ∀ I10 : Ix, I10 = pu I9 120 38 0 → ∀ I11 : Ix, I11 = pu I10 120 39 0 → ∀ I12 : Ix, I12 = pu I11 120 40 0 → ∀ I13 : Ix, I13 = pu I12 120 41 0 → ∀ I14 : Ix, I14 = pu I13 120 48 0 → ∀ I15 : Ix, I15 = pu I14 120 49 0 → wpX12_valley_h80 Q 0 I15 L
set_option maxRecDepth 10000 in
theorem okX12_valley_l393 {G : Gx} {Q : Int32 → Ix → Lx → Prop} {P393 : Int32 → Ix → Lx → Prop} (hP393 : ∀ (v1 : Int32) (I : Ix) (L : Lx), P393 v1 I L → Ef G MX12_valley (qI Q) 393 [(0, .ref 120), (1, .int v1)] [] I L) {v1 : Int32} {I : Ix} {L : Lx} (h : wpX12_valley_l393 Q P393 v1 I L) : Ef G MX12_valley (qI Q) 393 [(0, .ref 120), (1, .int v1)] [] I L := by
  unfold wpX12_valley_l393 at h
  refine Ev.iload_n (k := 1) (pc' := 394) dX12_valley_393 rfl rfl rfl ?_
  refine Ev.iconst (pc' := 395) dX12_valley_394 rfl ki_3 ?_
  refine Ev.icmp_ge (pc' := 398) (tgt := 411) dX12_valley_395 rfl rfl (fun hc => ?_) (fun hc => ?_)
  · have h := h.1 hc
    refine Ev.aload_n (k := 0) (pc' := 412) dX12_valley_411 rfl rfl rfl ?_
    refine Ev.getI (pc' := 415) dX12_valley_412 rfl fa_RX12_440 ob_120 fk_12_45 ?_
    exact Ef.iret dX12_valley_415 rfl h
  · have h := h.2 hc
    refine Ev.aload_n (k := 0) (pc' := 399) dX12_valley_398 rfl rfl rfl ?_
    refine Ev.getR (pc' := 402) dX12_valley_399 rfl fa_RX12_166 ob_120 fk_12_95 rf_120_95 ?_
    refine Ev.iload_n (k := 1) (pc' := 403) dX12_valley_402 rfl rfl rfl ?_
    refine Ev.iconst (pc' := 404) dX12_valley_403 rfl ki_0 ?_
    refine Ev.zastore (j := _) (y := 0) (pc' := 405) dX12_valley_404 rfl ar_169 h.1 rfl (by decide) (fun I1 eI1 => ?_)
    have h := h.2 I1 eI1
    refine Ev.iinc (k := 1) (v := _) (ls' := [(1, .int _), (0, .ref _)]) (pc' := 408) dX12_valley_405 rfl rfl (congrArg (_ + ·) ki_1) (Nat.le_of_ble_eq_true rfl) rfl ?_
    refine Ev.goto (tgt := 393) dX12_valley_408 rfl ?_
    exact Ev.sub [1, 0] rfl (hP393 _ _ _ h)
set_option maxRecDepth 10000 in
theorem okX12_valley_h393 {G : Gx} {Q : Int32 → Ix → Lx → Prop} {v1 : Int32} {I : Ix} {L : Lx} (h : wpX12_valley_h393 Q v1 I L) : Ef G MX12_valley (qI Q) 393 [(0, .ref 120), (1, .int v1)] [] I L := by
  unfold wpX12_valley_h393 at h
  refine Lfp.ind (P := fun z => Ef G MX12_valley (qI Q) 393 [(0, .ref 120), (1, .int z.1)] [] z.2.1 z.2.2) ?_ h
  intro z P' hP' h
  obtain ⟨v1, I, L⟩ := z
  exact okX12_valley_l393 (fun v1 I L h9 => hP' (v1, I, L) h9) h
set_option maxRecDepth 10000 in
theorem okX12_valley_l352 {G : Gx} {Q : Int32 → Ix → Lx → Prop} {P352 : Int32 → Ix → Lx → Prop} (hP352 : ∀ (v1 : Int32) (I : Ix) (L : Lx), P352 v1 I L → Ef G MX12_valley (qI Q) 352 [(0, .ref 120), (1, .int v1)] [] I L) {v1 : Int32} {I : Ix} {L : Lx} (h : wpX12_valley_l352 Q P352 v1 I L) : Ef G MX12_valley (qI Q) 352 [(0, .ref 120), (1, .int v1)] [] I L := by
  unfold wpX12_valley_l352 at h
  refine Ev.iload_n (k := 1) (pc' := 353) dX12_valley_352 rfl rfl rfl ?_
  refine Ev.aload_n (k := 0) (pc' := 354) dX12_valley_353 rfl rfl rfl ?_
  refine Ev.getI (pc' := 357) dX12_valley_354 rfl fa_RX12_440 ob_120 fk_12_45 ?_
  refine Ev.icmp_gt (pc' := 360) (tgt := 378) dX12_valley_357 rfl rfl (fun hc => ?_) (fun hc => ?_)
  · have h := h.1 hc
    refine Ev.aload_n (k := 0) (pc' := 379) dX12_valley_378 rfl rfl rfl ?_
    refine Ef.callVV [] [] (pc' := 382) dX12_valley_379 rfl cv_RX12_193_X12_layFar ⟨Nat.le_of_ble_eq_true rfl, Nat.le_of_ble_eq_true rfl⟩ ob_120 rfl rfl rfl (Nat.le_of_ble_eq_true rfl) (okX12_layFar h) (fun I1 L2 h => ?_)
    refine Ev.aload_n (k := 0) (pc' := 383) dX12_valley_382 rfl rfl rfl ?_
    refine Ef.callVV [] [] (pc' := 386) dX12_valley_383 rfl cv_RX12_452_X12_fresh ⟨Nat.le_of_ble_eq_true rfl, Nat.le_of_ble_eq_true rfl⟩ ob_120 rfl rfl rfl (Nat.le_of_ble_eq_true rfl) (okX12_fresh h) (fun I3 L4 h => ?_)
    refine Ev.aload_n (k := 0) (pc' := 387) dX12_valley_386 rfl rfl rfl ?_
    refine Ev.iconst (pc' := 388) dX12_valley_387 rfl ki_0 ?_
    refine Ev.putI (pc' := 391) dX12_valley_388 rfl fa_RX12_455 ob_120 fk_12_93 rfl rfl (fun I5 eI5 => ?_)
    have h := h I5 eI5
    refine Ev.iconst (pc' := 392) dX12_valley_391 rfl ki_0 ?_
    refine Ev.istore_n (ls' := [(1, .int _), (0, .ref _)]) (pc' := 393) dX12_valley_392 rfl rfl (Nat.le_of_ble_eq_true rfl) rfl ?_
    exact Ev.sub [1, 0] rfl (okX12_valley_h393 h)
  · have h := h.2 hc
    refine Ev.aload_n (k := 0) (pc' := 361) dX12_valley_360 rfl rfl rfl ?_
    refine Ev.getR (pc' := 364) dX12_valley_361 rfl fa_RX12_32 ob_120 fk_12_15 rf_120_15 ?_
    refine Ev.iload_n (k := 1) (pc' := 365) dX12_valley_364 rfl rfl rfl ?_
    refine Ev.aload_n (k := 0) (pc' := 366) dX12_valley_365 rfl rfl rfl ?_
    refine Ev.getR (pc' := 369) dX12_valley_366 rfl fa_RX12_23 ob_120 fk_12_12 rf_120_12 ?_
    refine Ev.iload_n (k := 1) (pc' := 370) dX12_valley_369 rfl rfl rfl ?_
    refine Ev.iaload (j := _) (pc' := 371) dX12_valley_370 rfl ar_124 h.1 rfl ?_
    have h := h.2
    refine Ev.iastore (j := _) (pc' := 372) dX12_valley_371 rfl ar_127 h.1 rfl (fun I6 eI6 => ?_)
    have h := h.2 I6 eI6
    refine Ev.iinc (k := 1) (v := _) (ls' := [(1, .int _), (0, .ref _)]) (pc' := 375) dX12_valley_372 rfl rfl (congrArg (_ + ·) ki_1) (Nat.le_of_ble_eq_true rfl) rfl ?_
    refine Ev.goto (tgt := 352) dX12_valley_375 rfl ?_
    exact Ev.sub [1, 0] rfl (hP352 _ _ _ h)
set_option maxRecDepth 10000 in
theorem okX12_valley_h352 {G : Gx} {Q : Int32 → Ix → Lx → Prop} {v1 : Int32} {I : Ix} {L : Lx} (h : wpX12_valley_h352 Q v1 I L) : Ef G MX12_valley (qI Q) 352 [(0, .ref 120), (1, .int v1)] [] I L := by
  unfold wpX12_valley_h352 at h
  refine Lfp.ind (P := fun z => Ef G MX12_valley (qI Q) 352 [(0, .ref 120), (1, .int z.1)] [] z.2.1 z.2.2) ?_ h
  intro z P' hP' h
  obtain ⟨v1, I, L⟩ := z
  exact okX12_valley_l352 (fun v1 I L h9 => hP' (v1, I, L) h9) h
set_option maxRecDepth 10000 in
theorem okX12_valley_l312 {G : Gx} {Q : Int32 → Ix → Lx → Prop} {P312 : Int32 → Ix → Lx → Prop} (hP312 : ∀ (v1 : Int32) (I : Ix) (L : Lx), P312 v1 I L → Ef G MX12_valley (qI Q) 312 [(0, .ref 120), (1, .int v1)] [] I L) {v1 : Int32} {I : Ix} {L : Lx} (h : wpX12_valley_l312 Q P312 v1 I L) : Ef G MX12_valley (qI Q) 312 [(0, .ref 120), (1, .int v1)] [] I L := by
  unfold wpX12_valley_l312 at h
  refine Ev.iload_n (k := 1) (pc' := 313) dX12_valley_312 rfl rfl rfl ?_
  refine Ev.aload_n (k := 0) (pc' := 314) dX12_valley_313 rfl rfl rfl ?_
  refine Ev.getI (pc' := 317) dX12_valley_314 rfl fa_RX12_313 ob_120 fk_12_19 ?_
  refine Ev.icmp_ge (pc' := 320) (tgt := 350) dX12_valley_317 rfl rfl (fun hc => ?_) (fun hc => ?_)
  · have h := h.1 hc
    refine Ev.iconst (pc' := 351) dX12_valley_350 rfl ki_0 ?_
    refine Ev.istore_n (ls' := [(1, .int _), (0, .ref _)]) (pc' := 352) dX12_valley_351 rfl rfl (Nat.le_of_ble_eq_true rfl) rfl ?_
    exact Ev.sub [1, 0] rfl (okX12_valley_h352 h)
  · have h := h.2 hc
    refine Ev.aload_n (k := 0) (pc' := 321) dX12_valley_320 rfl rfl rfl ?_
    refine Ev.getR (pc' := 324) dX12_valley_321 rfl fa_RX12_26 ob_120 fk_12_13 rf_120_13 ?_
    refine Ev.iload_n (k := 1) (pc' := 325) dX12_valley_324 rfl rfl rfl ?_
    refine Ev.aload_n (k := 0) (pc' := 326) dX12_valley_325 rfl rfl rfl ?_
    refine Ev.getR (pc' := 329) dX12_valley_326 rfl fa_RX12_17 ob_120 fk_12_10 rf_120_10 ?_
    refine Ev.iload_n (k := 1) (pc' := 330) dX12_valley_329 rfl rfl rfl ?_
    refine Ev.iaload (j := _) (pc' := 331) dX12_valley_330 rfl ar_122 h.1 rfl ?_
    have h := h.2
    refine Ev.iastore (j := _) (pc' := 332) dX12_valley_331 rfl ar_125 h.1 rfl (fun I1 eI1 => ?_)
    have h := h.2 I1 eI1
    refine Ev.aload_n (k := 0) (pc' := 333) dX12_valley_332 rfl rfl rfl ?_
    refine Ev.getR (pc' := 336) dX12_valley_333 rfl fa_RX12_29 ob_120 fk_12_14 rf_120_14 ?_
    refine Ev.iload_n (k := 1) (pc' := 337) dX12_valley_336 rfl rfl rfl ?_
    refine Ev.aload_n (k := 0) (pc' := 338) dX12_valley_337 rfl rfl rfl ?_
    refine Ev.getR (pc' := 341) dX12_valley_338 rfl fa_RX12_20 ob_120 fk_12_11 rf_120_11 ?_
    refine Ev.iload_n (k := 1) (pc' := 342) dX12_valley_341 rfl rfl rfl ?_
    refine Ev.iaload (j := _) (pc' := 343) dX12_valley_342 rfl ar_123 h.1 rfl ?_
    have h := h.2
    refine Ev.iastore (j := _) (pc' := 344) dX12_valley_343 rfl ar_126 h.1 rfl (fun I2 eI2 => ?_)
    have h := h.2 I2 eI2
    refine Ev.iinc (k := 1) (v := _) (ls' := [(1, .int _), (0, .ref _)]) (pc' := 347) dX12_valley_344 rfl rfl (congrArg (_ + ·) ki_1) (Nat.le_of_ble_eq_true rfl) rfl ?_
    refine Ev.goto (tgt := 312) dX12_valley_347 rfl ?_
    exact Ev.sub [1, 0] rfl (hP312 _ _ _ h)
set_option maxRecDepth 10000 in
theorem okX12_valley_h312 {G : Gx} {Q : Int32 → Ix → Lx → Prop} {v1 : Int32} {I : Ix} {L : Lx} (h : wpX12_valley_h312 Q v1 I L) : Ef G MX12_valley (qI Q) 312 [(0, .ref 120), (1, .int v1)] [] I L := by
  unfold wpX12_valley_h312 at h
  refine Lfp.ind (P := fun z => Ef G MX12_valley (qI Q) 312 [(0, .ref 120), (1, .int z.1)] [] z.2.1 z.2.2) ?_ h
  intro z P' hP' h
  obtain ⟨v1, I, L⟩ := z
  exact okX12_valley_l312 (fun v1 I L h9 => hP' (v1, I, L) h9) h
set_option maxRecDepth 10000 in
theorem okX12_valley_l286 {G : Gx} {Q : Int32 → Ix → Lx → Prop} {P286 : Int32 → Ix → Lx → Prop} (hP286 : ∀ (v1 : Int32) (I : Ix) (L : Lx), P286 v1 I L → Ef G MX12_valley (qI Q) 286 [(0, .ref 120), (1, .int v1)] [] I L) {v1 : Int32} {I : Ix} {L : Lx} (h : wpX12_valley_l286 Q P286 v1 I L) : Ef G MX12_valley (qI Q) 286 [(0, .ref 120), (1, .int v1)] [] I L := by
  unfold wpX12_valley_l286 at h
  refine Ev.iload_n (k := 1) (pc' := 287) dX12_valley_286 rfl rfl rfl ?_
  refine Ev.bipush (pc' := 289) dX12_valley_287 rfl kb_24 ?_
  refine Ev.icmp_ge (pc' := 292) (tgt := 310) dX12_valley_289 rfl rfl (fun hc => ?_) (fun hc => ?_)
  · have h := h.1 hc
    refine Ev.iconst (pc' := 311) dX12_valley_310 rfl ki_0 ?_
    refine Ev.istore_n (ls' := [(1, .int _), (0, .ref _)]) (pc' := 312) dX12_valley_311 rfl rfl (Nat.le_of_ble_eq_true rfl) rfl ?_
    exact Ev.sub [1, 0] rfl (okX12_valley_h312 h)
  · have h := h.2 hc
    refine Ev.aload_n (k := 0) (pc' := 293) dX12_valley_292 rfl rfl rfl ?_
    refine Ev.getR (pc' := 296) dX12_valley_293 rfl fa_RX12_78 ob_120 fk_12_35 rf_120_35 ?_
    refine Ev.iload_n (k := 1) (pc' := 297) dX12_valley_296 rfl rfl rfl ?_
    refine Ev.aload_n (k := 0) (pc' := 298) dX12_valley_297 rfl rfl rfl ?_
    refine Ev.getR (pc' := 301) dX12_valley_298 rfl fa_RX12_63 ob_120 fk_12_30 rf_120_30 ?_
    refine Ev.iload_n (k := 1) (pc' := 302) dX12_valley_301 rfl rfl rfl ?_
    refine Ev.iaload (j := _) (pc' := 303) dX12_valley_302 rfl ar_137 h.1 rfl ?_
    have h := h.2
    refine Ev.iastore (j := _) (pc' := 304) dX12_valley_303 rfl ar_142 h.1 rfl (fun I1 eI1 => ?_)
    have h := h.2 I1 eI1
    refine Ev.iinc (k := 1) (v := _) (ls' := [(1, .int _), (0, .ref _)]) (pc' := 307) dX12_valley_304 rfl rfl (congrArg (_ + ·) ki_1) (Nat.le_of_ble_eq_true rfl) rfl ?_
    refine Ev.goto (tgt := 286) dX12_valley_307 rfl ?_
    exact Ev.sub [1, 0] rfl (hP286 _ _ _ h)
set_option maxRecDepth 10000 in
theorem okX12_valley_h286 {G : Gx} {Q : Int32 → Ix → Lx → Prop} {v1 : Int32} {I : Ix} {L : Lx} (h : wpX12_valley_h286 Q v1 I L) : Ef G MX12_valley (qI Q) 286 [(0, .ref 120), (1, .int v1)] [] I L := by
  unfold wpX12_valley_h286 at h
  refine Lfp.ind (P := fun z => Ef G MX12_valley (qI Q) 286 [(0, .ref 120), (1, .int z.1)] [] z.2.1 z.2.2) ?_ h
  intro z P' hP' h
  obtain ⟨v1, I, L⟩ := z
  exact okX12_valley_l286 (fun v1 I L h9 => hP' (v1, I, L) h9) h
set_option maxRecDepth 10000 in
theorem okX12_valley_l260 {G : Gx} {Q : Int32 → Ix → Lx → Prop} {P260 : Int32 → Ix → Lx → Prop} (hP260 : ∀ (v1 : Int32) (I : Ix) (L : Lx), P260 v1 I L → Ef G MX12_valley (qI Q) 260 [(0, .ref 120), (1, .int v1)] [] I L) {v1 : Int32} {I : Ix} {L : Lx} (h : wpX12_valley_l260 Q P260 v1 I L) : Ef G MX12_valley (qI Q) 260 [(0, .ref 120), (1, .int v1)] [] I L := by
  unfold wpX12_valley_l260 at h
  refine Ev.iload_n (k := 1) (pc' := 261) dX12_valley_260 rfl rfl rfl ?_
  refine Ev.bipush (pc' := 263) dX12_valley_261 rfl kb_50 ?_
  refine Ev.icmp_ge (pc' := 266) (tgt := 284) dX12_valley_263 rfl rfl (fun hc => ?_) (fun hc => ?_)
  · have h := h.1 hc
    refine Ev.iconst (pc' := 285) dX12_valley_284 rfl ki_0 ?_
    refine Ev.istore_n (ls' := [(1, .int _), (0, .ref _)]) (pc' := 286) dX12_valley_285 rfl rfl (Nat.le_of_ble_eq_true rfl) rfl ?_
    exact Ev.sub [1, 0] rfl (okX12_valley_h286 h)
  · have h := h.2 hc
    refine Ev.aload_n (k := 0) (pc' := 267) dX12_valley_266 rfl rfl rfl ?_
    refine Ev.getR (pc' := 270) dX12_valley_267 rfl fa_RX12_75 ob_120 fk_12_34 rf_120_34 ?_
    refine Ev.iload_n (k := 1) (pc' := 271) dX12_valley_270 rfl rfl rfl ?_
    refine Ev.aload_n (k := 0) (pc' := 272) dX12_valley_271 rfl rfl rfl ?_
    refine Ev.getR (pc' := 275) dX12_valley_272 rfl fa_RX12_60 ob_120 fk_12_29 rf_120_29 ?_
    refine Ev.iload_n (k := 1) (pc' := 276) dX12_valley_275 rfl rfl rfl ?_
    refine Ev.iaload (j := _) (pc' := 277) dX12_valley_276 rfl ar_136 h.1 rfl ?_
    have h := h.2
    refine Ev.iastore (j := _) (pc' := 278) dX12_valley_277 rfl ar_141 h.1 rfl (fun I1 eI1 => ?_)
    have h := h.2 I1 eI1
    refine Ev.iinc (k := 1) (v := _) (ls' := [(1, .int _), (0, .ref _)]) (pc' := 281) dX12_valley_278 rfl rfl (congrArg (_ + ·) ki_1) (Nat.le_of_ble_eq_true rfl) rfl ?_
    refine Ev.goto (tgt := 260) dX12_valley_281 rfl ?_
    exact Ev.sub [1, 0] rfl (hP260 _ _ _ h)
set_option maxRecDepth 10000 in
theorem okX12_valley_h260 {G : Gx} {Q : Int32 → Ix → Lx → Prop} {v1 : Int32} {I : Ix} {L : Lx} (h : wpX12_valley_h260 Q v1 I L) : Ef G MX12_valley (qI Q) 260 [(0, .ref 120), (1, .int v1)] [] I L := by
  unfold wpX12_valley_h260 at h
  refine Lfp.ind (P := fun z => Ef G MX12_valley (qI Q) 260 [(0, .ref 120), (1, .int z.1)] [] z.2.1 z.2.2) ?_ h
  intro z P' hP' h
  obtain ⟨v1, I, L⟩ := z
  exact okX12_valley_l260 (fun v1 I L h9 => hP' (v1, I, L) h9) h
set_option maxRecDepth 10000 in
theorem okX12_valley_l234 {G : Gx} {Q : Int32 → Ix → Lx → Prop} {P234 : Int32 → Ix → Lx → Prop} (hP234 : ∀ (v1 : Int32) (I : Ix) (L : Lx), P234 v1 I L → Ef G MX12_valley (qI Q) 234 [(0, .ref 120), (1, .int v1)] [] I L) {v1 : Int32} {I : Ix} {L : Lx} (h : wpX12_valley_l234 Q P234 v1 I L) : Ef G MX12_valley (qI Q) 234 [(0, .ref 120), (1, .int v1)] [] I L := by
  unfold wpX12_valley_l234 at h
  refine Ev.iload_n (k := 1) (pc' := 235) dX12_valley_234 rfl rfl rfl ?_
  refine Ev.bipush (pc' := 237) dX12_valley_235 rfl kb_64 ?_
  refine Ev.icmp_ge (pc' := 240) (tgt := 258) dX12_valley_237 rfl rfl (fun hc => ?_) (fun hc => ?_)
  · have h := h.1 hc
    refine Ev.iconst (pc' := 259) dX12_valley_258 rfl ki_0 ?_
    refine Ev.istore_n (ls' := [(1, .int _), (0, .ref _)]) (pc' := 260) dX12_valley_259 rfl rfl (Nat.le_of_ble_eq_true rfl) rfl ?_
    exact Ev.sub [1, 0] rfl (okX12_valley_h260 h)
  · have h := h.2 hc
    refine Ev.aload_n (k := 0) (pc' := 241) dX12_valley_240 rfl rfl rfl ?_
    refine Ev.getR (pc' := 244) dX12_valley_241 rfl fa_RX12_69 ob_120 fk_12_32 rf_120_32 ?_
    refine Ev.iload_n (k := 1) (pc' := 245) dX12_valley_244 rfl rfl rfl ?_
    refine Ev.aload_n (k := 0) (pc' := 246) dX12_valley_245 rfl rfl rfl ?_
    refine Ev.getR (pc' := 249) dX12_valley_246 rfl fa_RX12_57 ob_120 fk_12_28 rf_120_28 ?_
    refine Ev.iload_n (k := 1) (pc' := 250) dX12_valley_249 rfl rfl rfl ?_
    refine Ev.iaload (j := _) (pc' := 251) dX12_valley_250 rfl ar_135 h.1 rfl ?_
    have h := h.2
    refine Ev.iastore (j := _) (pc' := 252) dX12_valley_251 rfl ar_139 h.1 rfl (fun I1 eI1 => ?_)
    have h := h.2 I1 eI1
    refine Ev.iinc (k := 1) (v := _) (ls' := [(1, .int _), (0, .ref _)]) (pc' := 255) dX12_valley_252 rfl rfl (congrArg (_ + ·) ki_1) (Nat.le_of_ble_eq_true rfl) rfl ?_
    refine Ev.goto (tgt := 234) dX12_valley_255 rfl ?_
    exact Ev.sub [1, 0] rfl (hP234 _ _ _ h)
set_option maxRecDepth 10000 in
theorem okX12_valley_h234 {G : Gx} {Q : Int32 → Ix → Lx → Prop} {v1 : Int32} {I : Ix} {L : Lx} (h : wpX12_valley_h234 Q v1 I L) : Ef G MX12_valley (qI Q) 234 [(0, .ref 120), (1, .int v1)] [] I L := by
  unfold wpX12_valley_h234 at h
  refine Lfp.ind (P := fun z => Ef G MX12_valley (qI Q) 234 [(0, .ref 120), (1, .int z.1)] [] z.2.1 z.2.2) ?_ h
  intro z P' hP' h
  obtain ⟨v1, I, L⟩ := z
  exact okX12_valley_l234 (fun v1 I L h9 => hP' (v1, I, L) h9) h
set_option maxRecDepth 10000 in
theorem okX12_valley_l208 {G : Gx} {Q : Int32 → Ix → Lx → Prop} {P208 : Int32 → Ix → Lx → Prop} (hP208 : ∀ (v1 : Int32) (I : Ix) (L : Lx), P208 v1 I L → Ef G MX12_valley (qI Q) 208 [(0, .ref 120), (1, .int v1)] [] I L) {v1 : Int32} {I : Ix} {L : Lx} (h : wpX12_valley_l208 Q P208 v1 I L) : Ef G MX12_valley (qI Q) 208 [(0, .ref 120), (1, .int v1)] [] I L := by
  unfold wpX12_valley_l208 at h
  refine Ev.iload_n (k := 1) (pc' := 209) dX12_valley_208 rfl rfl rfl ?_
  refine Ev.bipush (pc' := 211) dX12_valley_209 rfl kb_8 ?_
  refine Ev.icmp_ge (pc' := 214) (tgt := 232) dX12_valley_211 rfl rfl (fun hc => ?_) (fun hc => ?_)
  · have h := h.1 hc
    refine Ev.iconst (pc' := 233) dX12_valley_232 rfl ki_0 ?_
    refine Ev.istore_n (ls' := [(1, .int _), (0, .ref _)]) (pc' := 234) dX12_valley_233 rfl rfl (Nat.le_of_ble_eq_true rfl) rfl ?_
    exact Ev.sub [1, 0] rfl (okX12_valley_h234 h)
  · have h := h.2 hc
    refine Ev.aload_n (k := 0) (pc' := 215) dX12_valley_214 rfl rfl rfl ?_
    refine Ev.getR (pc' := 218) dX12_valley_215 rfl fa_RX12_66 ob_120 fk_12_31 rf_120_31 ?_
    refine Ev.iload_n (k := 1) (pc' := 219) dX12_valley_218 rfl rfl rfl ?_
    refine Ev.aload_n (k := 0) (pc' := 220) dX12_valley_219 rfl rfl rfl ?_
    refine Ev.getR (pc' := 223) dX12_valley_220 rfl fa_RX12_54 ob_120 fk_12_27 rf_120_27 ?_
    refine Ev.iload_n (k := 1) (pc' := 224) dX12_valley_223 rfl rfl rfl ?_
    refine Ev.iaload (j := _) (pc' := 225) dX12_valley_224 rfl ar_134 h.1 rfl ?_
    have h := h.2
    refine Ev.iastore (j := _) (pc' := 226) dX12_valley_225 rfl ar_138 h.1 rfl (fun I1 eI1 => ?_)
    have h := h.2 I1 eI1
    refine Ev.iinc (k := 1) (v := _) (ls' := [(1, .int _), (0, .ref _)]) (pc' := 229) dX12_valley_226 rfl rfl (congrArg (_ + ·) ki_1) (Nat.le_of_ble_eq_true rfl) rfl ?_
    refine Ev.goto (tgt := 208) dX12_valley_229 rfl ?_
    exact Ev.sub [1, 0] rfl (hP208 _ _ _ h)
set_option maxRecDepth 10000 in
theorem okX12_valley_h208 {G : Gx} {Q : Int32 → Ix → Lx → Prop} {v1 : Int32} {I : Ix} {L : Lx} (h : wpX12_valley_h208 Q v1 I L) : Ef G MX12_valley (qI Q) 208 [(0, .ref 120), (1, .int v1)] [] I L := by
  unfold wpX12_valley_h208 at h
  refine Lfp.ind (P := fun z => Ef G MX12_valley (qI Q) 208 [(0, .ref 120), (1, .int z.1)] [] z.2.1 z.2.2) ?_ h
  intro z P' hP' h
  obtain ⟨v1, I, L⟩ := z
  exact okX12_valley_l208 (fun v1 I L h9 => hP' (v1, I, L) h9) h
set_option maxRecDepth 10000 in
theorem okX12_valley_b141 {G : Gx} {Q : Int32 → Ix → Lx → Prop} {I : Ix} {L : Lx} (h : wpX12_valley_b141 Q I L) : Ef G MX12_valley (qI Q) 141 [(0, .ref 120)] [] I L := by
  unfold wpX12_valley_b141 at h
  refine Ev.aload_n (k := 0) (pc' := 142) dX12_valley_141 rfl rfl rfl ?_
  refine Ev.getI (pc' := 145) dX12_valley_142 rfl fa_RX12_236 ob_120 fk_12_2 ?_
  refine Ev.if_le (pc' := 148) (tgt := 150) dX12_valley_145 rfl rfl (fun hc => ?_) (fun hc => ?_)
  · have h := h.1 hc
    refine Ev.aload_n (k := 0) (pc' := 151) dX12_valley_150 rfl rfl rfl ?_
    refine Ev.aload_n (k := 0) (pc' := 152) dX12_valley_151 rfl rfl rfl ?_
    refine Ev.getI (pc' := 155) dX12_valley_152 rfl fa_RX12_371 ob_120 fk_12_36 ?_
    refine Ev.putI (pc' := 158) dX12_valley_155 rfl fa_RX12_431 ob_120 fk_12_42 rfl rfl (fun I1 eI1 => ?_)
    have h := h I1 eI1
    refine Ev.aload_n (k := 0) (pc' := 159) dX12_valley_158 rfl rfl rfl ?_
    refine Ev.aload_n (k := 0) (pc' := 160) dX12_valley_159 rfl rfl rfl ?_
    refine Ev.getI (pc' := 163) dX12_valley_160 rfl fa_RX12_385 ob_120 fk_12_37 ?_
    refine Ev.putI (pc' := 166) dX12_valley_163 rfl fa_RX12_434 ob_120 fk_12_43 rfl rfl (fun I2 eI2 => ?_)
    have h := h I2 eI2
    refine Ev.aload_n (k := 0) (pc' := 167) dX12_valley_166 rfl rfl rfl ?_
    refine Ev.aload_n (k := 0) (pc' := 168) dX12_valley_167 rfl rfl rfl ?_
    refine Ev.getI (pc' := 171) dX12_valley_168 rfl fa_RX12_388 ob_120 fk_12_38 ?_
    refine Ev.putI (pc' := 174) dX12_valley_171 rfl fa_RX12_437 ob_120 fk_12_44 rfl rfl (fun I3 eI3 => ?_)
    have h := h I3 eI3
    refine Ev.aload_n (k := 0) (pc' := 175) dX12_valley_174 rfl rfl rfl ?_
    refine Ev.aload_n (k := 0) (pc' := 176) dX12_valley_175 rfl rfl rfl ?_
    refine Ev.getI (pc' := 179) dX12_valley_176 rfl fa_RX12_355 ob_120 fk_12_39 ?_
    refine Ev.putI (pc' := 182) dX12_valley_179 rfl fa_RX12_440 ob_120 fk_12_45 rfl rfl (fun I4 eI4 => ?_)
    have h := h I4 eI4
    refine Ev.aload_n (k := 0) (pc' := 183) dX12_valley_182 rfl rfl rfl ?_
    refine Ev.aload_n (k := 0) (pc' := 184) dX12_valley_183 rfl rfl rfl ?_
    refine Ev.getI (pc' := 187) dX12_valley_184 rfl fa_RX12_401 ob_120 fk_12_40 ?_
    refine Ev.putI (pc' := 190) dX12_valley_187 rfl fa_RX12_443 ob_120 fk_12_46 rfl rfl (fun I5 eI5 => ?_)
    have h := h I5 eI5
    refine Ev.aload_n (k := 0) (pc' := 191) dX12_valley_190 rfl rfl rfl ?_
    refine Ev.aload_n (k := 0) (pc' := 192) dX12_valley_191 rfl rfl rfl ?_
    refine Ev.getI (pc' := 195) dX12_valley_192 rfl fa_RX12_407 ob_120 fk_12_41 ?_
    refine Ev.putI (pc' := 198) dX12_valley_195 rfl fa_RX12_446 ob_120 fk_12_47 rfl rfl (fun I6 eI6 => ?_)
    have h := h I6 eI6
    refine Ev.aload_n (k := 0) (pc' := 199) dX12_valley_198 rfl rfl rfl ?_
    refine Ev.aload_n (k := 0) (pc' := 200) dX12_valley_199 rfl rfl rfl ?_
    refine Ev.getI (pc' := 203) dX12_valley_200 rfl fa_RX12_339 ob_120 fk_12_20 ?_
    refine Ev.putI (pc' := 206) dX12_valley_203 rfl fa_RX12_449 ob_120 fk_12_21 rfl rfl (fun I7 eI7 => ?_)
    have h := h I7 eI7
    refine Ev.iconst (pc' := 207) dX12_valley_206 rfl ki_0 ?_
    refine Ev.istore_n (ls' := [(1, .int _), (0, .ref _)]) (pc' := 208) dX12_valley_207 rfl rfl (Nat.le_of_ble_eq_true rfl) rfl ?_
    exact Ev.sub [1, 0] rfl (okX12_valley_h208 h)
  · have h := h.2 hc
    refine Ev.iconst (pc' := 149) dX12_valley_148 rfl ki_m1 ?_
    exact Ef.iret dX12_valley_149 rfl h
set_option maxRecDepth 10000 in
theorem okX12_valley_l120 {G : Gx} {Q : Int32 → Ix → Lx → Prop} {P120 : Ix → Lx → Prop} (hP120 : ∀ (I : Ix) (L : Lx), P120 I L → Ef G MX12_valley (qI Q) 120 [(0, .ref 120)] [] I L) {I : Ix} {L : Lx} (h : wpX12_valley_l120 Q P120 I L) : Ef G MX12_valley (qI Q) 120 [(0, .ref 120)] [] I L := by
  unfold wpX12_valley_l120 at h
  refine Ev.aload_n (k := 0) (pc' := 121) dX12_valley_120 rfl rfl rfl ?_
  refine Ev.getI (pc' := 124) dX12_valley_121 rfl fa_RX12_236 ob_120 fk_12_2 ?_
  refine Ev.if_ne (pc' := 127) (tgt := 141) dX12_valley_124 rfl rfl (fun hc => ?_) (fun hc => ?_)
  · have h := h.1 hc
    exact okX12_valley_b141 h
  · have h := h.2 hc
    refine Ev.aload_n (k := 0) (pc' := 128) dX12_valley_127 rfl rfl rfl ?_
    refine Ev.getI (pc' := 131) dX12_valley_128 rfl fa_RX12_223 ob_120 fk_12_6 ?_
    refine Ev.if_eq (pc' := 134) (tgt := 141) dX12_valley_131 rfl rfl (fun hc => ?_) (fun hc => ?_)
    · have h := h.1 hc
      exact okX12_valley_b141 h
    · have h := h.2 hc
      refine Ev.aload_n (k := 0) (pc' := 135) dX12_valley_134 rfl rfl rfl ?_
      refine Ef.callVV [] [] (pc' := 138) dX12_valley_135 rfl cv_RX12_428_X12_readLine ⟨Nat.le_of_ble_eq_true rfl, Nat.le_of_ble_eq_true rfl⟩ ob_120 rfl rfl rfl (Nat.le_of_ble_eq_true rfl) (okX12_readLine h) (fun I1 L2 h => ?_)
      refine Ev.goto (tgt := 120) dX12_valley_138 rfl ?_
      exact hP120 _ _ h
set_option maxRecDepth 10000 in
theorem okX12_valley_h120 {G : Gx} {Q : Int32 → Ix → Lx → Prop} {I : Ix} {L : Lx} (h : wpX12_valley_h120 Q I L) : Ef G MX12_valley (qI Q) 120 [(0, .ref 120)] [] I L := by
  unfold wpX12_valley_h120 at h
  refine Lfp.ind (P := fun z => Ef G MX12_valley (qI Q) 120 [(0, .ref 120)] [] z.1 z.2) ?_ h
  intro z P' hP' h
  obtain ⟨I, L⟩ := z
  exact okX12_valley_l120 (fun I L h9 => hP' (I, L) h9) h
set_option maxRecDepth 10000 in
theorem okX12_valley_b109 {G : Gx} {Q : Int32 → Ix → Lx → Prop} {P80 : Int32 → Ix → Lx → Prop} (hP80 : ∀ (v1 : Int32) (I : Ix) (L : Lx), P80 v1 I L → Ef G MX12_valley (qI Q) 80 [(0, .ref 120), (1, .int v1)] [] I L) {v1 : Int32} {t1 : Int32} {t2 : Int32} {I : Ix} {L : Lx} (h : wpX12_valley_b109 Q P80 v1 t1 t2 I L) : Ef G MX12_valley (qI Q) 109 [(0, .ref 120), (1, .int v1)] [.int t2, .int t1, .ref 135] I L := by
  unfold wpX12_valley_b109 at h
  refine Ev.iastore (j := _) (pc' := 110) dX12_valley_109 rfl ar_135 h.1 rfl (fun I1 eI1 => ?_)
  have h := h.2 I1 eI1
  refine Ev.iinc (k := 1) (v := _) (ls' := [(1, .int _), (0, .ref _)]) (pc' := 113) dX12_valley_110 rfl rfl (congrArg (_ + ·) ki_1) (Nat.le_of_ble_eq_true rfl) rfl ?_
  refine Ev.goto (tgt := 80) dX12_valley_113 rfl ?_
  exact Ev.sub [1, 0] rfl (hP80 _ _ _ h)
set_option maxRecDepth 10000 in
theorem okX12_valley_l80 {G : Gx} {Q : Int32 → Ix → Lx → Prop} {P80 : Int32 → Ix → Lx → Prop} (hP80 : ∀ (v1 : Int32) (I : Ix) (L : Lx), P80 v1 I L → Ef G MX12_valley (qI Q) 80 [(0, .ref 120), (1, .int v1)] [] I L) {v1 : Int32} {I : Ix} {L : Lx} (h : wpX12_valley_l80 Q P80 v1 I L) : Ef G MX12_valley (qI Q) 80 [(0, .ref 120), (1, .int v1)] [] I L := by
  unfold wpX12_valley_l80 at h
  refine Ev.iload_n (k := 1) (pc' := 81) dX12_valley_80 rfl rfl rfl ?_
  refine Ev.bipush (pc' := 83) dX12_valley_81 rfl kb_64 ?_
  refine Ev.icmp_ge (pc' := 86) (tgt := 116) dX12_valley_83 rfl rfl (fun hc => ?_) (fun hc => ?_)
  · have h := h.1 hc
    refine Ev.aload_n (k := 0) (pc' := 117) dX12_valley_116 rfl rfl rfl ?_
    refine Ef.callVV [] [] (pc' := 120) dX12_valley_117 rfl cv_RX12_302_X12_token ⟨Nat.le_of_ble_eq_true rfl, Nat.le_of_ble_eq_true rfl⟩ ob_120 rfl rfl rfl (Nat.le_of_ble_eq_true rfl) (okX12_token h) (fun I1 L2 h => ?_)
    exact Ev.sub [0] rfl (okX12_valley_h120 h)
  · have h := h.2 hc
    refine Ev.aload_n (k := 0) (pc' := 87) dX12_valley_86 rfl rfl rfl ?_
    refine Ev.getR (pc' := 90) dX12_valley_87 rfl fa_RX12_57 ob_120 fk_12_28 rf_120_28 ?_
    refine Ev.iload_n (k := 1) (pc' := 91) dX12_valley_90 rfl rfl rfl ?_
    refine Ev.iload_n (k := 1) (pc' := 92) dX12_valley_91 rfl rfl rfl ?_
    refine Ev.bipush (pc' := 94) dX12_valley_92 rfl kb_8 ?_
    refine Ev.idiv (pc' := 95) dX12_valley_94 rfl (by decide) ?_
    refine Ev.iload_n (k := 1) (pc' := 96) dX12_valley_95 rfl rfl rfl ?_
    refine Ev.bipush (pc' := 98) dX12_valley_96 rfl kb_8 ?_
    refine Ev.irem (pc' := 99) dX12_valley_98 rfl (by decide) ?_
    refine Ev.icmp_ne (pc' := 102) (tgt := 106) dX12_valley_99 rfl rfl (fun hc => ?_) (fun hc => ?_)
    · have h := h.1 hc
      refine Ev.sipush (pc' := 109) dX12_valley_106 rfl ks_999 ?_
      exact okX12_valley_b109 hP80 h
    · have h := h.2 hc
      refine Ev.iconst (pc' := 103) dX12_valley_102 rfl ki_0 ?_
      refine Ev.goto (tgt := 109) dX12_valley_103 rfl ?_
      exact okX12_valley_b109 hP80 h
set_option maxRecDepth 10000 in
theorem okX12_valley_h80 {G : Gx} {Q : Int32 → Ix → Lx → Prop} {v1 : Int32} {I : Ix} {L : Lx} (h : wpX12_valley_h80 Q v1 I L) : Ef G MX12_valley (qI Q) 80 [(0, .ref 120), (1, .int v1)] [] I L := by
  unfold wpX12_valley_h80 at h
  refine Lfp.ind (P := fun z => Ef G MX12_valley (qI Q) 80 [(0, .ref 120), (1, .int z.1)] [] z.2.1 z.2.2) ?_ h
  intro z P' hP' h
  obtain ⟨v1, I, L⟩ := z
  exact okX12_valley_l80 (fun v1 I L h9 => hP' (v1, I, L) h9) h
set_option maxRecDepth 10000 in
theorem okX12_valley {G : Gx} {I : Ix} {L : Lx} {Q : Int32 → Ix → Lx → Prop} (h : wpX12_valley I L Q) : Mf G MX12_valley [.ref 120] I L (qI Q) := by
  unfold wpX12_valley at h
  refine Mf.of pn_RX12 (Nat.le_of_ble_eq_true rfl) ?_
  refine Ev.aload_n (k := 0) (pc' := 1) dX12_valley_0 rfl rfl rfl ?_
  refine Ev.aload_n (k := 0) (pc' := 2) dX12_valley_1 rfl rfl rfl ?_
  refine Ev.getI (pc' := 5) dX12_valley_2 rfl fa_RX12_196 ob_120 fk_12_1 ?_
  refine Ev.putI (pc' := 8) dX12_valley_5 rfl fa_RX12_206 ob_120 fk_12_5 rfl rfl (fun I1 eI1 => ?_)
  have h := h I1 eI1
  refine Ev.aload_n (k := 0) (pc' := 9) dX12_valley_8 rfl rfl rfl ?_
  refine Ev.iconst (pc' := 10) dX12_valley_9 rfl ki_0 ?_
  refine Ev.putI (pc' := 13) dX12_valley_10 rfl fa_RX12_196 ob_120 fk_12_1 rfl rfl (fun I2 eI2 => ?_)
  have h := h I2 eI2
  refine Ev.aload_n (k := 0) (pc' := 14) dX12_valley_13 rfl rfl rfl ?_
  refine Ev.iconst (pc' := 15) dX12_valley_14 rfl ki_0 ?_
  refine Ev.putI (pc' := 18) dX12_valley_15 rfl fa_RX12_203 ob_120 fk_12_4 rfl rfl (fun I3 eI3 => ?_)
  have h := h I3 eI3
  refine Ev.aload_n (k := 0) (pc' := 19) dX12_valley_18 rfl rfl rfl ?_
  refine Ev.iconst (pc' := 20) dX12_valley_19 rfl ki_0 ?_
  refine Ev.putI (pc' := 23) dX12_valley_20 rfl fa_RX12_236 ob_120 fk_12_2 rfl rfl (fun I4 eI4 => ?_)
  have h := h I4 eI4
  refine Ev.aload_n (k := 0) (pc' := 24) dX12_valley_23 rfl rfl rfl ?_
  refine Ev.iconst (pc' := 25) dX12_valley_24 rfl ki_m1 ?_
  refine Ev.putI (pc' := 28) dX12_valley_25 rfl fa_RX12_13 ob_120 fk_12_3 rfl rfl (fun I5 eI5 => ?_)
  have h := h I5 eI5
  refine Ev.aload_n (k := 0) (pc' := 29) dX12_valley_28 rfl rfl rfl ?_
  refine Ev.iconst (pc' := 30) dX12_valley_29 rfl ki_0 ?_
  refine Ev.putI (pc' := 33) dX12_valley_30 rfl fa_RX12_313 ob_120 fk_12_19 rfl rfl (fun I6 eI6 => ?_)
  have h := h I6 eI6
  refine Ev.aload_n (k := 0) (pc' := 34) dX12_valley_33 rfl rfl rfl ?_
  refine Ev.iconst (pc' := 35) dX12_valley_34 rfl ki_0 ?_
  refine Ev.putI (pc' := 38) dX12_valley_35 rfl fa_RX12_339 ob_120 fk_12_20 rfl rfl (fun I7 eI7 => ?_)
  have h := h I7 eI7
  refine Ev.aload_n (k := 0) (pc' := 39) dX12_valley_38 rfl rfl rfl ?_
  refine Ev.iconst (pc' := 40) dX12_valley_39 rfl ki_0 ?_
  refine Ev.putI (pc' := 43) dX12_valley_40 rfl fa_RX12_371 ob_120 fk_12_36 rfl rfl (fun I8 eI8 => ?_)
  have h := h I8 eI8
  refine Ev.aload_n (k := 0) (pc' := 44) dX12_valley_43 rfl rfl rfl ?_
  refine Ev.iconst (pc' := 45) dX12_valley_44 rfl ki_0 ?_
  refine Ev.putI (pc' := 48) dX12_valley_45 rfl fa_RX12_385 ob_120 fk_12_37 rfl rfl (fun I9 eI9 => ?_)
  have h := h I9 eI9
  refine Ev.aload_n (k := 0) (pc' := 49) dX12_valley_48 rfl rfl rfl ?_
  refine Ev.iconst (pc' := 50) dX12_valley_49 rfl ki_0 ?_
  refine Ev.putI (pc' := 53) dX12_valley_50 rfl fa_RX12_388 ob_120 fk_12_38 rfl rfl (fun I10 eI10 => ?_)
  have h := h I10 eI10
  refine Ev.aload_n (k := 0) (pc' := 54) dX12_valley_53 rfl rfl rfl ?_
  refine Ev.iconst (pc' := 55) dX12_valley_54 rfl ki_0 ?_
  refine Ev.putI (pc' := 58) dX12_valley_55 rfl fa_RX12_355 ob_120 fk_12_39 rfl rfl (fun I11 eI11 => ?_)
  have h := h I11 eI11
  refine Ev.aload_n (k := 0) (pc' := 59) dX12_valley_58 rfl rfl rfl ?_
  refine Ev.iconst (pc' := 60) dX12_valley_59 rfl ki_0 ?_
  refine Ev.putI (pc' := 63) dX12_valley_60 rfl fa_RX12_401 ob_120 fk_12_40 rfl rfl (fun I12 eI12 => ?_)
  have h := h I12 eI12
  refine Ev.aload_n (k := 0) (pc' := 64) dX12_valley_63 rfl rfl rfl ?_
  refine Ev.iconst (pc' := 65) dX12_valley_64 rfl ki_0 ?_
  refine Ev.putI (pc' := 68) dX12_valley_65 rfl fa_RX12_407 ob_120 fk_12_41 rfl rfl (fun I13 eI13 => ?_)
  have h := h I13 eI13
  refine Ev.aload_n (k := 0) (pc' := 69) dX12_valley_68 rfl rfl rfl ?_
  refine Ev.iconst (pc' := 70) dX12_valley_69 rfl ki_0 ?_
  refine Ev.putI (pc' := 73) dX12_valley_70 rfl fa_RX12_397 ob_120 fk_12_48 rfl rfl (fun I14 eI14 => ?_)
  have h := h I14 eI14
  refine Ev.aload_n (k := 0) (pc' := 74) dX12_valley_73 rfl rfl rfl ?_
  refine Ev.iconst (pc' := 75) dX12_valley_74 rfl ki_0 ?_
  refine Ev.putI (pc' := 78) dX12_valley_75 rfl fa_RX12_404 ob_120 fk_12_49 rfl rfl (fun I15 eI15 => ?_)
  have h := h I15 eI15
  refine Ev.iconst (pc' := 79) dX12_valley_78 rfl ki_0 ?_
  refine Ev.istore_n (ls' := [(1, .int _), (0, .ref _)]) (pc' := 80) dX12_valley_79 rfl rfl (Nat.le_of_ble_eq_true rfl) rfl ?_
  exact Ev.sub [1, 0] rfl (okX12_valley_h80 h)
def wpX12_fault (a1 : Int32) (I : Ix) (L : Lx) (Q : Int32 → Ix → Lx → Prop) : Prop := (¬ a1 = 0 → (¬ a1 = 1 → Q (-1) I L) ∧ (a1 = 1 → Q (I 120 3) I L)) ∧ (a1 = 0 → Q (I 120 2) I L)
set_option maxRecDepth 10000 in
theorem okX12_fault {G : Gx} {a1 : Int32} {I : Ix} {L : Lx} {Q : Int32 → Ix → Lx → Prop} (h : wpX12_fault a1 I L Q) : Mf G MX12_fault [.ref 120, .int a1] I L (qI Q) := by
  unfold wpX12_fault at h
  refine Mf.of pn_RX12 (Nat.le_of_ble_eq_true rfl) ?_
  refine Ev.iload_n (k := 1) (pc' := 1) dX12_fault_0 rfl rfl rfl ?_
  refine Ev.if_ne (pc' := 4) (tgt := 11) dX12_fault_1 rfl rfl (fun hc => ?_) (fun hc => ?_)
  · have h := h.1 hc
    refine Ev.iload_n (k := 1) (pc' := 12) dX12_fault_11 rfl rfl rfl ?_
    refine Ev.iconst (pc' := 13) dX12_fault_12 rfl ki_1 ?_
    refine Ev.icmp_ne (pc' := 16) (tgt := 23) dX12_fault_13 rfl rfl (fun hc => ?_) (fun hc => ?_)
    · have h := h.1 hc
      refine Ev.iconst (pc' := 24) dX12_fault_23 rfl ki_m1 ?_
      exact Ef.iret dX12_fault_24 rfl h
    · have h := h.2 hc
      refine Ev.aload_n (k := 0) (pc' := 17) dX12_fault_16 rfl rfl rfl ?_
      refine Ev.getI (pc' := 20) dX12_fault_17 rfl fa_RX12_13 ob_120 fk_12_3 ?_
      refine Ev.goto (tgt := 24) dX12_fault_20 rfl ?_
      exact Ef.iret dX12_fault_24 rfl h
  · have h := h.2 hc
    refine Ev.aload_n (k := 0) (pc' := 5) dX12_fault_4 rfl rfl rfl ?_
    refine Ev.getI (pc' := 8) dX12_fault_5 rfl fa_RX12_236 ob_120 fk_12_2 ?_
    refine Ev.goto (tgt := 24) dX12_fault_8 rfl ?_
    exact Ef.iret dX12_fault_24 rfl h
def wpX12_isPlace (a1 : Int32) (I : Ix) (L : Lx) (Q : Bool → Ix → Lx → Prop) : Prop := (a1 < 0 → Q false I L) ∧ (¬ a1 < 0 → ((I 120 42) ≤ a1 → Q false I L) ∧ (¬ (I 120 42) ≤ a1 → Q true I L))
set_option maxRecDepth 10000 in
theorem okX12_isPlace {G : Gx} {a1 : Int32} {I : Ix} {L : Lx} {Q : Bool → Ix → Lx → Prop} (h : wpX12_isPlace a1 I L Q) : Mf G MX12_isPlace [.ref 120, .int a1] I L (qZ Q) := by
  unfold wpX12_isPlace at h
  refine Mf.of pn_RX12 (Nat.le_of_ble_eq_true rfl) ?_
  refine Ev.iload_n (k := 1) (pc' := 1) dX12_isPlace_0 rfl rfl rfl ?_
  refine Ev.if_lt (pc' := 4) (tgt := 16) dX12_isPlace_1 rfl rfl (fun hc => ?_) (fun hc => ?_)
  · have h := h.1 hc
    refine Ev.iconst (pc' := 17) dX12_isPlace_16 rfl ki_0 ?_
    exact Ef.zret (b := false) dX12_isPlace_17 rfl h
  · have h := h.2 hc
    refine Ev.iload_n (k := 1) (pc' := 5) dX12_isPlace_4 rfl rfl rfl ?_
    refine Ev.aload_n (k := 0) (pc' := 6) dX12_isPlace_5 rfl rfl rfl ?_
    refine Ev.getI (pc' := 9) dX12_isPlace_6 rfl fa_RX12_431 ob_120 fk_12_42 ?_
    refine Ev.icmp_ge (pc' := 12) (tgt := 16) dX12_isPlace_9 rfl rfl (fun hc => ?_) (fun hc => ?_)
    · have h := h.1 hc
      refine Ev.iconst (pc' := 17) dX12_isPlace_16 rfl ki_0 ?_
      exact Ef.zret (b := false) dX12_isPlace_17 rfl h
    · have h := h.2 hc
      refine Ev.iconst (pc' := 13) dX12_isPlace_12 rfl ki_1 ?_
      refine Ev.goto (tgt := 17) dX12_isPlace_13 rfl ?_
      exact Ef.zret (b := true) dX12_isPlace_17 rfl h
def wpX12_farOf (a1 : Int32) (a2 : Int32) (I : Ix) (L : Lx) (Q : Int32 → Ix → Lx → Prop) : Prop := vp_in ((8 * a1) + a2) 64 ∧ Q (I 140 ((8 * a1) + a2).toNatClampNeg) I L
set_option maxRecDepth 10000 in
theorem okX12_farOf {G : Gx} {a1 : Int32} {a2 : Int32} {I : Ix} {L : Lx} {Q : Int32 → Ix → Lx → Prop} (h : wpX12_farOf a1 a2 I L Q) : Mf G MX12_farOf [.ref 120, .int a1, .int a2] I L (qI Q) := by
  unfold wpX12_farOf at h
  refine Mf.of pn_RX12 (Nat.le_of_ble_eq_true rfl) ?_
  refine Ev.aload_n (k := 0) (pc' := 1) dX12_farOf_0 rfl rfl rfl ?_
  refine Ev.getR (pc' := 4) dX12_farOf_1 rfl fa_RX12_72 ob_120 fk_12_33 rf_120_33 ?_
  refine Ev.bipush (pc' := 6) dX12_farOf_4 rfl kb_8 ?_
  refine Ev.iload_n (k := 1) (pc' := 7) dX12_farOf_6 rfl rfl rfl ?_
  refine Ev.imul (pc' := 8) dX12_farOf_7 rfl ?_
  refine Ev.iload_n (k := 2) (pc' := 9) dX12_farOf_8 rfl rfl rfl ?_
  refine Ev.iadd (pc' := 10) dX12_farOf_9 rfl ?_
  refine Ev.iaload (j := _) (pc' := 11) dX12_farOf_10 rfl ar_140 h.1 rfl ?_
  have h := h.2
  exact Ef.iret dX12_farOf_11 rfl h
def wpX12_far (a1 : Int32) (a2 : Int32) (I : Ix) (L : Lx) (Q : Int32 → Ix → Lx → Prop) : Prop := wpX12_isPlace a1 I L (fun r3 I1 L2 => (r3 = false → Q (-1) I1 L2) ∧ (r3 = true → wpX12_isPlace a2 I1 L2 (fun r6 I4 L5 => (r6 = false → Q (-1) I4 L5) ∧ (r6 = true → wpX12_farOf a1 a2 I4 L5 (fun r9 I7 L8 => Q r9 I7 L8)))))
set_option maxRecDepth 10000 in
theorem okX12_far {G : Gx} {a1 : Int32} {a2 : Int32} {I : Ix} {L : Lx} {Q : Int32 → Ix → Lx → Prop} (h : wpX12_far a1 a2 I L Q) : Mf G MX12_far [.ref 120, .int a1, .int a2] I L (qI Q) := by
  unfold wpX12_far at h
  refine Mf.of pn_RX12 (Nat.le_of_ble_eq_true rfl) ?_
  refine Ev.aload_n (k := 0) (pc' := 1) dX12_far_0 rfl rfl rfl ?_
  refine Ev.iload_n (k := 1) (pc' := 2) dX12_far_1 rfl rfl rfl ?_
  refine Ef.callVZ [.int _] [] (pc' := 5) dX12_far_2 rfl cv_RX12_458_X12_isPlace ⟨Nat.le_of_ble_eq_true rfl, Nat.le_of_ble_eq_true rfl⟩ ob_120 rfl rfl rfl (Nat.le_of_ble_eq_true rfl) (okX12_isPlace h) (fun r3 I1 L2 h => ?_)
  refine Ef.ifz_eq (pc' := 8) (tgt := 25) dX12_far_5 rfl rfl (fun hc => ?_) (fun hc => ?_)
  · have h := h.1 hc
    refine Ev.iconst (pc' := 26) dX12_far_25 rfl ki_m1 ?_
    exact Ef.iret dX12_far_26 rfl h
  · have h := h.2 hc
    refine Ev.aload_n (k := 0) (pc' := 9) dX12_far_8 rfl rfl rfl ?_
    refine Ev.iload_n (k := 2) (pc' := 10) dX12_far_9 rfl rfl rfl ?_
    refine Ef.callVZ [.int _] [] (pc' := 13) dX12_far_10 rfl cv_RX12_458_X12_isPlace ⟨Nat.le_of_ble_eq_true rfl, Nat.le_of_ble_eq_true rfl⟩ ob_120 rfl rfl rfl (Nat.le_of_ble_eq_true rfl) (okX12_isPlace h) (fun r6 I4 L5 h => ?_)
    refine Ef.ifz_eq (pc' := 16) (tgt := 25) dX12_far_13 rfl rfl (fun hc => ?_) (fun hc => ?_)
    · have h := h.1 hc
      refine Ev.iconst (pc' := 26) dX12_far_25 rfl ki_m1 ?_
      exact Ef.iret dX12_far_26 rfl h
    · have h := h.2 hc
      refine Ev.aload_n (k := 0) (pc' := 17) dX12_far_16 rfl rfl rfl ?_
      refine Ev.iload_n (k := 1) (pc' := 18) dX12_far_17 rfl rfl rfl ?_
      refine Ev.iload_n (k := 2) (pc' := 19) dX12_far_18 rfl rfl rfl ?_
      refine Ef.callVI [.int _, .int _] [] (pc' := 22) dX12_far_19 rfl cv_RX12_461_X12_farOf ⟨Nat.le_of_ble_eq_true rfl, Nat.le_of_ble_eq_true rfl⟩ ob_120 rfl rfl rfl (Nat.le_of_ble_eq_true rfl) (okX12_farOf h) (fun r9 I7 L8 h => ?_)
      refine Ev.goto (tgt := 26) dX12_far_22 rfl ?_
      exact Ef.iret dX12_far_26 rfl h
def wpX12_allMade_l4 (Q : Int32 → Ix → Lx → Prop) (P4 : Int32 → Int32 → Ix → Lx → Prop) (v1 : Int32) (v2 : Int32) (I : Ix) (L : Lx) : Prop := ((I 120 45) ≤ v2 → Q v1 I L) ∧ (¬ (I 120 45) ≤ v2 → vp_in v2 6 ∧ P4 (v1 + (I 148 v2.toNatClampNeg)) (v2 + 1) I L)
def wpX12_allMade_h4 (Q : Int32 → Ix → Lx → Prop) (v1 : Int32) (v2 : Int32) (I : Ix) (L : Lx) : Prop := Lfp (X := Int32 × Int32 × Ix × Lx) (fun P z => wpX12_allMade_l4 Q (fun v1 v2 I L => P (v1, v2, I, L)) z.1 z.2.1 z.2.2.1 z.2.2.2) (v1, v2, I, L)
theorem wpX12_allMade_h4_fold {Q : Int32 → Ix → Lx → Prop} {v1 : Int32} {v2 : Int32} {I : Ix} {L : Lx} (h : wpX12_allMade_l4 Q (wpX12_allMade_h4 Q) v1 v2 I L) : wpX12_allMade_h4 Q v1 v2 I L := Lfp.fold h
def wpX12_allMade (I : Ix) (L : Lx) (Q : Int32 → Ix → Lx → Prop) : Prop := wpX12_allMade_h4 Q 0 0 I L
set_option maxRecDepth 10000 in
theorem okX12_allMade_l4 {G : Gx} {Q : Int32 → Ix → Lx → Prop} {P4 : Int32 → Int32 → Ix → Lx → Prop} (hP4 : ∀ (v1 : Int32) (v2 : Int32) (I : Ix) (L : Lx), P4 v1 v2 I L → Ef G MX12_allMade (qI Q) 4 [(0, .ref 120), (1, .int v1), (2, .int v2)] [] I L) {v1 : Int32} {v2 : Int32} {I : Ix} {L : Lx} (h : wpX12_allMade_l4 Q P4 v1 v2 I L) : Ef G MX12_allMade (qI Q) 4 [(0, .ref 120), (1, .int v1), (2, .int v2)] [] I L := by
  unfold wpX12_allMade_l4 at h
  refine Ev.iload_n (k := 2) (pc' := 5) dX12_allMade_4 rfl rfl rfl ?_
  refine Ev.aload_n (k := 0) (pc' := 6) dX12_allMade_5 rfl rfl rfl ?_
  refine Ev.getI (pc' := 9) dX12_allMade_6 rfl fa_RX12_440 ob_120 fk_12_45 ?_
  refine Ev.icmp_ge (pc' := 12) (tgt := 27) dX12_allMade_9 rfl rfl (fun hc => ?_) (fun hc => ?_)
  · have h := h.1 hc
    refine Ev.iload_n (k := 1) (pc' := 28) dX12_allMade_27 rfl rfl rfl ?_
    exact Ef.iret dX12_allMade_28 rfl h
  · have h := h.2 hc
    refine Ev.iload_n (k := 1) (pc' := 13) dX12_allMade_12 rfl rfl rfl ?_
    refine Ev.aload_n (k := 0) (pc' := 14) dX12_allMade_13 rfl rfl rfl ?_
    refine Ev.getR (pc' := 17) dX12_allMade_14 rfl fa_RX12_96 ob_120 fk_12_55 rf_120_55 ?_
    refine Ev.iload_n (k := 2) (pc' := 18) dX12_allMade_17 rfl rfl rfl ?_
    refine Ev.iaload (j := _) (pc' := 19) dX12_allMade_18 rfl ar_148 h.1 rfl ?_
    have h := h.2
    refine Ev.iadd (pc' := 20) dX12_allMade_19 rfl ?_
    refine Ev.istore_n (ls' := [(1, .int _), (0, .ref _), (2, .int _)]) (pc' := 21) dX12_allMade_20 rfl rfl (Nat.le_of_ble_eq_true rfl) rfl ?_
    refine Ev.iinc (k := 2) (v := _) (ls' := [(2, .int _), (1, .int _), (0, .ref _)]) (pc' := 24) dX12_allMade_21 rfl rfl (congrArg (_ + ·) ki_1) (Nat.le_of_ble_eq_true rfl) rfl ?_
    refine Ev.goto (tgt := 4) dX12_allMade_24 rfl ?_
    exact Ev.sub [2, 1, 0] rfl (hP4 _ _ _ _ h)
set_option maxRecDepth 10000 in
theorem okX12_allMade_h4 {G : Gx} {Q : Int32 → Ix → Lx → Prop} {v1 : Int32} {v2 : Int32} {I : Ix} {L : Lx} (h : wpX12_allMade_h4 Q v1 v2 I L) : Ef G MX12_allMade (qI Q) 4 [(0, .ref 120), (1, .int v1), (2, .int v2)] [] I L := by
  unfold wpX12_allMade_h4 at h
  refine Lfp.ind (P := fun z => Ef G MX12_allMade (qI Q) 4 [(0, .ref 120), (1, .int z.1), (2, .int z.2.1)] [] z.2.2.1 z.2.2.2) ?_ h
  intro z P' hP' h
  obtain ⟨v1, v2, I, L⟩ := z
  exact okX12_allMade_l4 (fun v1 v2 I L h9 => hP' (v1, v2, I, L) h9) h
set_option maxRecDepth 10000 in
theorem okX12_allMade {G : Gx} {I : Ix} {L : Lx} {Q : Int32 → Ix → Lx → Prop} (h : wpX12_allMade I L Q) : Mf G MX12_allMade [.ref 120] I L (qI Q) := by
  unfold wpX12_allMade at h
  refine Mf.of pn_RX12 (Nat.le_of_ble_eq_true rfl) ?_
  refine Ev.iconst (pc' := 1) dX12_allMade_0 rfl ki_0 ?_
  refine Ev.istore_n (ls' := [(1, .int _), (0, .ref _)]) (pc' := 2) dX12_allMade_1 rfl rfl (Nat.le_of_ble_eq_true rfl) rfl ?_
  refine Ev.iconst (pc' := 3) dX12_allMade_2 rfl ki_0 ?_
  refine Ev.istore_n (ls' := [(2, .int _), (1, .int _), (0, .ref _)]) (pc' := 4) dX12_allMade_3 rfl rfl (Nat.le_of_ble_eq_true rfl) rfl ?_
  exact Ev.sub [2, 1, 0] rfl (okX12_allMade_h4 h)
def wpX12_placeOf (a1 : Int32) (I : Ix) (L : Lx) (Q : Int32 → Ix → Lx → Prop) : Prop := vp_in (5 * a1) 50 ∧ Q (I 141 (5 * a1).toNatClampNeg) I L
set_option maxRecDepth 10000 in
theorem okX12_placeOf {G : Gx} {a1 : Int32} {I : Ix} {L : Lx} {Q : Int32 → Ix → Lx → Prop} (h : wpX12_placeOf a1 I L Q) : Mf G MX12_placeOf [.ref 120, .int a1] I L (qI Q) := by
  unfold wpX12_placeOf at h
  refine Mf.of pn_RX12 (Nat.le_of_ble_eq_true rfl) ?_
  refine Ev.aload_n (k := 0) (pc' := 1) dX12_placeOf_0 rfl rfl rfl ?_
  refine Ev.getR (pc' := 4) dX12_placeOf_1 rfl fa_RX12_75 ob_120 fk_12_34 rf_120_34 ?_
  refine Ev.iconst (pc' := 5) dX12_placeOf_4 rfl ki_5 ?_
  refine Ev.iload_n (k := 1) (pc' := 6) dX12_placeOf_5 rfl rfl rfl ?_
  refine Ev.imul (pc' := 7) dX12_placeOf_6 rfl ?_
  refine Ev.iaload (j := _) (pc' := 8) dX12_placeOf_7 rfl ar_141 h.1 rfl ?_
  have h := h.2
  exact Ef.iret dX12_placeOf_8 rfl h
def wpX12_worked_b56 (Q : Int32 → Ix → Lx → Prop) (I : Ix) (L : Lx) : Prop := Q 1 I L
def wpX12_worked (a0 : Int32) (a1 : Int32) (a2 : Int32) (I : Ix) (L : Lx) (Q : Int32 → Ix → Lx → Prop) : Prop := (a0 = 20 → (¬ a1 = 0 → wpX12_worked_b56 Q I L) ∧ (a1 = 0 → (a2 = 0 → Q 0 I L) ∧ (¬ a2 = 0 → wpX12_worked_b56 Q I L))) ∧ (a0 = 21 → (a1 = 0 → Q 0 I L) ∧ (¬ a1 = 0 → (a2 = 0 → Q 0 I L) ∧ (¬ a2 = 0 → Q 1 I L))) ∧ (a0 = 23 → (¬ a1 = a2 → Q 0 I L) ∧ (a1 = a2 → Q 1 I L)) ∧ (a0 = 24 → (a2 ≤ a1 → Q 0 I L) ∧ (¬ a2 ≤ a1 → Q 1 I L)) ∧ (a0 = 25 → (a1 ≤ a2 → Q 0 I L) ∧ (¬ a1 ≤ a2 → Q 1 I L)) ∧ (a0 = 26 → Q (a1 + a2) I L) ∧ (a0 = 27 → Q (a1 - a2) I L) ∧ (¬ a0 = 20 → ¬ a0 = 21 → ¬ a0 = 23 → ¬ a0 = 24 → ¬ a0 = 25 → ¬ a0 = 26 → ¬ a0 = 27 → Q (a1 * a2) I L)
set_option maxRecDepth 10000 in
theorem okX12_worked_b56 {G : Gx} {Q : Int32 → Ix → Lx → Prop} {I : Ix} {L : Lx} (h : wpX12_worked_b56 Q I L) : Ef G MX12_worked (qI Q) 56 [] [] I L := by
  unfold wpX12_worked_b56 at h
  refine Ev.iconst (pc' := 57) dX12_worked_56 rfl ki_1 ?_
  refine Ev.goto (tgt := 61) dX12_worked_57 rfl ?_
  exact Ef.iret dX12_worked_61 rfl h
set_option maxRecDepth 10000 in
theorem okX12_worked {G : Gx} {a0 : Int32} {a1 : Int32} {a2 : Int32} {I : Ix} {L : Lx} {Q : Int32 → Ix → Lx → Prop} (h : wpX12_worked a0 a1 a2 I L Q) : Mf G MX12_worked [.int a0, .int a1, .int a2] I L (qI Q) := by
  unfold wpX12_worked at h
  refine Mf.of pn_RX12 (Nat.le_of_ble_eq_true rfl) ?_
  refine Ev.iload_n (k := 0) (pc' := 1) dX12_worked_0 rfl rfl rfl ?_
  by_cases e0 : a0 = 20
  · refine Ev.tableIn (off := 47) (tgt := 48) dX12_worked_1 (by rw [e0]; decide) (by rw [e0]; decide) (by rw [e0]; decide) rfl ?_
    have h := h.1 e0
    refine Ev.iload_n (k := 1) (pc' := 49) dX12_worked_48 rfl rfl rfl ?_
    refine Ev.if_ne (pc' := 52) (tgt := 56) dX12_worked_49 rfl rfl (fun hc => ?_) (fun hc => ?_)
    · have h := h.1 hc
      exact Ev.sub [] rfl (okX12_worked_b56 h)
    · have h := h.2 hc
      refine Ev.iload_n (k := 2) (pc' := 53) dX12_worked_52 rfl rfl rfl ?_
      refine Ev.if_eq (pc' := 56) (tgt := 60) dX12_worked_53 rfl rfl (fun hc => ?_) (fun hc => ?_)
      · have h := h.1 hc
        refine Ev.iconst (pc' := 61) dX12_worked_60 rfl ki_0 ?_
        exact Ef.iret dX12_worked_61 rfl h
      · have h := h.2 hc
        exact Ev.sub [] rfl (okX12_worked_b56 h)
  by_cases e1 : a0 = 21
  · refine Ev.tableIn (off := 61) (tgt := 62) dX12_worked_1 (by rw [e1]; decide) (by rw [e1]; decide) (by rw [e1]; decide) rfl ?_
    have h := h.2.1 e1
    refine Ev.iload_n (k := 1) (pc' := 63) dX12_worked_62 rfl rfl rfl ?_
    refine Ev.if_eq (pc' := 66) (tgt := 74) dX12_worked_63 rfl rfl (fun hc => ?_) (fun hc => ?_)
    · have h := h.1 hc
      refine Ev.iconst (pc' := 75) dX12_worked_74 rfl ki_0 ?_
      exact Ef.iret dX12_worked_75 rfl h
    · have h := h.2 hc
      refine Ev.iload_n (k := 2) (pc' := 67) dX12_worked_66 rfl rfl rfl ?_
      refine Ev.if_eq (pc' := 70) (tgt := 74) dX12_worked_67 rfl rfl (fun hc => ?_) (fun hc => ?_)
      · have h := h.1 hc
        refine Ev.iconst (pc' := 75) dX12_worked_74 rfl ki_0 ?_
        exact Ef.iret dX12_worked_75 rfl h
      · have h := h.2 hc
        refine Ev.iconst (pc' := 71) dX12_worked_70 rfl ki_1 ?_
        refine Ev.goto (tgt := 75) dX12_worked_71 rfl ?_
        exact Ef.iret dX12_worked_75 rfl h
  by_cases e2 : a0 = 23
  · refine Ev.tableIn (off := 75) (tgt := 76) dX12_worked_1 (by rw [e2]; decide) (by rw [e2]; decide) (by rw [e2]; decide) rfl ?_
    have h := h.2.2.1 e2
    refine Ev.iload_n (k := 1) (pc' := 77) dX12_worked_76 rfl rfl rfl ?_
    refine Ev.iload_n (k := 2) (pc' := 78) dX12_worked_77 rfl rfl rfl ?_
    refine Ev.icmp_ne (pc' := 81) (tgt := 85) dX12_worked_78 rfl rfl (fun hc => ?_) (fun hc => ?_)
    · have h := h.1 hc
      refine Ev.iconst (pc' := 86) dX12_worked_85 rfl ki_0 ?_
      exact Ef.iret dX12_worked_86 rfl h
    · have h := h.2 hc
      refine Ev.iconst (pc' := 82) dX12_worked_81 rfl ki_1 ?_
      refine Ev.goto (tgt := 86) dX12_worked_82 rfl ?_
      exact Ef.iret dX12_worked_86 rfl h
  by_cases e3 : a0 = 24
  · refine Ev.tableIn (off := 86) (tgt := 87) dX12_worked_1 (by rw [e3]; decide) (by rw [e3]; decide) (by rw [e3]; decide) rfl ?_
    have h := h.2.2.2.1 e3
    refine Ev.iload_n (k := 1) (pc' := 88) dX12_worked_87 rfl rfl rfl ?_
    refine Ev.iload_n (k := 2) (pc' := 89) dX12_worked_88 rfl rfl rfl ?_
    refine Ev.icmp_ge (pc' := 92) (tgt := 96) dX12_worked_89 rfl rfl (fun hc => ?_) (fun hc => ?_)
    · have h := h.1 hc
      refine Ev.iconst (pc' := 97) dX12_worked_96 rfl ki_0 ?_
      exact Ef.iret dX12_worked_97 rfl h
    · have h := h.2 hc
      refine Ev.iconst (pc' := 93) dX12_worked_92 rfl ki_1 ?_
      refine Ev.goto (tgt := 97) dX12_worked_93 rfl ?_
      exact Ef.iret dX12_worked_97 rfl h
  by_cases e4 : a0 = 25
  · refine Ev.tableIn (off := 97) (tgt := 98) dX12_worked_1 (by rw [e4]; decide) (by rw [e4]; decide) (by rw [e4]; decide) rfl ?_
    have h := h.2.2.2.2.1 e4
    refine Ev.iload_n (k := 1) (pc' := 99) dX12_worked_98 rfl rfl rfl ?_
    refine Ev.iload_n (k := 2) (pc' := 100) dX12_worked_99 rfl rfl rfl ?_
    refine Ev.icmp_le (pc' := 103) (tgt := 107) dX12_worked_100 rfl rfl (fun hc => ?_) (fun hc => ?_)
    · have h := h.1 hc
      refine Ev.iconst (pc' := 108) dX12_worked_107 rfl ki_0 ?_
      exact Ef.iret dX12_worked_108 rfl h
    · have h := h.2 hc
      refine Ev.iconst (pc' := 104) dX12_worked_103 rfl ki_1 ?_
      refine Ev.goto (tgt := 108) dX12_worked_104 rfl ?_
      exact Ef.iret dX12_worked_108 rfl h
  by_cases e5 : a0 = 26
  · refine Ev.tableIn (off := 108) (tgt := 109) dX12_worked_1 (by rw [e5]; decide) (by rw [e5]; decide) (by rw [e5]; decide) rfl ?_
    have h := h.2.2.2.2.2.1 e5
    refine Ev.iload_n (k := 1) (pc' := 110) dX12_worked_109 rfl rfl rfl ?_
    refine Ev.iload_n (k := 2) (pc' := 111) dX12_worked_110 rfl rfl rfl ?_
    refine Ev.iadd (pc' := 112) dX12_worked_111 rfl ?_
    exact Ef.iret dX12_worked_112 rfl h
  by_cases e6 : a0 = 27
  · refine Ev.tableIn (off := 112) (tgt := 113) dX12_worked_1 (by rw [e6]; decide) (by rw [e6]; decide) (by rw [e6]; decide) rfl ?_
    have h := h.2.2.2.2.2.2.1 e6
    refine Ev.iload_n (k := 1) (pc' := 114) dX12_worked_113 rfl rfl rfl ?_
    refine Ev.iload_n (k := 2) (pc' := 115) dX12_worked_114 rfl rfl rfl ?_
    refine Ev.isub (pc' := 116) dX12_worked_115 rfl ?_
    exact Ef.iret dX12_worked_116 rfl h
  have h := h.2.2.2.2.2.2.2 e0 e1 e2 e3 e4 e5 e6
  by_cases f0 : a0 = 22
  · refine Ev.tableIn (off := 116) (tgt := 117) dX12_worked_1 (by rw [f0]; decide) (by rw [f0]; decide) (by rw [f0]; decide) rfl ?_
    refine Ev.iload_n (k := 1) (pc' := 118) dX12_worked_117 rfl rfl rfl ?_
    refine Ev.iload_n (k := 2) (pc' := 119) dX12_worked_118 rfl rfl rfl ?_
    refine Ev.imul (pc' := 120) dX12_worked_119 rfl ?_
    exact Ef.iret dX12_worked_120 rfl h
  refine Ev.tableOut (tgt := 117) dX12_worked_1 (sw_out fun v h1 h2 => ?_) rfl ?_
  · have h3 : v = 20 ∨ v = 21 ∨ v = 22 ∨ v = 23 ∨ v = 24 ∨ v = 25 ∨ v = 26 ∨ v = 27 := by omega
    rcases h3 with rfl | rfl | rfl | rfl | rfl | rfl | rfl | rfl
    · exact fun q => e0 (q.trans (by decide))
    · exact fun q => e1 (q.trans (by decide))
    · exact fun q => f0 (q.trans (by decide))
    · exact fun q => e2 (q.trans (by decide))
    · exact fun q => e3 (q.trans (by decide))
    · exact fun q => e4 (q.trans (by decide))
    · exact fun q => e5 (q.trans (by decide))
    · exact fun q => e6 (q.trans (by decide))
  · refine Ev.iload_n (k := 1) (pc' := 118) dX12_worked_117 rfl rfl rfl ?_
    refine Ev.iload_n (k := 2) (pc' := 119) dX12_worked_118 rfl rfl rfl ?_
    refine Ev.imul (pc' := 120) dX12_worked_119 rfl ?_
    exact Ef.iret dX12_worked_120 rfl h
def wpX12_forceOf (a1 : Int32) (I : Ix) (L : Lx) (Q : Int32 → Ix → Lx → Prop) : Prop := vp_in ((4 * a1) + 2) 24 ∧ Q (I 142 ((4 * a1) + 2).toNatClampNeg) I L
set_option maxRecDepth 10000 in
theorem okX12_forceOf {G : Gx} {a1 : Int32} {I : Ix} {L : Lx} {Q : Int32 → Ix → Lx → Prop} (h : wpX12_forceOf a1 I L Q) : Mf G MX12_forceOf [.ref 120, .int a1] I L (qI Q) := by
  unfold wpX12_forceOf at h
  refine Mf.of pn_RX12 (Nat.le_of_ble_eq_true rfl) ?_
  refine Ev.aload_n (k := 0) (pc' := 1) dX12_forceOf_0 rfl rfl rfl ?_
  refine Ev.getR (pc' := 4) dX12_forceOf_1 rfl fa_RX12_78 ob_120 fk_12_35 rf_120_35 ?_
  refine Ev.iconst (pc' := 5) dX12_forceOf_4 rfl ki_4 ?_
  refine Ev.iload_n (k := 1) (pc' := 6) dX12_forceOf_5 rfl rfl rfl ?_
  refine Ev.imul (pc' := 7) dX12_forceOf_6 rfl ?_
  refine Ev.iconst (pc' := 8) dX12_forceOf_7 rfl ki_2 ?_
  refine Ev.iadd (pc' := 9) dX12_forceOf_8 rfl ?_
  refine Ev.iaload (j := _) (pc' := 10) dX12_forceOf_9 rfl ar_142 h.1 rfl ?_
  have h := h.2
  exact Ef.iret dX12_forceOf_10 rfl h
def wpX12_heavyOf (a1 : Int32) (I : Ix) (L : Lx) (Q : Int32 → Ix → Lx → Prop) : Prop := vp_in ((5 * a1) + 3) 50 ∧ Q (I 141 ((5 * a1) + 3).toNatClampNeg) I L
set_option maxRecDepth 10000 in
theorem okX12_heavyOf {G : Gx} {a1 : Int32} {I : Ix} {L : Lx} {Q : Int32 → Ix → Lx → Prop} (h : wpX12_heavyOf a1 I L Q) : Mf G MX12_heavyOf [.ref 120, .int a1] I L (qI Q) := by
  unfold wpX12_heavyOf at h
  refine Mf.of pn_RX12 (Nat.le_of_ble_eq_true rfl) ?_
  refine Ev.aload_n (k := 0) (pc' := 1) dX12_heavyOf_0 rfl rfl rfl ?_
  refine Ev.getR (pc' := 4) dX12_heavyOf_1 rfl fa_RX12_75 ob_120 fk_12_34 rf_120_34 ?_
  refine Ev.iconst (pc' := 5) dX12_heavyOf_4 rfl ki_5 ?_
  refine Ev.iload_n (k := 1) (pc' := 6) dX12_heavyOf_5 rfl rfl rfl ?_
  refine Ev.imul (pc' := 7) dX12_heavyOf_6 rfl ?_
  refine Ev.iconst (pc' := 8) dX12_heavyOf_7 rfl ki_3 ?_
  refine Ev.iadd (pc' := 9) dX12_heavyOf_8 rfl ?_
  refine Ev.iaload (j := _) (pc' := 10) dX12_heavyOf_9 rfl ar_141 h.1 rfl ?_
  have h := h.2
  exact Ef.iret dX12_heavyOf_10 rfl h
def wpX12_asksOf_b281 (Q : Int32 → Ix → Lx → Prop) (P174 : Int32 → Int32 → Int32 → Ix → Lx → Prop) (v1 : Int32) (v4 : Int32) (v5 : Int32) (t1 : Int32) (t2 : Int32) (I : Ix) (L : Lx) : Prop := vp_in t1 90 ∧ ∀ I1 : Ix, I1 = pu I 129 t1.toNatClampNeg t2 → P174 v1 v4 (v5 + 1) I1 L
def wpX12_asksOf_b237 (Q : Int32 → Ix → Lx → Prop) (P174 : Int32 → Int32 → Int32 → Ix → Lx → Prop) (v1 : Int32) (v4 : Int32) (v5 : Int32) (t1 : Int32) (t2 : Int32) (I : Ix) (L : Lx) : Prop := vp_in t1 90 ∧ ∀ I1 : Ix, I1 = pu I 129 t1.toNatClampNeg t2 → P174 v1 (v4 + 1) (v5 + 1) I1 L
def wpX12_asksOf_l174 (Q : Int32 → Ix → Lx → Prop) (P174 : Int32 → Int32 → Int32 → Ix → Lx → Prop) (v1 : Int32) (v4 : Int32) (v5 : Int32) (I : Ix) (L : Lx) : Prop := vp_in (v1 + 1) 7 ∧ ((I 127 (v1 + 1).toNatClampNeg) ≤ v5 → Q (I 129 0) I L) ∧ (¬ (I 127 (v1 + 1).toNatClampNeg) ≤ v5 → vp_in v5 640 ∧ (20 ≤ (I 125 v5.toNatClampNeg) → vp_in v5 640 ∧ (¬ (I 125 v5.toNatClampNeg) = 22 → vp_in v5 640 ∧ vp_in ((v4 + (-1)) - 1) 90 ∧ vp_in (v4 + (-1)) 90 ∧ wpX12_worked (I 125 v5.toNatClampNeg) (I 129 ((v4 + (-1)) - 1).toNatClampNeg) (I 129 (v4 + (-1)).toNatClampNeg) I L (fun r3 I1 L2 => vp_in ((v4 + (-1)) - 1) 90 ∧ ∀ I4 : Ix, I4 = pu I1 129 ((v4 + (-1)) - 1).toNatClampNeg r3 → P174 v1 (v4 + (-1)) (v5 + 1) I4 L2)) ∧ ((I 125 v5.toNatClampNeg) = 22 → vp_in (v4 - 1) 90 ∧ (¬ (I 129 (v4 - 1).toNatClampNeg) = 0 → wpX12_asksOf_b281 Q P174 v1 v4 v5 (v4 - 1) 0 I L) ∧ ((I 129 (v4 - 1).toNatClampNeg) = 0 → wpX12_asksOf_b281 Q P174 v1 v4 v5 (v4 - 1) 1 I L))) ∧ (¬ 20 ≤ (I 125 v5.toNatClampNeg) → vp_in v5 640 ∧ (¬ (I 125 v5.toNatClampNeg) = 0 → vp_in v5 640 ∧ vp_in (I 125 v5.toNatClampNeg) 12 ∧ wpX12_asksOf_b237 Q P174 v1 v4 v5 v4 (I 130 (I 125 v5.toNatClampNeg).toNatClampNeg) I L) ∧ ((I 125 v5.toNatClampNeg) = 0 → vp_in v5 640 ∧ wpX12_asksOf_b237 Q P174 v1 v4 v5 v4 (I 126 v5.toNatClampNeg) I L)))
def wpX12_asksOf_h174 (Q : Int32 → Ix → Lx → Prop) (v1 : Int32) (v4 : Int32) (v5 : Int32) (I : Ix) (L : Lx) : Prop := Lfp (X := Int32 × Int32 × Int32 × Ix × Lx) (fun P z => wpX12_asksOf_l174 Q (fun v1 v4 v5 I L => P (v1, v4, v5, I, L)) z.1 z.2.1 z.2.2.1 z.2.2.2.1 z.2.2.2.2) (v1, v4, v5, I, L)
theorem wpX12_asksOf_h174_fold {Q : Int32 → Ix → Lx → Prop} {v1 : Int32} {v4 : Int32} {v5 : Int32} {I : Ix} {L : Lx} (h : wpX12_asksOf_l174 Q (wpX12_asksOf_h174 Q) v1 v4 v5 I L) : wpX12_asksOf_h174 Q v1 v4 v5 I L := Lfp.fold h
def wpX12_asksOf_b92 (Q : Int32 → Ix → Lx → Prop) (v1 : Int32) (v2 : Int32) (t1 : Int32) (t2 : Int32) (I : Ix) (L : Lx) : Prop := vp_in t1 12 ∧ ∀ I1 : Ix, I1 = pu I 130 t1.toNatClampNeg t2 → vp_in v2 10 ∧ ∀ I2 : Ix, I2 = pu I1 130 7 (I1 158 v2.toNatClampNeg) → ∀ I3 : Ix, I3 = pu I2 130 8 (I2 120 75) → vp_in ((4 * v1) + 1) 24 ∧ ∀ I4 : Ix, I4 = pu I3 130 9 (I3 142 ((4 * v1) + 1).toNatClampNeg) → wpX12_forceOf v1 I4 L (fun r7 I5 L6 => ∀ I8 : Ix, I8 = pu I5 130 10 r7 → wpX12_placeOf v2 I8 L6 (fun r11 I9 L10 => vp_in r11 8 ∧ ∀ I12 : Ix, I12 = pu I9 130 11 (I9 138 r11.toNatClampNeg) → vp_in v1 7 ∧ wpX12_asksOf_h174 Q v1 0 (I12 127 v1.toNatClampNeg) I12 L10))
def wpX12_asksOf_b71 (Q : Int32 → Ix → Lx → Prop) (v1 : Int32) (v2 : Int32) (t1 : Int32) (t2 : Int32) (I : Ix) (L : Lx) : Prop := vp_in t1 12 ∧ ∀ I1 : Ix, I1 = pu I 130 t1.toNatClampNeg t2 → vp_in v2 10 ∧ ((I1 157 v2.toNatClampNeg) < 0 → wpX12_asksOf_b92 Q v1 v2 6 0 I1 L) ∧ (¬ (I1 157 v2.toNatClampNeg) < 0 → wpX12_asksOf_b92 Q v1 v2 6 1 I1 L)
def wpX12_asksOf (a1 : Int32) (a2 : Int32) (a3 : Int32) (I : Ix) (L : Lx) (Q : Int32 → Ix → Lx → Prop) : Prop := vp_in a2 10 ∧ ∀ I1 : Ix, I1 = pu I 130 1 (I 146 a2.toNatClampNeg) → vp_in a2 10 ∧ ∀ I2 : Ix, I2 = pu I1 130 2 (I1 144 a2.toNatClampNeg) → wpX12_heavyOf a2 I2 L (fun r5 I3 L4 => ∀ I6 : Ix, I6 = pu I3 130 3 r5 → wpX12_placeOf a2 I6 L4 (fun r9 I7 L8 => wpX12_farOf a3 r9 I7 L8 (fun r12 I10 L11 => ∀ I13 : Ix, I13 = pu I10 130 4 r12 → vp_in a2 10 ∧ (¬ (I13 157 a2.toNatClampNeg) = a1 → wpX12_asksOf_b71 Q a1 a2 5 0 I13 L11) ∧ ((I13 157 a2.toNatClampNeg) = a1 → wpX12_asksOf_b71 Q a1 a2 5 1 I13 L11))))
set_option maxRecDepth 10000 in
theorem okX12_asksOf_b281 {G : Gx} {Q : Int32 → Ix → Lx → Prop} {P174 : Int32 → Int32 → Int32 → Ix → Lx → Prop} (hP174 : ∀ (v1 : Int32) (v4 : Int32) (v5 : Int32) (I : Ix) (L : Lx), P174 v1 v4 v5 I L → Ef G MX12_asksOf (qI Q) 174 [(0, .ref 120), (1, .int v1), (4, .int v4), (5, .int v5)] [] I L) {v1 : Int32} {v4 : Int32} {v5 : Int32} {t1 : Int32} {t2 : Int32} {I : Ix} {L : Lx} (h : wpX12_asksOf_b281 Q P174 v1 v4 v5 t1 t2 I L) : Ef G MX12_asksOf (qI Q) 281 [(0, .ref 120), (1, .int v1), (4, .int v4), (5, .int v5)] [.int t2, .int t1, .ref 129] I L := by
  unfold wpX12_asksOf_b281 at h
  refine Ev.iastore (j := _) (pc' := 282) dX12_asksOf_281 rfl ar_129 h.1 rfl (fun I1 eI1 => ?_)
  have h := h.2 I1 eI1
  refine Ev.goto (tgt := 323) dX12_asksOf_282 rfl ?_
  refine Ev.iinc (k := 3) (v := _) (ls' := [(5, .int _), (0, .ref _), (1, .int _), (4, .int _)]) (pc' := 326) dX12_asksOf_323 rfl rfl (congrArg (_ + ·) ki_1) (Nat.le_of_ble_eq_true rfl) rfl ?_
  refine Ev.goto (tgt := 174) dX12_asksOf_326 rfl ?_
  exact Ev.sub [1, 2, 3, 0] rfl (hP174 _ _ _ _ _ h)
set_option maxRecDepth 10000 in
theorem okX12_asksOf_b237 {G : Gx} {Q : Int32 → Ix → Lx → Prop} {P174 : Int32 → Int32 → Int32 → Ix → Lx → Prop} (hP174 : ∀ (v1 : Int32) (v4 : Int32) (v5 : Int32) (I : Ix) (L : Lx), P174 v1 v4 v5 I L → Ef G MX12_asksOf (qI Q) 174 [(0, .ref 120), (1, .int v1), (4, .int v4), (5, .int v5)] [] I L) {v1 : Int32} {v4 : Int32} {v5 : Int32} {t1 : Int32} {t2 : Int32} {I : Ix} {L : Lx} (h : wpX12_asksOf_b237 Q P174 v1 v4 v5 t1 t2 I L) : Ef G MX12_asksOf (qI Q) 237 [(0, .ref 120), (1, .int v1), (4, .int v4), (5, .int v5)] [.int t2, .int t1, .ref 129] I L := by
  unfold wpX12_asksOf_b237 at h
  refine Ev.iastore (j := _) (pc' := 238) dX12_asksOf_237 rfl ar_129 h.1 rfl (fun I1 eI1 => ?_)
  have h := h.2 I1 eI1
  refine Ev.iinc (k := 2) (v := _) (ls' := [(4, .int _), (0, .ref _), (1, .int _), (5, .int _)]) (pc' := 241) dX12_asksOf_238 rfl rfl (congrArg (_ + ·) ki_1) (Nat.le_of_ble_eq_true rfl) rfl ?_
  refine Ev.goto (tgt := 323) dX12_asksOf_241 rfl ?_
  refine Ev.iinc (k := 3) (v := _) (ls' := [(5, .int _), (4, .int _), (0, .ref _), (1, .int _)]) (pc' := 326) dX12_asksOf_323 rfl rfl (congrArg (_ + ·) ki_1) (Nat.le_of_ble_eq_true rfl) rfl ?_
  refine Ev.goto (tgt := 174) dX12_asksOf_326 rfl ?_
  exact Ev.sub [2, 3, 1, 0] rfl (hP174 _ _ _ _ _ h)
set_option maxRecDepth 10000 in
theorem okX12_asksOf_l174 {G : Gx} {Q : Int32 → Ix → Lx → Prop} {P174 : Int32 → Int32 → Int32 → Ix → Lx → Prop} (hP174 : ∀ (v1 : Int32) (v4 : Int32) (v5 : Int32) (I : Ix) (L : Lx), P174 v1 v4 v5 I L → Ef G MX12_asksOf (qI Q) 174 [(0, .ref 120), (1, .int v1), (4, .int v4), (5, .int v5)] [] I L) {v1 : Int32} {v4 : Int32} {v5 : Int32} {I : Ix} {L : Lx} (h : wpX12_asksOf_l174 Q P174 v1 v4 v5 I L) : Ef G MX12_asksOf (qI Q) 174 [(0, .ref 120), (1, .int v1), (4, .int v4), (5, .int v5)] [] I L := by
  unfold wpX12_asksOf_l174 at h
  refine Ev.iload (k := 3) (pc' := 176) dX12_asksOf_174 rfl rfl ?_
  refine Ev.aload_n (k := 0) (pc' := 177) dX12_asksOf_176 rfl rfl rfl ?_
  refine Ev.getR (pc' := 180) dX12_asksOf_177 rfl fa_RX12_32 ob_120 fk_12_15 rf_120_15 ?_
  refine Ev.iload_n (k := 1) (pc' := 181) dX12_asksOf_180 rfl rfl rfl ?_
  refine Ev.iconst (pc' := 182) dX12_asksOf_181 rfl ki_1 ?_
  refine Ev.iadd (pc' := 183) dX12_asksOf_182 rfl ?_
  refine Ev.iaload (j := _) (pc' := 184) dX12_asksOf_183 rfl ar_127 h.1 rfl ?_
  have h := h.2
  refine Ev.icmp_ge (pc' := 187) (tgt := 329) dX12_asksOf_184 rfl rfl (fun hc => ?_) (fun hc => ?_)
  · have h := h.1 hc
    refine Ev.aload_n (k := 0) (pc' := 330) dX12_asksOf_329 rfl rfl rfl ?_
    refine Ev.getR (pc' := 333) dX12_asksOf_330 rfl fa_RX12_38 ob_120 fk_12_17 rf_120_17 ?_
    refine Ev.iconst (pc' := 334) dX12_asksOf_333 rfl ki_0 ?_
    refine Ev.iaload (j := 0) (pc' := 335) dX12_asksOf_334 rfl ar_129 (vpl rfl) rfl ?_
    exact Ef.iret dX12_asksOf_335 rfl h
  · have h := h.2 hc
    refine Ev.aload_n (k := 0) (pc' := 188) dX12_asksOf_187 rfl rfl rfl ?_
    refine Ev.getR (pc' := 191) dX12_asksOf_188 rfl fa_RX12_26 ob_120 fk_12_13 rf_120_13 ?_
    refine Ev.iload (k := 3) (pc' := 193) dX12_asksOf_191 rfl rfl ?_
    refine Ev.iaload (j := _) (pc' := 194) dX12_asksOf_193 rfl ar_125 h.1 rfl ?_
    have h := h.2
    refine Ev.bipush (pc' := 196) dX12_asksOf_194 rfl kb_20 ?_
    refine Ev.icmp_ge (pc' := 199) (tgt := 244) dX12_asksOf_196 rfl rfl (fun hc => ?_) (fun hc => ?_)
    · have h := h.1 hc
      refine Ev.aload_n (k := 0) (pc' := 245) dX12_asksOf_244 rfl rfl rfl ?_
      refine Ev.getR (pc' := 248) dX12_asksOf_245 rfl fa_RX12_26 ob_120 fk_12_13 rf_120_13 ?_
      refine Ev.iload (k := 3) (pc' := 250) dX12_asksOf_248 rfl rfl ?_
      refine Ev.iaload (j := _) (pc' := 251) dX12_asksOf_250 rfl ar_125 h.1 rfl ?_
      have h := h.2
      refine Ev.bipush (pc' := 253) dX12_asksOf_251 rfl kb_22 ?_
      refine Ev.icmp_ne (pc' := 256) (tgt := 285) dX12_asksOf_253 rfl rfl (fun hc => ?_) (fun hc => ?_)
      · have h := h.1 hc
        refine Ev.iinc (k := 2) (v := _) (ls' := [(4, .int _), (0, .ref _), (1, .int _), (5, .int _)]) (pc' := 288) dX12_asksOf_285 rfl rfl (congrArg (_ + ·) ki_m1) (Nat.le_of_ble_eq_true rfl) rfl ?_
        refine Ev.aload_n (k := 1) (pc' := 289) dX12_asksOf_288 rfl rfl rfl ?_
        refine Ev.getR (pc' := 292) dX12_asksOf_289 rfl fa_RX12_38 ob_120 fk_12_17 rf_120_17 ?_
        refine Ev.iload (k := 0) (pc' := 294) dX12_asksOf_292 rfl rfl ?_
        refine Ev.iconst (pc' := 295) dX12_asksOf_294 rfl ki_1 ?_
        refine Ev.isub (pc' := 296) dX12_asksOf_295 rfl ?_
        refine Ev.aload_n (k := 1) (pc' := 297) dX12_asksOf_296 rfl rfl rfl ?_
        refine Ev.getR (pc' := 300) dX12_asksOf_297 rfl fa_RX12_26 ob_120 fk_12_13 rf_120_13 ?_
        refine Ev.iload (k := 3) (pc' := 302) dX12_asksOf_300 rfl rfl ?_
        refine Ev.iaload (j := _) (pc' := 303) dX12_asksOf_302 rfl ar_125 h.1 rfl ?_
        have h := h.2
        refine Ev.aload_n (k := 1) (pc' := 304) dX12_asksOf_303 rfl rfl rfl ?_
        refine Ev.getR (pc' := 307) dX12_asksOf_304 rfl fa_RX12_38 ob_120 fk_12_17 rf_120_17 ?_
        refine Ev.iload (k := 0) (pc' := 309) dX12_asksOf_307 rfl rfl ?_
        refine Ev.iconst (pc' := 310) dX12_asksOf_309 rfl ki_1 ?_
        refine Ev.isub (pc' := 311) dX12_asksOf_310 rfl ?_
        refine Ev.iaload (j := _) (pc' := 312) dX12_asksOf_311 rfl ar_129 h.1 rfl ?_
        have h := h.2
        refine Ev.aload_n (k := 1) (pc' := 313) dX12_asksOf_312 rfl rfl rfl ?_
        refine Ev.getR (pc' := 316) dX12_asksOf_313 rfl fa_RX12_38 ob_120 fk_12_17 rf_120_17 ?_
        refine Ev.iload (k := 0) (pc' := 318) dX12_asksOf_316 rfl rfl ?_
        refine Ev.iaload (j := _) (pc' := 319) dX12_asksOf_318 rfl ar_129 h.1 rfl ?_
        have h := h.2
        refine Ef.callSI [.int _, .int _, .int _] [.int _, .ref _] (pc' := 322) dX12_asksOf_319 rfl cv_RX12_508_X12_worked ⟨Nat.le_of_ble_eq_true rfl, Nat.le_of_ble_eq_true rfl⟩ rfl rfl (Nat.le_of_ble_eq_true rfl) (okX12_worked h) (fun r3 I1 L2 h => ?_)
        refine Ev.iastore (j := _) (pc' := 323) dX12_asksOf_322 rfl ar_129 h.1 rfl (fun I4 eI4 => ?_)
        have h := h.2 I4 eI4
        refine Ev.iinc (k := 3) (v := _) (ls' := [(5, .int _), (4, .int _), (0, .ref _), (1, .int _)]) (pc' := 326) dX12_asksOf_323 rfl rfl (congrArg (_ + ·) ki_1) (Nat.le_of_ble_eq_true rfl) rfl ?_
        refine Ev.goto (tgt := 174) dX12_asksOf_326 rfl ?_
        exact Ev.sub [2, 3, 1, 0] rfl (hP174 _ _ _ _ _ h)
      · have h := h.2 hc
        refine Ev.aload_n (k := 0) (pc' := 257) dX12_asksOf_256 rfl rfl rfl ?_
        refine Ev.getR (pc' := 260) dX12_asksOf_257 rfl fa_RX12_38 ob_120 fk_12_17 rf_120_17 ?_
        refine Ev.iload (k := 2) (pc' := 262) dX12_asksOf_260 rfl rfl ?_
        refine Ev.iconst (pc' := 263) dX12_asksOf_262 rfl ki_1 ?_
        refine Ev.isub (pc' := 264) dX12_asksOf_263 rfl ?_
        refine Ev.aload_n (k := 0) (pc' := 265) dX12_asksOf_264 rfl rfl rfl ?_
        refine Ev.getR (pc' := 268) dX12_asksOf_265 rfl fa_RX12_38 ob_120 fk_12_17 rf_120_17 ?_
        refine Ev.iload (k := 2) (pc' := 270) dX12_asksOf_268 rfl rfl ?_
        refine Ev.iconst (pc' := 271) dX12_asksOf_270 rfl ki_1 ?_
        refine Ev.isub (pc' := 272) dX12_asksOf_271 rfl ?_
        refine Ev.iaload (j := _) (pc' := 273) dX12_asksOf_272 rfl ar_129 h.1 rfl ?_
        have h := h.2
        refine Ev.if_ne (pc' := 276) (tgt := 280) dX12_asksOf_273 rfl rfl (fun hc => ?_) (fun hc => ?_)
        · have h := h.1 hc
          refine Ev.iconst (pc' := 281) dX12_asksOf_280 rfl ki_0 ?_
          exact okX12_asksOf_b281 hP174 h
        · have h := h.2 hc
          refine Ev.iconst (pc' := 277) dX12_asksOf_276 rfl ki_1 ?_
          refine Ev.goto (tgt := 281) dX12_asksOf_277 rfl ?_
          exact okX12_asksOf_b281 hP174 h
    · have h := h.2 hc
      refine Ev.aload_n (k := 0) (pc' := 200) dX12_asksOf_199 rfl rfl rfl ?_
      refine Ev.getR (pc' := 203) dX12_asksOf_200 rfl fa_RX12_38 ob_120 fk_12_17 rf_120_17 ?_
      refine Ev.iload (k := 2) (pc' := 205) dX12_asksOf_203 rfl rfl ?_
      refine Ev.aload_n (k := 0) (pc' := 206) dX12_asksOf_205 rfl rfl rfl ?_
      refine Ev.getR (pc' := 209) dX12_asksOf_206 rfl fa_RX12_26 ob_120 fk_12_13 rf_120_13 ?_
      refine Ev.iload (k := 3) (pc' := 211) dX12_asksOf_209 rfl rfl ?_
      refine Ev.iaload (j := _) (pc' := 212) dX12_asksOf_211 rfl ar_125 h.1 rfl ?_
      have h := h.2
      refine Ev.if_ne (pc' := 215) (tgt := 225) dX12_asksOf_212 rfl rfl (fun hc => ?_) (fun hc => ?_)
      · have h := h.1 hc
        refine Ev.aload_n (k := 0) (pc' := 226) dX12_asksOf_225 rfl rfl rfl ?_
        refine Ev.getR (pc' := 229) dX12_asksOf_226 rfl fa_RX12_41 ob_120 fk_12_18 rf_120_18 ?_
        refine Ev.aload_n (k := 0) (pc' := 230) dX12_asksOf_229 rfl rfl rfl ?_
        refine Ev.getR (pc' := 233) dX12_asksOf_230 rfl fa_RX12_26 ob_120 fk_12_13 rf_120_13 ?_
        refine Ev.iload (k := 3) (pc' := 235) dX12_asksOf_233 rfl rfl ?_
        refine Ev.iaload (j := _) (pc' := 236) dX12_asksOf_235 rfl ar_125 h.1 rfl ?_
        have h := h.2
        refine Ev.iaload (j := _) (pc' := 237) dX12_asksOf_236 rfl ar_130 h.1 rfl ?_
        have h := h.2
        exact okX12_asksOf_b237 hP174 h
      · have h := h.2 hc
        refine Ev.aload_n (k := 0) (pc' := 216) dX12_asksOf_215 rfl rfl rfl ?_
        refine Ev.getR (pc' := 219) dX12_asksOf_216 rfl fa_RX12_29 ob_120 fk_12_14 rf_120_14 ?_
        refine Ev.iload (k := 3) (pc' := 221) dX12_asksOf_219 rfl rfl ?_
        refine Ev.iaload (j := _) (pc' := 222) dX12_asksOf_221 rfl ar_126 h.1 rfl ?_
        have h := h.2
        refine Ev.goto (tgt := 237) dX12_asksOf_222 rfl ?_
        exact okX12_asksOf_b237 hP174 h
set_option maxRecDepth 10000 in
theorem okX12_asksOf_h174 {G : Gx} {Q : Int32 → Ix → Lx → Prop} {v1 : Int32} {v4 : Int32} {v5 : Int32} {I : Ix} {L : Lx} (h : wpX12_asksOf_h174 Q v1 v4 v5 I L) : Ef G MX12_asksOf (qI Q) 174 [(0, .ref 120), (1, .int v1), (4, .int v4), (5, .int v5)] [] I L := by
  unfold wpX12_asksOf_h174 at h
  refine Lfp.ind (P := fun z => Ef G MX12_asksOf (qI Q) 174 [(0, .ref 120), (1, .int z.1), (4, .int z.2.1), (5, .int z.2.2.1)] [] z.2.2.2.1 z.2.2.2.2) ?_ h
  intro z P' hP' h
  obtain ⟨v1, v4, v5, I, L⟩ := z
  exact okX12_asksOf_l174 (fun v1 v4 v5 I L h9 => hP' (v1, v4, v5, I, L) h9) h
set_option maxRecDepth 10000 in
theorem okX12_asksOf_b92 {G : Gx} {Q : Int32 → Ix → Lx → Prop} {v1 : Int32} {v2 : Int32} {t1 : Int32} {t2 : Int32} {I : Ix} {L : Lx} (h : wpX12_asksOf_b92 Q v1 v2 t1 t2 I L) : Ef G MX12_asksOf (qI Q) 92 [(0, .ref 120), (1, .int v1), (2, .int v2)] [.int t2, .int t1, .ref 130] I L := by
  unfold wpX12_asksOf_b92 at h
  refine Ev.iastore (j := _) (pc' := 93) dX12_asksOf_92 rfl ar_130 h.1 rfl (fun I1 eI1 => ?_)
  have h := h.2 I1 eI1
  refine Ev.aload_n (k := 0) (pc' := 94) dX12_asksOf_93 rfl rfl rfl ?_
  refine Ev.getR (pc' := 97) dX12_asksOf_94 rfl fa_RX12_41 ob_120 fk_12_18 rf_120_18 ?_
  refine Ev.bipush (pc' := 99) dX12_asksOf_97 rfl kb_7 ?_
  refine Ev.aload_n (k := 0) (pc' := 100) dX12_asksOf_99 rfl rfl rfl ?_
  refine Ev.getR (pc' := 103) dX12_asksOf_100 rfl fa_RX12_130 ob_120 fk_12_72 rf_120_72 ?_
  refine Ev.iload_n (k := 2) (pc' := 104) dX12_asksOf_103 rfl rfl rfl ?_
  refine Ev.iaload (j := _) (pc' := 105) dX12_asksOf_104 rfl ar_158 h.1 rfl ?_
  have h := h.2
  refine Ev.iastore (j := 7) (pc' := 106) dX12_asksOf_105 rfl ar_130 (vpl rfl) rfl (fun I2 eI2 => ?_)
  have h := h I2 eI2
  refine Ev.aload_n (k := 0) (pc' := 107) dX12_asksOf_106 rfl rfl rfl ?_
  refine Ev.getR (pc' := 110) dX12_asksOf_107 rfl fa_RX12_41 ob_120 fk_12_18 rf_120_18 ?_
  refine Ev.bipush (pc' := 112) dX12_asksOf_110 rfl kb_8 ?_
  refine Ev.aload_n (k := 0) (pc' := 113) dX12_asksOf_112 rfl rfl rfl ?_
  refine Ev.getI (pc' := 116) dX12_asksOf_113 rfl fa_RX12_496 ob_120 fk_12_75 ?_
  refine Ev.iastore (j := 8) (pc' := 117) dX12_asksOf_116 rfl ar_130 (vpl rfl) rfl (fun I3 eI3 => ?_)
  have h := h I3 eI3
  refine Ev.aload_n (k := 0) (pc' := 118) dX12_asksOf_117 rfl rfl rfl ?_
  refine Ev.getR (pc' := 121) dX12_asksOf_118 rfl fa_RX12_41 ob_120 fk_12_18 rf_120_18 ?_
  refine Ev.bipush (pc' := 123) dX12_asksOf_121 rfl kb_9 ?_
  refine Ev.aload_n (k := 0) (pc' := 124) dX12_asksOf_123 rfl rfl rfl ?_
  refine Ev.getR (pc' := 127) dX12_asksOf_124 rfl fa_RX12_78 ob_120 fk_12_35 rf_120_35 ?_
  refine Ev.iconst (pc' := 128) dX12_asksOf_127 rfl ki_4 ?_
  refine Ev.iload_n (k := 1) (pc' := 129) dX12_asksOf_128 rfl rfl rfl ?_
  refine Ev.imul (pc' := 130) dX12_asksOf_129 rfl ?_
  refine Ev.iconst (pc' := 131) dX12_asksOf_130 rfl ki_1 ?_
  refine Ev.iadd (pc' := 132) dX12_asksOf_131 rfl ?_
  refine Ev.iaload (j := _) (pc' := 133) dX12_asksOf_132 rfl ar_142 h.1 rfl ?_
  have h := h.2
  refine Ev.iastore (j := 9) (pc' := 134) dX12_asksOf_133 rfl ar_130 (vpl rfl) rfl (fun I4 eI4 => ?_)
  have h := h I4 eI4
  refine Ev.aload_n (k := 0) (pc' := 135) dX12_asksOf_134 rfl rfl rfl ?_
  refine Ev.getR (pc' := 138) dX12_asksOf_135 rfl fa_RX12_41 ob_120 fk_12_18 rf_120_18 ?_
  refine Ev.bipush (pc' := 140) dX12_asksOf_138 rfl kb_10 ?_
  refine Ev.aload_n (k := 0) (pc' := 141) dX12_asksOf_140 rfl rfl rfl ?_
  refine Ev.iload_n (k := 1) (pc' := 142) dX12_asksOf_141 rfl rfl rfl ?_
  refine Ef.callVI [.int _] [.int _, .ref _] (pc' := 145) dX12_asksOf_142 rfl cv_RX12_505_X12_forceOf ⟨Nat.le_of_ble_eq_true rfl, Nat.le_of_ble_eq_true rfl⟩ ob_120 rfl rfl rfl (Nat.le_of_ble_eq_true rfl) (okX12_forceOf h) (fun r7 I5 L6 h => ?_)
  refine Ev.iastore (j := 10) (pc' := 146) dX12_asksOf_145 rfl ar_130 (vpl rfl) rfl (fun I8 eI8 => ?_)
  have h := h I8 eI8
  refine Ev.aload_n (k := 0) (pc' := 147) dX12_asksOf_146 rfl rfl rfl ?_
  refine Ev.getR (pc' := 150) dX12_asksOf_147 rfl fa_RX12_41 ob_120 fk_12_18 rf_120_18 ?_
  refine Ev.bipush (pc' := 152) dX12_asksOf_150 rfl kb_11 ?_
  refine Ev.aload_n (k := 0) (pc' := 153) dX12_asksOf_152 rfl rfl rfl ?_
  refine Ev.getR (pc' := 156) dX12_asksOf_153 rfl fa_RX12_66 ob_120 fk_12_31 rf_120_31 ?_
  refine Ev.aload_n (k := 0) (pc' := 157) dX12_asksOf_156 rfl rfl rfl ?_
  refine Ev.iload_n (k := 2) (pc' := 158) dX12_asksOf_157 rfl rfl rfl ?_
  refine Ef.callVI [.int _] [.ref _, .int _, .ref _] (pc' := 161) dX12_asksOf_158 rfl cv_RX12_502_X12_placeOf ⟨Nat.le_of_ble_eq_true rfl, Nat.le_of_ble_eq_true rfl⟩ ob_120 rfl rfl rfl (Nat.le_of_ble_eq_true rfl) (okX12_placeOf h) (fun r11 I9 L10 h => ?_)
  refine Ev.iaload (j := _) (pc' := 162) dX12_asksOf_161 rfl ar_138 h.1 rfl ?_
  have h := h.2
  refine Ev.iastore (j := 11) (pc' := 163) dX12_asksOf_162 rfl ar_130 (vpl rfl) rfl (fun I12 eI12 => ?_)
  have h := h I12 eI12
  refine Ev.iconst (pc' := 164) dX12_asksOf_163 rfl ki_0 ?_
  refine Ev.istore (ls' := [(4, .int _), (0, .ref _), (1, .int _), (2, .int _)]) (pc' := 166) dX12_asksOf_164 rfl (Nat.le_of_ble_eq_true rfl) rfl ?_
  refine Ev.aload_n (k := 1) (pc' := 167) dX12_asksOf_166 rfl rfl rfl ?_
  refine Ev.getR (pc' := 170) dX12_asksOf_167 rfl fa_RX12_32 ob_120 fk_12_15 rf_120_15 ?_
  refine Ev.iload_n (k := 2) (pc' := 171) dX12_asksOf_170 rfl rfl rfl ?_
  refine Ev.iaload (j := _) (pc' := 172) dX12_asksOf_171 rfl ar_127 h.1 rfl ?_
  have h := h.2
  refine Ev.istore (ls' := [(5, .int _), (4, .int _), (0, .ref _), (1, .int _), (2, .int _)]) (pc' := 174) dX12_asksOf_172 rfl (Nat.le_of_ble_eq_true rfl) rfl ?_
  exact Ev.sub [2, 3, 1, 0] rfl (okX12_asksOf_h174 h)
set_option maxRecDepth 10000 in
theorem okX12_asksOf_b71 {G : Gx} {Q : Int32 → Ix → Lx → Prop} {v1 : Int32} {v2 : Int32} {t1 : Int32} {t2 : Int32} {I : Ix} {L : Lx} (h : wpX12_asksOf_b71 Q v1 v2 t1 t2 I L) : Ef G MX12_asksOf (qI Q) 71 [(0, .ref 120), (1, .int v1), (2, .int v2)] [.int t2, .int t1, .ref 130] I L := by
  unfold wpX12_asksOf_b71 at h
  refine Ev.iastore (j := _) (pc' := 72) dX12_asksOf_71 rfl ar_130 h.1 rfl (fun I1 eI1 => ?_)
  have h := h.2 I1 eI1
  refine Ev.aload_n (k := 0) (pc' := 73) dX12_asksOf_72 rfl rfl rfl ?_
  refine Ev.getR (pc' := 76) dX12_asksOf_73 rfl fa_RX12_41 ob_120 fk_12_18 rf_120_18 ?_
  refine Ev.bipush (pc' := 78) dX12_asksOf_76 rfl kb_6 ?_
  refine Ev.aload_n (k := 0) (pc' := 79) dX12_asksOf_78 rfl rfl rfl ?_
  refine Ev.getR (pc' := 82) dX12_asksOf_79 rfl fa_RX12_127 ob_120 fk_12_71 rf_120_71 ?_
  refine Ev.iload_n (k := 2) (pc' := 83) dX12_asksOf_82 rfl rfl rfl ?_
  refine Ev.iaload (j := _) (pc' := 84) dX12_asksOf_83 rfl ar_157 h.1 rfl ?_
  have h := h.2
  refine Ev.if_lt (pc' := 87) (tgt := 91) dX12_asksOf_84 rfl rfl (fun hc => ?_) (fun hc => ?_)
  · have h := h.1 hc
    refine Ev.iconst (pc' := 92) dX12_asksOf_91 rfl ki_0 ?_
    exact okX12_asksOf_b92 h
  · have h := h.2 hc
    refine Ev.iconst (pc' := 88) dX12_asksOf_87 rfl ki_1 ?_
    refine Ev.goto (tgt := 92) dX12_asksOf_88 rfl ?_
    exact okX12_asksOf_b92 h
set_option maxRecDepth 10000 in
theorem okX12_asksOf {G : Gx} {a1 : Int32} {a2 : Int32} {a3 : Int32} {I : Ix} {L : Lx} {Q : Int32 → Ix → Lx → Prop} (h : wpX12_asksOf a1 a2 a3 I L Q) : Mf G MX12_asksOf [.ref 120, .int a1, .int a2, .int a3] I L (qI Q) := by
  unfold wpX12_asksOf at h
  refine Mf.of pn_RX12 (Nat.le_of_ble_eq_true rfl) ?_
  refine Ev.aload_n (k := 0) (pc' := 1) dX12_asksOf_0 rfl rfl rfl ?_
  refine Ev.getR (pc' := 4) dX12_asksOf_1 rfl fa_RX12_41 ob_120 fk_12_18 rf_120_18 ?_
  refine Ev.iconst (pc' := 5) dX12_asksOf_4 rfl ki_1 ?_
  refine Ev.aload_n (k := 0) (pc' := 6) dX12_asksOf_5 rfl rfl rfl ?_
  refine Ev.getR (pc' := 9) dX12_asksOf_6 rfl fa_RX12_90 ob_120 fk_12_53 rf_120_53 ?_
  refine Ev.iload_n (k := 2) (pc' := 10) dX12_asksOf_9 rfl rfl rfl ?_
  refine Ev.iaload (j := _) (pc' := 11) dX12_asksOf_10 rfl ar_146 h.1 rfl ?_
  have h := h.2
  refine Ev.iastore (j := 1) (pc' := 12) dX12_asksOf_11 rfl ar_130 (vpl rfl) rfl (fun I1 eI1 => ?_)
  have h := h I1 eI1
  refine Ev.aload_n (k := 0) (pc' := 13) dX12_asksOf_12 rfl rfl rfl ?_
  refine Ev.getR (pc' := 16) dX12_asksOf_13 rfl fa_RX12_41 ob_120 fk_12_18 rf_120_18 ?_
  refine Ev.iconst (pc' := 17) dX12_asksOf_16 rfl ki_2 ?_
  refine Ev.aload_n (k := 0) (pc' := 18) dX12_asksOf_17 rfl rfl rfl ?_
  refine Ev.getR (pc' := 21) dX12_asksOf_18 rfl fa_RX12_84 ob_120 fk_12_51 rf_120_51 ?_
  refine Ev.iload_n (k := 2) (pc' := 22) dX12_asksOf_21 rfl rfl rfl ?_
  refine Ev.iaload (j := _) (pc' := 23) dX12_asksOf_22 rfl ar_144 h.1 rfl ?_
  have h := h.2
  refine Ev.iastore (j := 2) (pc' := 24) dX12_asksOf_23 rfl ar_130 (vpl rfl) rfl (fun I2 eI2 => ?_)
  have h := h I2 eI2
  refine Ev.aload_n (k := 0) (pc' := 25) dX12_asksOf_24 rfl rfl rfl ?_
  refine Ev.getR (pc' := 28) dX12_asksOf_25 rfl fa_RX12_41 ob_120 fk_12_18 rf_120_18 ?_
  refine Ev.iconst (pc' := 29) dX12_asksOf_28 rfl ki_3 ?_
  refine Ev.aload_n (k := 0) (pc' := 30) dX12_asksOf_29 rfl rfl rfl ?_
  refine Ev.iload_n (k := 2) (pc' := 31) dX12_asksOf_30 rfl rfl rfl ?_
  refine Ef.callVI [.int _] [.int _, .ref _] (pc' := 34) dX12_asksOf_31 rfl cv_RX12_499_X12_heavyOf ⟨Nat.le_of_ble_eq_true rfl, Nat.le_of_ble_eq_true rfl⟩ ob_120 rfl rfl rfl (Nat.le_of_ble_eq_true rfl) (okX12_heavyOf h) (fun r5 I3 L4 h => ?_)
  refine Ev.iastore (j := 3) (pc' := 35) dX12_asksOf_34 rfl ar_130 (vpl rfl) rfl (fun I6 eI6 => ?_)
  have h := h I6 eI6
  refine Ev.aload_n (k := 0) (pc' := 36) dX12_asksOf_35 rfl rfl rfl ?_
  refine Ev.getR (pc' := 39) dX12_asksOf_36 rfl fa_RX12_41 ob_120 fk_12_18 rf_120_18 ?_
  refine Ev.iconst (pc' := 40) dX12_asksOf_39 rfl ki_4 ?_
  refine Ev.aload_n (k := 0) (pc' := 41) dX12_asksOf_40 rfl rfl rfl ?_
  refine Ev.iload_n (k := 3) (pc' := 42) dX12_asksOf_41 rfl rfl rfl ?_
  refine Ev.aload_n (k := 0) (pc' := 43) dX12_asksOf_42 rfl rfl rfl ?_
  refine Ev.iload_n (k := 2) (pc' := 44) dX12_asksOf_43 rfl rfl rfl ?_
  refine Ef.callVI [.int _] [.int _, .ref _, .int _, .ref _] (pc' := 47) dX12_asksOf_44 rfl cv_RX12_502_X12_placeOf ⟨Nat.le_of_ble_eq_true rfl, Nat.le_of_ble_eq_true rfl⟩ ob_120 rfl rfl rfl (Nat.le_of_ble_eq_true rfl) (okX12_placeOf h) (fun r9 I7 L8 h => ?_)
  refine Ef.callVI [.int _, .int _] [.int _, .ref _] (pc' := 50) dX12_asksOf_47 rfl cv_RX12_461_X12_farOf ⟨Nat.le_of_ble_eq_true rfl, Nat.le_of_ble_eq_true rfl⟩ ob_120 rfl rfl rfl (Nat.le_of_ble_eq_true rfl) (okX12_farOf h) (fun r12 I10 L11 h => ?_)
  refine Ev.iastore (j := 4) (pc' := 51) dX12_asksOf_50 rfl ar_130 (vpl rfl) rfl (fun I13 eI13 => ?_)
  have h := h I13 eI13
  refine Ev.aload_n (k := 0) (pc' := 52) dX12_asksOf_51 rfl rfl rfl ?_
  refine Ev.getR (pc' := 55) dX12_asksOf_52 rfl fa_RX12_41 ob_120 fk_12_18 rf_120_18 ?_
  refine Ev.iconst (pc' := 56) dX12_asksOf_55 rfl ki_5 ?_
  refine Ev.aload_n (k := 0) (pc' := 57) dX12_asksOf_56 rfl rfl rfl ?_
  refine Ev.getR (pc' := 60) dX12_asksOf_57 rfl fa_RX12_127 ob_120 fk_12_71 rf_120_71 ?_
  refine Ev.iload_n (k := 2) (pc' := 61) dX12_asksOf_60 rfl rfl rfl ?_
  refine Ev.iaload (j := _) (pc' := 62) dX12_asksOf_61 rfl ar_157 h.1 rfl ?_
  have h := h.2
  refine Ev.iload_n (k := 1) (pc' := 63) dX12_asksOf_62 rfl rfl rfl ?_
  refine Ev.icmp_ne (pc' := 66) (tgt := 70) dX12_asksOf_63 rfl rfl (fun hc => ?_) (fun hc => ?_)
  · have h := h.1 hc
    refine Ev.iconst (pc' := 71) dX12_asksOf_70 rfl ki_0 ?_
    exact Ev.sub [0, 1, 2] rfl (okX12_asksOf_b71 h)
  · have h := h.2 hc
    refine Ev.iconst (pc' := 67) dX12_asksOf_66 rfl ki_1 ?_
    refine Ev.goto (tgt := 71) dX12_asksOf_67 rfl ?_
    exact Ev.sub [0, 1, 2] rfl (okX12_asksOf_b71 h)
def wpX12_aimOf_b118 (Q : Int32 → Ix → Lx → Prop) (P9 : Int32 → Int32 → Int32 → Int32 → Int32 → Int32 → Int32 → Ix → Lx → Prop) (v1 : Int32) (v2 : Int32) (v3 : Int32) (v4 : Int32) (v5 : Int32) (v6 : Int32) (v7 : Int32) (t0 : Int32) (I : Ix) (L : Lx) : Prop := (v6 < t0 → P9 v1 v2 v3 v4 v7 t0 (v7 + 1) I L) ∧ (¬ v6 < t0 → P9 v1 v2 v3 v4 v5 v6 (v7 + 1) I L)
def wpX12_aimOf_b99 (Q : Int32 → Ix → Lx → Prop) (P9 : Int32 → Int32 → Int32 → Int32 → Int32 → Int32 → Int32 → Ix → Lx → Prop) (v1 : Int32) (v2 : Int32) (v3 : Int32) (v4 : Int32) (v5 : Int32) (v6 : Int32) (v7 : Int32) (t0 : Int32) (I : Ix) (L : Lx) : Prop := (t0 = 0 → wpX12_aimOf_b118 Q P9 v1 v2 v3 v4 v5 v6 v7 0 I L) ∧ (¬ t0 = 0 → wpX12_asksOf v1 v7 v2 I L (fun r3 I1 L2 => wpX12_aimOf_b118 Q P9 v1 v2 v3 v4 v5 v6 v7 r3 I1 L2))
def wpX12_aimOf_b98 (Q : Int32 → Ix → Lx → Prop) (P9 : Int32 → Int32 → Int32 → Int32 → Int32 → Int32 → Int32 → Ix → Lx → Prop) (v1 : Int32) (v2 : Int32) (v3 : Int32) (v4 : Int32) (v5 : Int32) (v6 : Int32) (v7 : Int32) (I : Ix) (L : Lx) : Prop := wpX12_aimOf_b99 Q P9 v1 v2 v3 v4 v5 v6 v7 0 I L
def wpX12_aimOf_b94 (Q : Int32 → Ix → Lx → Prop) (P9 : Int32 → Int32 → Int32 → Int32 → Int32 → Int32 → Int32 → Ix → Lx → Prop) (v1 : Int32) (v2 : Int32) (v3 : Int32) (v4 : Int32) (v5 : Int32) (v6 : Int32) (v7 : Int32) (I : Ix) (L : Lx) : Prop := wpX12_aimOf_b99 Q P9 v1 v2 v3 v4 v5 v6 v7 1 I L
def wpX12_aimOf_l9 (Q : Int32 → Ix → Lx → Prop) (P9 : Int32 → Int32 → Int32 → Int32 → Int32 → Int32 → Int32 → Ix → Lx → Prop) (v1 : Int32) (v2 : Int32) (v3 : Int32) (v4 : Int32) (v5 : Int32) (v6 : Int32) (v7 : Int32) (I : Ix) (L : Lx) : Prop := ((I 120 44) ≤ v7 → Q v5 I L) ∧ (¬ (I 120 44) ≤ v7 → wpX12_placeOf v7 I L (fun r3 I1 L2 => vp_in r3 8 ∧ vp_in v7 10 ∧ (¬ (I1 149 v7.toNatClampNeg) = 0 → wpX12_aimOf_b98 Q P9 v1 v2 v3 v4 v5 v6 v7 I1 L2) ∧ ((I1 149 v7.toNatClampNeg) = 0 → (0 ≤ v3 → ((I1 138 r3.toNatClampNeg) ≤ v3 → wpX12_aimOf_b98 Q P9 v1 v2 v3 v4 v5 v6 v7 I1 L2) ∧ (¬ (I1 138 r3.toNatClampNeg) ≤ v3 → wpX12_placeOf v7 I1 L2 (fun r6 I4 L5 => wpX12_farOf v2 r6 I4 L5 (fun r9 I7 L8 => (((I1 138 r3.toNatClampNeg) - v3) < r9 → wpX12_aimOf_b98 Q P9 v1 v2 v3 v4 v5 v6 v7 I7 L8) ∧ (¬ ((I1 138 r3.toNatClampNeg) - v3) < r9 → wpX12_aimOf_b94 Q P9 v1 v2 v3 v4 v5 v6 v7 I7 L8))))) ∧ (¬ 0 ≤ v3 → wpX12_placeOf v7 I1 L2 (fun r12 I10 L11 => wpX12_farOf v2 r12 I10 L11 (fun r15 I13 L14 => (((60 + (I1 138 r3.toNatClampNeg)) + v4) < r15 → wpX12_aimOf_b98 Q P9 v1 v2 v3 v4 v5 v6 v7 I13 L14) ∧ (¬ ((60 + (I1 138 r3.toNatClampNeg)) + v4) < r15 → wpX12_aimOf_b94 Q P9 v1 v2 v3 v4 v5 v6 v7 I13 L14)))))))
def wpX12_aimOf_h9 (Q : Int32 → Ix → Lx → Prop) (v1 : Int32) (v2 : Int32) (v3 : Int32) (v4 : Int32) (v5 : Int32) (v6 : Int32) (v7 : Int32) (I : Ix) (L : Lx) : Prop := Lfp (X := Int32 × Int32 × Int32 × Int32 × Int32 × Int32 × Int32 × Ix × Lx) (fun P z => wpX12_aimOf_l9 Q (fun v1 v2 v3 v4 v5 v6 v7 I L => P (v1, v2, v3, v4, v5, v6, v7, I, L)) z.1 z.2.1 z.2.2.1 z.2.2.2.1 z.2.2.2.2.1 z.2.2.2.2.2.1 z.2.2.2.2.2.2.1 z.2.2.2.2.2.2.2.1 z.2.2.2.2.2.2.2.2) (v1, v2, v3, v4, v5, v6, v7, I, L)
theorem wpX12_aimOf_h9_fold {Q : Int32 → Ix → Lx → Prop} {v1 : Int32} {v2 : Int32} {v3 : Int32} {v4 : Int32} {v5 : Int32} {v6 : Int32} {v7 : Int32} {I : Ix} {L : Lx} (h : wpX12_aimOf_l9 Q (wpX12_aimOf_h9 Q) v1 v2 v3 v4 v5 v6 v7 I L) : wpX12_aimOf_h9 Q v1 v2 v3 v4 v5 v6 v7 I L := Lfp.fold h
def wpX12_aimOf (a1 : Int32) (a2 : Int32) (a3 : Int32) (a4 : Int32) (I : Ix) (L : Lx) (Q : Int32 → Ix → Lx → Prop) : Prop := wpX12_aimOf_h9 Q a1 a2 a3 a4 (-1) 0 0 I L
set_option maxRecDepth 10000 in
theorem okX12_aimOf_b118 {G : Gx} {Q : Int32 → Ix → Lx → Prop} {P9 : Int32 → Int32 → Int32 → Int32 → Int32 → Int32 → Int32 → Ix → Lx → Prop} (hP9 : ∀ (v1 : Int32) (v2 : Int32) (v3 : Int32) (v4 : Int32) (v5 : Int32) (v6 : Int32) (v7 : Int32) (I : Ix) (L : Lx), P9 v1 v2 v3 v4 v5 v6 v7 I L → Ef G MX12_aimOf (qI Q) 9 [(0, .ref 120), (1, .int v1), (2, .int v2), (3, .int v3), (4, .int v4), (5, .int v5), (6, .int v6), (7, .int v7)] [] I L) {v1 : Int32} {v2 : Int32} {v3 : Int32} {v4 : Int32} {v5 : Int32} {v6 : Int32} {v7 : Int32} {t0 : Int32} {I : Ix} {L : Lx} (h : wpX12_aimOf_b118 Q P9 v1 v2 v3 v4 v5 v6 v7 t0 I L) : Ef G MX12_aimOf (qI Q) 118 [(0, .ref 120), (1, .int v1), (2, .int v2), (3, .int v3), (4, .int v4), (5, .int v5), (6, .int v6), (7, .int v7)] [.int t0] I L := by
  unfold wpX12_aimOf_b118 at h
  refine Ev.istore (ls' := [(10, .int _), (0, .ref _), (1, .int _), (2, .int _), (3, .int _), (4, .int _), (5, .int _), (6, .int _), (7, .int _)]) (pc' := 120) dX12_aimOf_118 rfl (Nat.le_of_ble_eq_true rfl) rfl ?_
  refine Ev.iload (k := 0) (pc' := 122) dX12_aimOf_120 rfl rfl ?_
  refine Ev.iload (k := 7) (pc' := 124) dX12_aimOf_122 rfl rfl ?_
  refine Ev.icmp_gt (pc' := 127) (tgt := 130) dX12_aimOf_124 rfl rfl (fun hc => ?_) (fun hc => ?_)
  · have h := h.1 hc
    refine Ev.iload (k := 0) (pc' := 132) dX12_aimOf_130 rfl rfl ?_
    refine Ev.istore (ls' := [(6, .int _), (10, .int _), (0, .ref _), (1, .int _), (2, .int _), (3, .int _), (4, .int _), (5, .int _), (7, .int _)]) (pc' := 134) dX12_aimOf_132 rfl (Nat.le_of_ble_eq_true rfl) rfl ?_
    refine Ev.iload (k := 8) (pc' := 136) dX12_aimOf_134 rfl rfl ?_
    refine Ev.istore (ls' := [(5, .int _), (6, .int _), (10, .int _), (0, .ref _), (1, .int _), (2, .int _), (3, .int _), (4, .int _), (7, .int _)]) (pc' := 138) dX12_aimOf_136 rfl (Nat.le_of_ble_eq_true rfl) rfl ?_
    refine Ev.iinc (k := 8) (v := _) (ls' := [(7, .int _), (5, .int _), (6, .int _), (10, .int _), (0, .ref _), (1, .int _), (2, .int _), (3, .int _), (4, .int _)]) (pc' := 141) dX12_aimOf_138 rfl rfl (congrArg (_ + ·) ki_1) (Nat.le_of_ble_eq_true rfl) rfl ?_
    refine Ev.goto (tgt := 9) dX12_aimOf_141 rfl ?_
    exact Ev.sub [4, 5, 6, 7, 8, 1, 2, 0] rfl (hP9 _ _ _ _ _ _ _ _ _ h)
  · have h := h.2 hc
    refine Ev.goto (tgt := 138) dX12_aimOf_127 rfl ?_
    refine Ev.iinc (k := 8) (v := _) (ls' := [(7, .int _), (10, .int _), (0, .ref _), (1, .int _), (2, .int _), (3, .int _), (4, .int _), (5, .int _), (6, .int _)]) (pc' := 141) dX12_aimOf_138 rfl rfl (congrArg (_ + ·) ki_1) (Nat.le_of_ble_eq_true rfl) rfl ?_
    refine Ev.goto (tgt := 9) dX12_aimOf_141 rfl ?_
    exact Ev.sub [2, 3, 4, 5, 6, 7, 8, 0] rfl (hP9 _ _ _ _ _ _ _ _ _ h)
set_option maxRecDepth 10000 in
theorem okX12_aimOf_b99 {G : Gx} {Q : Int32 → Ix → Lx → Prop} {P9 : Int32 → Int32 → Int32 → Int32 → Int32 → Int32 → Int32 → Ix → Lx → Prop} (hP9 : ∀ (v1 : Int32) (v2 : Int32) (v3 : Int32) (v4 : Int32) (v5 : Int32) (v6 : Int32) (v7 : Int32) (I : Ix) (L : Lx), P9 v1 v2 v3 v4 v5 v6 v7 I L → Ef G MX12_aimOf (qI Q) 9 [(0, .ref 120), (1, .int v1), (2, .int v2), (3, .int v3), (4, .int v4), (5, .int v5), (6, .int v6), (7, .int v7)] [] I L) {v1 : Int32} {v2 : Int32} {v3 : Int32} {v4 : Int32} {v5 : Int32} {v6 : Int32} {v7 : Int32} {t0 : Int32} {I : Ix} {L : Lx} (h : wpX12_aimOf_b99 Q P9 v1 v2 v3 v4 v5 v6 v7 t0 I L) : Ef G MX12_aimOf (qI Q) 99 [(0, .ref 120), (1, .int v1), (2, .int v2), (3, .int v3), (4, .int v4), (5, .int v5), (6, .int v6), (7, .int v7)] [.int t0] I L := by
  unfold wpX12_aimOf_b99 at h
  refine Ev.istore (ls' := [(9, .int _), (0, .ref _), (1, .int _), (2, .int _), (3, .int _), (4, .int _), (5, .int _), (6, .int _), (7, .int _)]) (pc' := 101) dX12_aimOf_99 rfl (Nat.le_of_ble_eq_true rfl) rfl ?_
  refine Ev.iload (k := 0) (pc' := 103) dX12_aimOf_101 rfl rfl ?_
  refine Ev.if_eq (pc' := 106) (tgt := 117) dX12_aimOf_103 rfl rfl (fun hc => ?_) (fun hc => ?_)
  · have h := h.1 hc
    refine Ev.iconst (pc' := 118) dX12_aimOf_117 rfl ki_0 ?_
    exact Ev.sub [1, 2, 3, 4, 5, 6, 7, 8] rfl (okX12_aimOf_b118 hP9 h)
  · have h := h.2 hc
    refine Ev.aload_n (k := 1) (pc' := 107) dX12_aimOf_106 rfl rfl rfl ?_
    refine Ev.iload_n (k := 2) (pc' := 108) dX12_aimOf_107 rfl rfl rfl ?_
    refine Ev.iload (k := 8) (pc' := 110) dX12_aimOf_108 rfl rfl ?_
    refine Ev.iload_n (k := 3) (pc' := 111) dX12_aimOf_110 rfl rfl rfl ?_
    refine Ef.callVI [.int _, .int _, .int _] [] (pc' := 114) dX12_aimOf_111 rfl cv_RX12_511_X12_asksOf ⟨Nat.le_of_ble_eq_true rfl, Nat.le_of_ble_eq_true rfl⟩ ob_120 rfl rfl rfl (Nat.le_of_ble_eq_true rfl) (okX12_asksOf h) (fun r3 I1 L2 h => ?_)
    refine Ev.goto (tgt := 118) dX12_aimOf_114 rfl ?_
    exact Ev.sub [1, 2, 3, 4, 5, 6, 7, 8] rfl (okX12_aimOf_b118 hP9 h)
set_option maxRecDepth 10000 in
theorem okX12_aimOf_b98 {G : Gx} {Q : Int32 → Ix → Lx → Prop} {P9 : Int32 → Int32 → Int32 → Int32 → Int32 → Int32 → Int32 → Ix → Lx → Prop} (hP9 : ∀ (v1 : Int32) (v2 : Int32) (v3 : Int32) (v4 : Int32) (v5 : Int32) (v6 : Int32) (v7 : Int32) (I : Ix) (L : Lx), P9 v1 v2 v3 v4 v5 v6 v7 I L → Ef G MX12_aimOf (qI Q) 9 [(0, .ref 120), (1, .int v1), (2, .int v2), (3, .int v3), (4, .int v4), (5, .int v5), (6, .int v6), (7, .int v7)] [] I L) {v1 : Int32} {v2 : Int32} {v3 : Int32} {v4 : Int32} {v5 : Int32} {v6 : Int32} {v7 : Int32} {I : Ix} {L : Lx} (h : wpX12_aimOf_b98 Q P9 v1 v2 v3 v4 v5 v6 v7 I L) : Ef G MX12_aimOf (qI Q) 98 [(0, .ref 120), (1, .int v1), (2, .int v2), (3, .int v3), (4, .int v4), (5, .int v5), (6, .int v6), (7, .int v7)] [] I L := by
  unfold wpX12_aimOf_b98 at h
  refine Ev.iconst (pc' := 99) dX12_aimOf_98 rfl ki_0 ?_
  exact okX12_aimOf_b99 hP9 h
set_option maxRecDepth 10000 in
theorem okX12_aimOf_b94 {G : Gx} {Q : Int32 → Ix → Lx → Prop} {P9 : Int32 → Int32 → Int32 → Int32 → Int32 → Int32 → Int32 → Ix → Lx → Prop} (hP9 : ∀ (v1 : Int32) (v2 : Int32) (v3 : Int32) (v4 : Int32) (v5 : Int32) (v6 : Int32) (v7 : Int32) (I : Ix) (L : Lx), P9 v1 v2 v3 v4 v5 v6 v7 I L → Ef G MX12_aimOf (qI Q) 9 [(0, .ref 120), (1, .int v1), (2, .int v2), (3, .int v3), (4, .int v4), (5, .int v5), (6, .int v6), (7, .int v7)] [] I L) {v1 : Int32} {v2 : Int32} {v3 : Int32} {v4 : Int32} {v5 : Int32} {v6 : Int32} {v7 : Int32} {I : Ix} {L : Lx} (h : wpX12_aimOf_b94 Q P9 v1 v2 v3 v4 v5 v6 v7 I L) : Ef G MX12_aimOf (qI Q) 94 [(0, .ref 120), (1, .int v1), (2, .int v2), (3, .int v3), (4, .int v4), (5, .int v5), (6, .int v6), (7, .int v7)] [] I L := by
  unfold wpX12_aimOf_b94 at h
  refine Ev.iconst (pc' := 95) dX12_aimOf_94 rfl ki_1 ?_
  refine Ev.goto (tgt := 99) dX12_aimOf_95 rfl ?_
  exact okX12_aimOf_b99 hP9 h
set_option maxRecDepth 10000 in
theorem okX12_aimOf_l9 {G : Gx} {Q : Int32 → Ix → Lx → Prop} {P9 : Int32 → Int32 → Int32 → Int32 → Int32 → Int32 → Int32 → Ix → Lx → Prop} (hP9 : ∀ (v1 : Int32) (v2 : Int32) (v3 : Int32) (v4 : Int32) (v5 : Int32) (v6 : Int32) (v7 : Int32) (I : Ix) (L : Lx), P9 v1 v2 v3 v4 v5 v6 v7 I L → Ef G MX12_aimOf (qI Q) 9 [(0, .ref 120), (1, .int v1), (2, .int v2), (3, .int v3), (4, .int v4), (5, .int v5), (6, .int v6), (7, .int v7)] [] I L) {v1 : Int32} {v2 : Int32} {v3 : Int32} {v4 : Int32} {v5 : Int32} {v6 : Int32} {v7 : Int32} {I : Ix} {L : Lx} (h : wpX12_aimOf_l9 Q P9 v1 v2 v3 v4 v5 v6 v7 I L) : Ef G MX12_aimOf (qI Q) 9 [(0, .ref 120), (1, .int v1), (2, .int v2), (3, .int v3), (4, .int v4), (5, .int v5), (6, .int v6), (7, .int v7)] [] I L := by
  unfold wpX12_aimOf_l9 at h
  refine Ev.iload (k := 7) (pc' := 11) dX12_aimOf_9 rfl rfl ?_
  refine Ev.aload_n (k := 0) (pc' := 12) dX12_aimOf_11 rfl rfl rfl ?_
  refine Ev.getI (pc' := 15) dX12_aimOf_12 rfl fa_RX12_437 ob_120 fk_12_44 ?_
  refine Ev.icmp_ge (pc' := 18) (tgt := 144) dX12_aimOf_15 rfl rfl (fun hc => ?_) (fun hc => ?_)
  · have h := h.1 hc
    refine Ev.iload (k := 5) (pc' := 146) dX12_aimOf_144 rfl rfl ?_
    exact Ef.iret dX12_aimOf_146 rfl h
  · have h := h.2 hc
    refine Ev.aload_n (k := 0) (pc' := 19) dX12_aimOf_18 rfl rfl rfl ?_
    refine Ev.getR (pc' := 22) dX12_aimOf_19 rfl fa_RX12_66 ob_120 fk_12_31 rf_120_31 ?_
    refine Ev.aload_n (k := 0) (pc' := 23) dX12_aimOf_22 rfl rfl rfl ?_
    refine Ev.iload (k := 7) (pc' := 25) dX12_aimOf_23 rfl rfl ?_
    refine Ef.callVI [.int _] [.ref _] (pc' := 28) dX12_aimOf_25 rfl cv_RX12_502_X12_placeOf ⟨Nat.le_of_ble_eq_true rfl, Nat.le_of_ble_eq_true rfl⟩ ob_120 rfl rfl rfl (Nat.le_of_ble_eq_true rfl) (okX12_placeOf h) (fun r3 I1 L2 h => ?_)
    refine Ev.iaload (j := _) (pc' := 29) dX12_aimOf_28 rfl ar_138 h.1 rfl ?_
    have h := h.2
    refine Ev.istore (ls' := [(8, .int _), (0, .ref _), (1, .int _), (2, .int _), (3, .int _), (4, .int _), (5, .int _), (6, .int _), (7, .int _)]) (pc' := 31) dX12_aimOf_29 rfl (Nat.le_of_ble_eq_true rfl) rfl ?_
    refine Ev.aload_n (k := 1) (pc' := 32) dX12_aimOf_31 rfl rfl rfl ?_
    refine Ev.getR (pc' := 35) dX12_aimOf_32 rfl fa_RX12_99 ob_120 fk_12_56 rf_120_56 ?_
    refine Ev.iload (k := 8) (pc' := 37) dX12_aimOf_35 rfl rfl ?_
    refine Ev.zaload (j := _) (pc' := 38) dX12_aimOf_37 rfl ar_149 h.1 rfl ?_
    have h := h.2
    refine Ev.if_ne (pc' := 41) (tgt := 98) dX12_aimOf_38 rfl rfl (fun hc => ?_) (fun hc => ?_)
    · have h := h.1 hc
      exact Ev.sub [1, 2, 3, 4, 5, 6, 7, 8] rfl (okX12_aimOf_b98 hP9 h)
    · have h := h.2 hc
      refine Ev.iload_n (k := 4) (pc' := 42) dX12_aimOf_41 rfl rfl rfl ?_
      refine Ev.if_ge (pc' := 45) (tgt := 70) dX12_aimOf_42 rfl rfl (fun hc => ?_) (fun hc => ?_)
      · have h := h.1 hc
        refine Ev.iload (k := 0) (pc' := 72) dX12_aimOf_70 rfl rfl ?_
        refine Ev.iload_n (k := 4) (pc' := 73) dX12_aimOf_72 rfl rfl rfl ?_
        refine Ev.icmp_le (pc' := 76) (tgt := 98) dX12_aimOf_73 rfl rfl (fun hc => ?_) (fun hc => ?_)
        · have h := h.1 hc
          exact Ev.sub [1, 2, 3, 4, 5, 6, 7, 8] rfl (okX12_aimOf_b98 hP9 h)
        · have h := h.2 hc
          refine Ev.aload_n (k := 1) (pc' := 77) dX12_aimOf_76 rfl rfl rfl ?_
          refine Ev.iload_n (k := 3) (pc' := 78) dX12_aimOf_77 rfl rfl rfl ?_
          refine Ev.aload_n (k := 1) (pc' := 79) dX12_aimOf_78 rfl rfl rfl ?_
          refine Ev.iload (k := 8) (pc' := 81) dX12_aimOf_79 rfl rfl ?_
          refine Ef.callVI [.int _] [.int _, .ref _] (pc' := 84) dX12_aimOf_81 rfl cv_RX12_502_X12_placeOf ⟨Nat.le_of_ble_eq_true rfl, Nat.le_of_ble_eq_true rfl⟩ ob_120 rfl rfl rfl (Nat.le_of_ble_eq_true rfl) (okX12_placeOf h) (fun r6 I4 L5 h => ?_)
          refine Ef.callVI [.int _, .int _] [] (pc' := 87) dX12_aimOf_84 rfl cv_RX12_461_X12_farOf ⟨Nat.le_of_ble_eq_true rfl, Nat.le_of_ble_eq_true rfl⟩ ob_120 rfl rfl rfl (Nat.le_of_ble_eq_true rfl) (okX12_farOf h) (fun r9 I7 L8 h => ?_)
          refine Ev.iload (k := 0) (pc' := 89) dX12_aimOf_87 rfl rfl ?_
          refine Ev.iload_n (k := 4) (pc' := 90) dX12_aimOf_89 rfl rfl rfl ?_
          refine Ev.isub (pc' := 91) dX12_aimOf_90 rfl ?_
          refine Ev.icmp_gt (pc' := 94) (tgt := 98) dX12_aimOf_91 rfl rfl (fun hc => ?_) (fun hc => ?_)
          · have h := h.1 hc
            exact Ev.sub [1, 2, 3, 4, 5, 6, 7, 8] rfl (okX12_aimOf_b98 hP9 h)
          · have h := h.2 hc
            exact Ev.sub [1, 2, 3, 4, 5, 6, 7, 8] rfl (okX12_aimOf_b94 hP9 h)
      · have h := h.2 hc
        refine Ev.aload_n (k := 1) (pc' := 46) dX12_aimOf_45 rfl rfl rfl ?_
        refine Ev.iload_n (k := 3) (pc' := 47) dX12_aimOf_46 rfl rfl rfl ?_
        refine Ev.aload_n (k := 1) (pc' := 48) dX12_aimOf_47 rfl rfl rfl ?_
        refine Ev.iload (k := 8) (pc' := 50) dX12_aimOf_48 rfl rfl ?_
        refine Ef.callVI [.int _] [.int _, .ref _] (pc' := 53) dX12_aimOf_50 rfl cv_RX12_502_X12_placeOf ⟨Nat.le_of_ble_eq_true rfl, Nat.le_of_ble_eq_true rfl⟩ ob_120 rfl rfl rfl (Nat.le_of_ble_eq_true rfl) (okX12_placeOf h) (fun r12 I10 L11 h => ?_)
        refine Ef.callVI [.int _, .int _] [] (pc' := 56) dX12_aimOf_53 rfl cv_RX12_461_X12_farOf ⟨Nat.le_of_ble_eq_true rfl, Nat.le_of_ble_eq_true rfl⟩ ob_120 rfl rfl rfl (Nat.le_of_ble_eq_true rfl) (okX12_farOf h) (fun r15 I13 L14 h => ?_)
        refine Ev.bipush (pc' := 58) dX12_aimOf_56 rfl kb_60 ?_
        refine Ev.iload (k := 0) (pc' := 60) dX12_aimOf_58 rfl rfl ?_
        refine Ev.iadd (pc' := 61) dX12_aimOf_60 rfl ?_
        refine Ev.iload (k := 5) (pc' := 63) dX12_aimOf_61 rfl rfl ?_
        refine Ev.iadd (pc' := 64) dX12_aimOf_63 rfl ?_
        refine Ev.icmp_gt (pc' := 67) (tgt := 98) dX12_aimOf_64 rfl rfl (fun hc => ?_) (fun hc => ?_)
        · have h := h.1 hc
          exact Ev.sub [1, 2, 3, 4, 5, 6, 7, 8] rfl (okX12_aimOf_b98 hP9 h)
        · have h := h.2 hc
          refine Ev.goto (tgt := 94) dX12_aimOf_67 rfl ?_
          exact Ev.sub [1, 2, 3, 4, 5, 6, 7, 8] rfl (okX12_aimOf_b94 hP9 h)
set_option maxRecDepth 10000 in
theorem okX12_aimOf_h9 {G : Gx} {Q : Int32 → Ix → Lx → Prop} {v1 : Int32} {v2 : Int32} {v3 : Int32} {v4 : Int32} {v5 : Int32} {v6 : Int32} {v7 : Int32} {I : Ix} {L : Lx} (h : wpX12_aimOf_h9 Q v1 v2 v3 v4 v5 v6 v7 I L) : Ef G MX12_aimOf (qI Q) 9 [(0, .ref 120), (1, .int v1), (2, .int v2), (3, .int v3), (4, .int v4), (5, .int v5), (6, .int v6), (7, .int v7)] [] I L := by
  unfold wpX12_aimOf_h9 at h
  refine Lfp.ind (P := fun z => Ef G MX12_aimOf (qI Q) 9 [(0, .ref 120), (1, .int z.1), (2, .int z.2.1), (3, .int z.2.2.1), (4, .int z.2.2.2.1), (5, .int z.2.2.2.2.1), (6, .int z.2.2.2.2.2.1), (7, .int z.2.2.2.2.2.2.1)] [] z.2.2.2.2.2.2.2.1 z.2.2.2.2.2.2.2.2) ?_ h
  intro z P' hP' h
  obtain ⟨v1, v2, v3, v4, v5, v6, v7, I, L⟩ := z
  exact okX12_aimOf_l9 (fun v1 v2 v3 v4 v5 v6 v7 I L h9 => hP' (v1, v2, v3, v4, v5, v6, v7, I, L) h9) h
set_option maxRecDepth 10000 in
theorem okX12_aimOf {G : Gx} {a1 : Int32} {a2 : Int32} {a3 : Int32} {a4 : Int32} {I : Ix} {L : Lx} {Q : Int32 → Ix → Lx → Prop} (h : wpX12_aimOf a1 a2 a3 a4 I L Q) : Mf G MX12_aimOf [.ref 120, .int a1, .int a2, .int a3, .int a4] I L (qI Q) := by
  unfold wpX12_aimOf at h
  refine Mf.of pn_RX12 (Nat.le_of_ble_eq_true rfl) ?_
  refine Ev.iconst (pc' := 1) dX12_aimOf_0 rfl ki_m1 ?_
  refine Ev.istore (ls' := [(5, .int _), (0, .ref _), (1, .int _), (2, .int _), (3, .int _), (4, .int _)]) (pc' := 3) dX12_aimOf_1 rfl (Nat.le_of_ble_eq_true rfl) rfl ?_
  refine Ev.iconst (pc' := 4) dX12_aimOf_3 rfl ki_0 ?_
  refine Ev.istore (ls' := [(6, .int _), (5, .int _), (0, .ref _), (1, .int _), (2, .int _), (3, .int _), (4, .int _)]) (pc' := 6) dX12_aimOf_4 rfl (Nat.le_of_ble_eq_true rfl) rfl ?_
  refine Ev.iconst (pc' := 7) dX12_aimOf_6 rfl ki_0 ?_
  refine Ev.istore (ls' := [(7, .int _), (6, .int _), (5, .int _), (0, .ref _), (1, .int _), (2, .int _), (3, .int _), (4, .int _)]) (pc' := 9) dX12_aimOf_7 rfl (Nat.le_of_ble_eq_true rfl) rfl ?_
  exact Ev.sub [3, 4, 5, 6, 7, 2, 1, 0] rfl (okX12_aimOf_h9 h)
def wpX12_goTo_b57 (Q : Ix → Lx → Prop) (t1 : Int32) (t2 : Int32) (I : Ix) (L : Lx) : Prop := vp_in t1 6 ∧ ∀ I1 : Ix, I1 = pu I 160 t1.toNatClampNeg t2 → Q I1 L
def wpX12_goTo (a1 : Int32) (a2 : Int32) (a3 : Int32) (I : Ix) (L : Lx) (Q : Ix → Lx → Prop) : Prop := vp_in a1 6 ∧ wpX12_aimOf a1 (I 147 a1.toNatClampNeg) a2 a3 I L (fun r3 I1 L2 => vp_in a1 6 ∧ ∀ I4 : Ix, I4 = pu I1 159 a1.toNatClampNeg r3 → vp_in a1 6 ∧ (0 ≤ (I4 159 a1.toNatClampNeg) → vp_in a1 6 ∧ vp_in a1 6 ∧ wpX12_placeOf (I4 159 a1.toNatClampNeg) I4 L2 (fun r7 I5 L6 => wpX12_farOf (I4 147 a1.toNatClampNeg) r7 I5 L6 (fun r10 I8 L9 => wpX12_goTo_b57 Q a1 r10 I8 L9))) ∧ (¬ 0 ≤ (I4 159 a1.toNatClampNeg) → wpX12_goTo_b57 Q a1 0 I4 L2))
set_option maxRecDepth 10000 in
theorem okX12_goTo_b57 {G : Gx} {Q : Ix → Lx → Prop} {t1 : Int32} {t2 : Int32} {I : Ix} {L : Lx} (h : wpX12_goTo_b57 Q t1 t2 I L) : Ef G MX12_goTo (qV Q) 57 [] [.int t2, .int t1, .ref 160] I L := by
  unfold wpX12_goTo_b57 at h
  refine Ev.iastore (j := _) (pc' := 58) dX12_goTo_57 rfl ar_160 h.1 rfl (fun I1 eI1 => ?_)
  have h := h.2 I1 eI1
  exact Ef.vret dX12_goTo_58 rfl h
set_option maxRecDepth 10000 in
theorem okX12_goTo {G : Gx} {a1 : Int32} {a2 : Int32} {a3 : Int32} {I : Ix} {L : Lx} {Q : Ix → Lx → Prop} (h : wpX12_goTo a1 a2 a3 I L Q) : Mf G MX12_goTo [.ref 120, .int a1, .int a2, .int a3] I L (qV Q) := by
  unfold wpX12_goTo at h
  refine Mf.of pn_RX12 (Nat.le_of_ble_eq_true rfl) ?_
  refine Ev.aload_n (k := 0) (pc' := 1) dX12_goTo_0 rfl rfl rfl ?_
  refine Ev.getR (pc' := 4) dX12_goTo_1 rfl fa_RX12_133 ob_120 fk_12_73 rf_120_73 ?_
  refine Ev.iload_n (k := 1) (pc' := 5) dX12_goTo_4 rfl rfl rfl ?_
  refine Ev.aload_n (k := 0) (pc' := 6) dX12_goTo_5 rfl rfl rfl ?_
  refine Ev.iload_n (k := 1) (pc' := 7) dX12_goTo_6 rfl rfl rfl ?_
  refine Ev.aload_n (k := 0) (pc' := 8) dX12_goTo_7 rfl rfl rfl ?_
  refine Ev.getR (pc' := 11) dX12_goTo_8 rfl fa_RX12_93 ob_120 fk_12_54 rf_120_54 ?_
  refine Ev.iload_n (k := 1) (pc' := 12) dX12_goTo_11 rfl rfl rfl ?_
  refine Ev.iaload (j := _) (pc' := 13) dX12_goTo_12 rfl ar_147 h.1 rfl ?_
  have h := h.2
  refine Ev.iload_n (k := 2) (pc' := 14) dX12_goTo_13 rfl rfl rfl ?_
  refine Ev.iload_n (k := 3) (pc' := 15) dX12_goTo_14 rfl rfl rfl ?_
  refine Ef.callVI [.int _, .int _, .int _, .int _] [.int _, .ref _] (pc' := 18) dX12_goTo_15 rfl cv_RX12_514_X12_aimOf ⟨Nat.le_of_ble_eq_true rfl, Nat.le_of_ble_eq_true rfl⟩ ob_120 rfl rfl rfl (Nat.le_of_ble_eq_true rfl) (okX12_aimOf h) (fun r3 I1 L2 h => ?_)
  refine Ev.iastore (j := _) (pc' := 19) dX12_goTo_18 rfl ar_159 h.1 rfl (fun I4 eI4 => ?_)
  have h := h.2 I4 eI4
  refine Ev.aload_n (k := 0) (pc' := 20) dX12_goTo_19 rfl rfl rfl ?_
  refine Ev.getR (pc' := 23) dX12_goTo_20 rfl fa_RX12_136 ob_120 fk_12_74 rf_120_74 ?_
  refine Ev.iload_n (k := 1) (pc' := 24) dX12_goTo_23 rfl rfl rfl ?_
  refine Ev.aload_n (k := 0) (pc' := 25) dX12_goTo_24 rfl rfl rfl ?_
  refine Ev.getR (pc' := 28) dX12_goTo_25 rfl fa_RX12_133 ob_120 fk_12_73 rf_120_73 ?_
  refine Ev.iload_n (k := 1) (pc' := 29) dX12_goTo_28 rfl rfl rfl ?_
  refine Ev.iaload (j := _) (pc' := 30) dX12_goTo_29 rfl ar_159 h.1 rfl ?_
  have h := h.2
  refine Ev.if_ge (pc' := 33) (tgt := 37) dX12_goTo_30 rfl rfl (fun hc => ?_) (fun hc => ?_)
  · have h := h.1 hc
    refine Ev.aload_n (k := 0) (pc' := 38) dX12_goTo_37 rfl rfl rfl ?_
    refine Ev.aload_n (k := 0) (pc' := 39) dX12_goTo_38 rfl rfl rfl ?_
    refine Ev.getR (pc' := 42) dX12_goTo_39 rfl fa_RX12_93 ob_120 fk_12_54 rf_120_54 ?_
    refine Ev.iload_n (k := 1) (pc' := 43) dX12_goTo_42 rfl rfl rfl ?_
    refine Ev.iaload (j := _) (pc' := 44) dX12_goTo_43 rfl ar_147 h.1 rfl ?_
    have h := h.2
    refine Ev.aload_n (k := 0) (pc' := 45) dX12_goTo_44 rfl rfl rfl ?_
    refine Ev.aload_n (k := 0) (pc' := 46) dX12_goTo_45 rfl rfl rfl ?_
    refine Ev.getR (pc' := 49) dX12_goTo_46 rfl fa_RX12_133 ob_120 fk_12_73 rf_120_73 ?_
    refine Ev.iload_n (k := 1) (pc' := 50) dX12_goTo_49 rfl rfl rfl ?_
    refine Ev.iaload (j := _) (pc' := 51) dX12_goTo_50 rfl ar_159 h.1 rfl ?_
    have h := h.2
    refine Ef.callVI [.int _] [.int _, .ref _, .int _, .ref _] (pc' := 54) dX12_goTo_51 rfl cv_RX12_502_X12_placeOf ⟨Nat.le_of_ble_eq_true rfl, Nat.le_of_ble_eq_true rfl⟩ ob_120 rfl rfl rfl (Nat.le_of_ble_eq_true rfl) (okX12_placeOf h) (fun r7 I5 L6 h => ?_)
    refine Ef.callVI [.int _, .int _] [.int _, .ref _] (pc' := 57) dX12_goTo_54 rfl cv_RX12_461_X12_farOf ⟨Nat.le_of_ble_eq_true rfl, Nat.le_of_ble_eq_true rfl⟩ ob_120 rfl rfl rfl (Nat.le_of_ble_eq_true rfl) (okX12_farOf h) (fun r10 I8 L9 h => ?_)
    exact Ev.sub [] rfl (okX12_goTo_b57 h)
  · have h := h.2 hc
    refine Ev.iconst (pc' := 34) dX12_goTo_33 rfl ki_0 ?_
    refine Ev.goto (tgt := 57) dX12_goTo_34 rfl ?_
    exact Ev.sub [] rfl (okX12_goTo_b57 h)
def wpX12_ones_l4 (Q : Int32 → Ix → Lx → Prop) (P4 : Int32 → Int32 → Int32 → Ix → Lx → Prop) (v0 : Int32) (v1 : Int32) (v2 : Int32) (I : Ix) (L : Lx) : Prop := (16 ≤ v2 → Q v1 I L) ∧ (¬ 16 ≤ v2 → P4 v0 (v1 + ((jshr v0 v2) &&& 1)) (v2 + 1) I L)
def wpX12_ones_h4 (Q : Int32 → Ix → Lx → Prop) (v0 : Int32) (v1 : Int32) (v2 : Int32) (I : Ix) (L : Lx) : Prop := Lfp (X := Int32 × Int32 × Int32 × Ix × Lx) (fun P z => wpX12_ones_l4 Q (fun v0 v1 v2 I L => P (v0, v1, v2, I, L)) z.1 z.2.1 z.2.2.1 z.2.2.2.1 z.2.2.2.2) (v0, v1, v2, I, L)
theorem wpX12_ones_h4_fold {Q : Int32 → Ix → Lx → Prop} {v0 : Int32} {v1 : Int32} {v2 : Int32} {I : Ix} {L : Lx} (h : wpX12_ones_l4 Q (wpX12_ones_h4 Q) v0 v1 v2 I L) : wpX12_ones_h4 Q v0 v1 v2 I L := Lfp.fold h
def wpX12_ones (a0 : Int32) (I : Ix) (L : Lx) (Q : Int32 → Ix → Lx → Prop) : Prop := wpX12_ones_h4 Q a0 0 0 I L
set_option maxRecDepth 10000 in
theorem okX12_ones_l4 {G : Gx} {Q : Int32 → Ix → Lx → Prop} {P4 : Int32 → Int32 → Int32 → Ix → Lx → Prop} (hP4 : ∀ (v0 : Int32) (v1 : Int32) (v2 : Int32) (I : Ix) (L : Lx), P4 v0 v1 v2 I L → Ef G MX12_ones (qI Q) 4 [(0, .int v0), (1, .int v1), (2, .int v2)] [] I L) {v0 : Int32} {v1 : Int32} {v2 : Int32} {I : Ix} {L : Lx} (h : wpX12_ones_l4 Q P4 v0 v1 v2 I L) : Ef G MX12_ones (qI Q) 4 [(0, .int v0), (1, .int v1), (2, .int v2)] [] I L := by
  unfold wpX12_ones_l4 at h
  refine Ev.iload_n (k := 2) (pc' := 5) dX12_ones_4 rfl rfl rfl ?_
  refine Ev.bipush (pc' := 7) dX12_ones_5 rfl kb_16 ?_
  refine Ev.icmp_ge (pc' := 10) (tgt := 24) dX12_ones_7 rfl rfl (fun hc => ?_) (fun hc => ?_)
  · have h := h.1 hc
    refine Ev.iload_n (k := 1) (pc' := 25) dX12_ones_24 rfl rfl rfl ?_
    exact Ef.iret dX12_ones_25 rfl h
  · have h := h.2 hc
    refine Ev.iload_n (k := 1) (pc' := 11) dX12_ones_10 rfl rfl rfl ?_
    refine Ev.iload_n (k := 0) (pc' := 12) dX12_ones_11 rfl rfl rfl ?_
    refine Ev.iload_n (k := 2) (pc' := 13) dX12_ones_12 rfl rfl rfl ?_
    refine Ev.ishr (pc' := 14) dX12_ones_13 rfl ?_
    refine Ev.iconst (pc' := 15) dX12_ones_14 rfl ki_1 ?_
    refine Ev.iand (pc' := 16) dX12_ones_15 rfl ?_
    refine Ev.iadd (pc' := 17) dX12_ones_16 rfl ?_
    refine Ev.istore_n (ls' := [(1, .int _), (0, .int _), (2, .int _)]) (pc' := 18) dX12_ones_17 rfl rfl (Nat.le_of_ble_eq_true rfl) rfl ?_
    refine Ev.iinc (k := 2) (v := _) (ls' := [(2, .int _), (1, .int _), (0, .int _)]) (pc' := 21) dX12_ones_18 rfl rfl (congrArg (_ + ·) ki_1) (Nat.le_of_ble_eq_true rfl) rfl ?_
    refine Ev.goto (tgt := 4) dX12_ones_21 rfl ?_
    exact Ev.sub [2, 1, 0] rfl (hP4 _ _ _ _ _ h)
set_option maxRecDepth 10000 in
theorem okX12_ones_h4 {G : Gx} {Q : Int32 → Ix → Lx → Prop} {v0 : Int32} {v1 : Int32} {v2 : Int32} {I : Ix} {L : Lx} (h : wpX12_ones_h4 Q v0 v1 v2 I L) : Ef G MX12_ones (qI Q) 4 [(0, .int v0), (1, .int v1), (2, .int v2)] [] I L := by
  unfold wpX12_ones_h4 at h
  refine Lfp.ind (P := fun z => Ef G MX12_ones (qI Q) 4 [(0, .int z.1), (1, .int z.2.1), (2, .int z.2.2.1)] [] z.2.2.2.1 z.2.2.2.2) ?_ h
  intro z P' hP' h
  obtain ⟨v0, v1, v2, I, L⟩ := z
  exact okX12_ones_l4 (fun v0 v1 v2 I L h9 => hP' (v0, v1, v2, I, L) h9) h
set_option maxRecDepth 10000 in
theorem okX12_ones {G : Gx} {a0 : Int32} {I : Ix} {L : Lx} {Q : Int32 → Ix → Lx → Prop} (h : wpX12_ones a0 I L Q) : Mf G MX12_ones [.int a0] I L (qI Q) := by
  unfold wpX12_ones at h
  refine Mf.of pn_RX12 (Nat.le_of_ble_eq_true rfl) ?_
  refine Ev.iconst (pc' := 1) dX12_ones_0 rfl ki_0 ?_
  refine Ev.istore_n (ls' := [(1, .int _), (0, .int _)]) (pc' := 2) dX12_ones_1 rfl rfl (Nat.le_of_ble_eq_true rfl) rfl ?_
  refine Ev.iconst (pc' := 3) dX12_ones_2 rfl ki_0 ?_
  refine Ev.istore_n (ls' := [(2, .int _), (1, .int _), (0, .int _)]) (pc' := 4) dX12_ones_3 rfl rfl (Nat.le_of_ble_eq_true rfl) rfl ?_
  exact Ev.sub [2, 1, 0] rfl (okX12_ones_h4 h)
def wpX12_draw (a1 : Int32) (I : Ix) (L : Lx) (Q : Int32 → Ix → Lx → Prop) : Prop := ∀ I1 : Ix, I1 = pu I 120 58 (((I 120 58) * 1103515245) + 12345) → ¬ a1 = 0 ∧ Q (jrem (jush (I1 120 58) 16) a1) I1 L
set_option maxRecDepth 10000 in
theorem okX12_draw {G : Gx} {a1 : Int32} {I : Ix} {L : Lx} {Q : Int32 → Ix → Lx → Prop} (h : wpX12_draw a1 I L Q) : Mf G MX12_draw [.ref 120, .int a1] I L (qI Q) := by
  unfold wpX12_draw at h
  refine Mf.of pn_RX12 (Nat.le_of_ble_eq_true rfl) ?_
  refine Ev.aload_n (k := 0) (pc' := 1) dX12_draw_0 rfl rfl rfl ?_
  refine Ev.aload_n (k := 0) (pc' := 2) dX12_draw_1 rfl rfl rfl ?_
  refine Ev.getI (pc' := 5) dX12_draw_2 rfl fa_RX12_103 ob_120 fk_12_58 ?_
  refine Ev.ldc_w (pc' := 8) dX12_draw_5 rfl lc_RX12_482 ?_
  refine Ev.imul (pc' := 9) dX12_draw_8 rfl ?_
  refine Ev.sipush (pc' := 12) dX12_draw_9 rfl ks_12345 ?_
  refine Ev.iadd (pc' := 13) dX12_draw_12 rfl ?_
  refine Ev.putI (pc' := 16) dX12_draw_13 rfl fa_RX12_103 ob_120 fk_12_58 rfl rfl (fun I1 eI1 => ?_)
  have h := h I1 eI1
  refine Ev.aload_n (k := 0) (pc' := 17) dX12_draw_16 rfl rfl rfl ?_
  refine Ev.getI (pc' := 20) dX12_draw_17 rfl fa_RX12_103 ob_120 fk_12_58 ?_
  refine Ev.bipush (pc' := 22) dX12_draw_20 rfl kb_16 ?_
  refine Ev.iushr (pc' := 23) dX12_draw_22 rfl ?_
  refine Ev.iload_n (k := 1) (pc' := 24) dX12_draw_23 rfl rfl rfl ?_
  refine Ev.irem (pc' := 25) dX12_draw_24 rfl h.1 ?_
  have h := h.2
  exact Ef.iret dX12_draw_25 rfl h
def wpX12_nth_b16 (Q : Int32 → Ix → Lx → Prop) (P4 : Int32 → Int32 → Int32 → Ix → Lx → Prop) (v0 : Int32) (v2 : Int32) (v3 : Int32) (I : Ix) (L : Lx) : Prop := P4 v0 (v2 + 1) (v3 - ((jshr v0 v2) &&& 1)) I L
def wpX12_nth_l4 (Q : Int32 → Ix → Lx → Prop) (P4 : Int32 → Int32 → Int32 → Ix → Lx → Prop) (v0 : Int32) (v2 : Int32) (v3 : Int32) (I : Ix) (L : Lx) : Prop := (((jshr v0 v2) &&& 1) = 0 → wpX12_nth_b16 Q P4 v0 v2 v3 I L) ∧ (¬ ((jshr v0 v2) &&& 1) = 0 → (v3 ≤ 0 → Q v2 I L) ∧ (¬ v3 ≤ 0 → wpX12_nth_b16 Q P4 v0 v2 v3 I L))
def wpX12_nth_h4 (Q : Int32 → Ix → Lx → Prop) (v0 : Int32) (v2 : Int32) (v3 : Int32) (I : Ix) (L : Lx) : Prop := Lfp (X := Int32 × Int32 × Int32 × Ix × Lx) (fun P z => wpX12_nth_l4 Q (fun v0 v2 v3 I L => P (v0, v2, v3, I, L)) z.1 z.2.1 z.2.2.1 z.2.2.2.1 z.2.2.2.2) (v0, v2, v3, I, L)
theorem wpX12_nth_h4_fold {Q : Int32 → Ix → Lx → Prop} {v0 : Int32} {v2 : Int32} {v3 : Int32} {I : Ix} {L : Lx} (h : wpX12_nth_l4 Q (wpX12_nth_h4 Q) v0 v2 v3 I L) : wpX12_nth_h4 Q v0 v2 v3 I L := Lfp.fold h
def wpX12_nth (a0 : Int32) (a1 : Int32) (I : Ix) (L : Lx) (Q : Int32 → Ix → Lx → Prop) : Prop := wpX12_nth_h4 Q a0 0 a1 I L
set_option maxRecDepth 10000 in
theorem okX12_nth_b16 {G : Gx} {Q : Int32 → Ix → Lx → Prop} {P4 : Int32 → Int32 → Int32 → Ix → Lx → Prop} (hP4 : ∀ (v0 : Int32) (v2 : Int32) (v3 : Int32) (I : Ix) (L : Lx), P4 v0 v2 v3 I L → Ef G MX12_nth (qI Q) 4 [(0, .int v0), (2, .int v2), (3, .int v3)] [] I L) {v0 : Int32} {v2 : Int32} {v3 : Int32} {I : Ix} {L : Lx} (h : wpX12_nth_b16 Q P4 v0 v2 v3 I L) : Ef G MX12_nth (qI Q) 16 [(0, .int v0), (2, .int v2), (3, .int v3)] [] I L := by
  unfold wpX12_nth_b16 at h
  refine Ev.iload_n (k := 2) (pc' := 17) dX12_nth_16 rfl rfl rfl ?_
  refine Ev.iload_n (k := 0) (pc' := 18) dX12_nth_17 rfl rfl rfl ?_
  refine Ev.iload_n (k := 1) (pc' := 19) dX12_nth_18 rfl rfl rfl ?_
  refine Ev.ishr (pc' := 20) dX12_nth_19 rfl ?_
  refine Ev.iconst (pc' := 21) dX12_nth_20 rfl ki_1 ?_
  refine Ev.iand (pc' := 22) dX12_nth_21 rfl ?_
  refine Ev.isub (pc' := 23) dX12_nth_22 rfl ?_
  refine Ev.istore_n (ls' := [(3, .int _), (0, .int _), (2, .int _)]) (pc' := 24) dX12_nth_23 rfl rfl (Nat.le_of_ble_eq_true rfl) rfl ?_
  refine Ev.iinc (k := 2) (v := _) (ls' := [(2, .int _), (3, .int _), (0, .int _)]) (pc' := 27) dX12_nth_24 rfl rfl (congrArg (_ + ·) ki_1) (Nat.le_of_ble_eq_true rfl) rfl ?_
  refine Ev.goto (tgt := 4) dX12_nth_27 rfl ?_
  exact Ev.sub [2, 0, 1] rfl (hP4 _ _ _ _ _ h)
set_option maxRecDepth 10000 in
theorem okX12_nth_l4 {G : Gx} {Q : Int32 → Ix → Lx → Prop} {P4 : Int32 → Int32 → Int32 → Ix → Lx → Prop} (hP4 : ∀ (v0 : Int32) (v2 : Int32) (v3 : Int32) (I : Ix) (L : Lx), P4 v0 v2 v3 I L → Ef G MX12_nth (qI Q) 4 [(0, .int v0), (2, .int v2), (3, .int v3)] [] I L) {v0 : Int32} {v2 : Int32} {v3 : Int32} {I : Ix} {L : Lx} (h : wpX12_nth_l4 Q P4 v0 v2 v3 I L) : Ef G MX12_nth (qI Q) 4 [(0, .int v0), (2, .int v2), (3, .int v3)] [] I L := by
  unfold wpX12_nth_l4 at h
  refine Ev.iload_n (k := 0) (pc' := 5) dX12_nth_4 rfl rfl rfl ?_
  refine Ev.iload_n (k := 1) (pc' := 6) dX12_nth_5 rfl rfl rfl ?_
  refine Ev.ishr (pc' := 7) dX12_nth_6 rfl ?_
  refine Ev.iconst (pc' := 8) dX12_nth_7 rfl ki_1 ?_
  refine Ev.iand (pc' := 9) dX12_nth_8 rfl ?_
  refine Ev.if_eq (pc' := 12) (tgt := 16) dX12_nth_9 rfl rfl (fun hc => ?_) (fun hc => ?_)
  · have h := h.1 hc
    exact okX12_nth_b16 hP4 h
  · have h := h.2 hc
    refine Ev.iload_n (k := 2) (pc' := 13) dX12_nth_12 rfl rfl rfl ?_
    refine Ev.if_le (pc' := 16) (tgt := 30) dX12_nth_13 rfl rfl (fun hc => ?_) (fun hc => ?_)
    · have h := h.1 hc
      refine Ev.iload_n (k := 1) (pc' := 31) dX12_nth_30 rfl rfl rfl ?_
      exact Ef.iret dX12_nth_31 rfl h
    · have h := h.2 hc
      exact okX12_nth_b16 hP4 h
set_option maxRecDepth 10000 in
theorem okX12_nth_h4 {G : Gx} {Q : Int32 → Ix → Lx → Prop} {v0 : Int32} {v2 : Int32} {v3 : Int32} {I : Ix} {L : Lx} (h : wpX12_nth_h4 Q v0 v2 v3 I L) : Ef G MX12_nth (qI Q) 4 [(0, .int v0), (2, .int v2), (3, .int v3)] [] I L := by
  unfold wpX12_nth_h4 at h
  refine Lfp.ind (P := fun z => Ef G MX12_nth (qI Q) 4 [(0, .int z.1), (2, .int z.2.1), (3, .int z.2.2.1)] [] z.2.2.2.1 z.2.2.2.2) ?_ h
  intro z P' hP' h
  obtain ⟨v0, v2, v3, I, L⟩ := z
  exact okX12_nth_l4 (fun v0 v2 v3 I L h9 => hP' (v0, v2, v3, I, L) h9) h
set_option maxRecDepth 10000 in
theorem okX12_nth {G : Gx} {a0 : Int32} {a1 : Int32} {I : Ix} {L : Lx} {Q : Int32 → Ix → Lx → Prop} (h : wpX12_nth a0 a1 I L Q) : Mf G MX12_nth [.int a0, .int a1] I L (qI Q) := by
  unfold wpX12_nth at h
  refine Mf.of pn_RX12 (Nat.le_of_ble_eq_true rfl) ?_
  refine Ev.iconst (pc' := 1) dX12_nth_0 rfl ki_0 ?_
  refine Ev.istore_n (ls' := [(2, .int _), (0, .int _), (1, .int _)]) (pc' := 2) dX12_nth_1 rfl rfl (Nat.le_of_ble_eq_true rfl) rfl ?_
  refine Ev.iload_n (k := 2) (pc' := 3) dX12_nth_2 rfl rfl rfl ?_
  refine Ev.istore_n (ls' := [(3, .int _), (2, .int _), (0, .int _), (1, .int _)]) (pc' := 4) dX12_nth_3 rfl rfl (Nat.le_of_ble_eq_true rfl) rfl ?_
  exact Ev.sub [2, 1, 0] rfl (okX12_nth_h4 h)
def wpX12_firstBy_b72 (Q : Int32 → Ix → Lx → Prop) (P5 : Int32 → Int32 → Int32 → Int32 → Ix → Lx → Prop) (v1 : Int32) (v2 : Int32) (v3 : Int32) (v4 : Int32) (t0 : Int32) (I : Ix) (L : Lx) : Prop := (t0 = 0 → P5 v1 v2 v3 (v4 + 1) I L) ∧ (¬ t0 = 0 → P5 v1 v2 v4 (v4 + 1) I L)
def wpX12_firstBy_b71 (Q : Int32 → Ix → Lx → Prop) (P5 : Int32 → Int32 → Int32 → Int32 → Ix → Lx → Prop) (v1 : Int32) (v2 : Int32) (v3 : Int32) (v4 : Int32) (I : Ix) (L : Lx) : Prop := wpX12_firstBy_b72 Q P5 v1 v2 v3 v4 0 I L
def wpX12_firstBy_b67 (Q : Int32 → Ix → Lx → Prop) (P5 : Int32 → Int32 → Int32 → Int32 → Ix → Lx → Prop) (v1 : Int32) (v2 : Int32) (v3 : Int32) (v4 : Int32) (I : Ix) (L : Lx) : Prop := wpX12_firstBy_b72 Q P5 v1 v2 v3 v4 1 I L
def wpX12_firstBy_l5 (Q : Int32 → Ix → Lx → Prop) (P5 : Int32 → Int32 → Int32 → Int32 → Ix → Lx → Prop) (v1 : Int32) (v2 : Int32) (v3 : Int32) (v4 : Int32) (I : Ix) (L : Lx) : Prop := ((I 120 45) ≤ v4 → Q v3 I L) ∧ (¬ (I 120 45) ≤ v4 → (¬ ((jshr v1 v4) &&& 1) = 0 → (v3 < 0 → wpX12_firstBy_b67 Q P5 v1 v2 v3 v4 I L) ∧ (¬ v3 < 0 → (¬ v2 = 0 → wpX12_forceOf v4 I L (fun r3 I1 L2 => wpX12_forceOf v3 I1 L2 (fun r6 I4 L5 => (r3 ≤ r6 → wpX12_firstBy_b71 Q P5 v1 v2 v3 v4 I4 L5) ∧ (¬ r3 ≤ r6 → wpX12_firstBy_b67 Q P5 v1 v2 v3 v4 I4 L5)))) ∧ (v2 = 0 → vp_in v4 6 ∧ vp_in v3 6 ∧ ((I 160 v3.toNatClampNeg) ≤ (I 160 v4.toNatClampNeg) → wpX12_firstBy_b71 Q P5 v1 v2 v3 v4 I L) ∧ (¬ (I 160 v3.toNatClampNeg) ≤ (I 160 v4.toNatClampNeg) → wpX12_firstBy_b67 Q P5 v1 v2 v3 v4 I L)))) ∧ (((jshr v1 v4) &&& 1) = 0 → P5 v1 v2 v3 (v4 + 1) I L))
def wpX12_firstBy_h5 (Q : Int32 → Ix → Lx → Prop) (v1 : Int32) (v2 : Int32) (v3 : Int32) (v4 : Int32) (I : Ix) (L : Lx) : Prop := Lfp (X := Int32 × Int32 × Int32 × Int32 × Ix × Lx) (fun P z => wpX12_firstBy_l5 Q (fun v1 v2 v3 v4 I L => P (v1, v2, v3, v4, I, L)) z.1 z.2.1 z.2.2.1 z.2.2.2.1 z.2.2.2.2.1 z.2.2.2.2.2) (v1, v2, v3, v4, I, L)
theorem wpX12_firstBy_h5_fold {Q : Int32 → Ix → Lx → Prop} {v1 : Int32} {v2 : Int32} {v3 : Int32} {v4 : Int32} {I : Ix} {L : Lx} (h : wpX12_firstBy_l5 Q (wpX12_firstBy_h5 Q) v1 v2 v3 v4 I L) : wpX12_firstBy_h5 Q v1 v2 v3 v4 I L := Lfp.fold h
def wpX12_firstBy (a1 : Int32) (a2 : Int32) (I : Ix) (L : Lx) (Q : Int32 → Ix → Lx → Prop) : Prop := wpX12_firstBy_h5 Q a1 a2 (-1) 0 I L
set_option maxRecDepth 10000 in
theorem okX12_firstBy_b72 {G : Gx} {Q : Int32 → Ix → Lx → Prop} {P5 : Int32 → Int32 → Int32 → Int32 → Ix → Lx → Prop} (hP5 : ∀ (v1 : Int32) (v2 : Int32) (v3 : Int32) (v4 : Int32) (I : Ix) (L : Lx), P5 v1 v2 v3 v4 I L → Ef G MX12_firstBy (qI Q) 5 [(0, .ref 120), (1, .int v1), (2, .int v2), (3, .int v3), (4, .int v4)] [] I L) {v1 : Int32} {v2 : Int32} {v3 : Int32} {v4 : Int32} {t0 : Int32} {I : Ix} {L : Lx} (h : wpX12_firstBy_b72 Q P5 v1 v2 v3 v4 t0 I L) : Ef G MX12_firstBy (qI Q) 72 [(0, .ref 120), (1, .int v1), (2, .int v2), (3, .int v3), (4, .int v4)] [.int t0] I L := by
  unfold wpX12_firstBy_b72 at h
  refine Ev.istore (ls' := [(5, .int _), (0, .ref _), (1, .int _), (2, .int _), (3, .int _), (4, .int _)]) (pc' := 74) dX12_firstBy_72 rfl (Nat.le_of_ble_eq_true rfl) rfl ?_
  refine Ev.iload (k := 0) (pc' := 76) dX12_firstBy_74 rfl rfl ?_
  refine Ev.if_eq (pc' := 79) (tgt := 84) dX12_firstBy_76 rfl rfl (fun hc => ?_) (fun hc => ?_)
  · have h := h.1 hc
    refine Ev.iload_n (k := 4) (pc' := 85) dX12_firstBy_84 rfl rfl rfl ?_
    refine Ev.istore_n (ls' := [(3, .int _), (5, .int _), (0, .ref _), (1, .int _), (2, .int _), (4, .int _)]) (pc' := 86) dX12_firstBy_85 rfl rfl (Nat.le_of_ble_eq_true rfl) rfl ?_
    refine Ev.iinc (k := 5) (v := _) (ls' := [(4, .int _), (3, .int _), (5, .int _), (0, .ref _), (1, .int _), (2, .int _)]) (pc' := 89) dX12_firstBy_86 rfl rfl (congrArg (_ + ·) ki_1) (Nat.le_of_ble_eq_true rfl) rfl ?_
    refine Ev.goto (tgt := 5) dX12_firstBy_89 rfl ?_
    exact Ev.sub [3, 4, 5, 1, 0] rfl (hP5 _ _ _ _ _ _ h)
  · have h := h.2 hc
    refine Ev.iload (k := 5) (pc' := 81) dX12_firstBy_79 rfl rfl ?_
    refine Ev.goto (tgt := 85) dX12_firstBy_81 rfl ?_
    refine Ev.istore_n (ls' := [(3, .int _), (5, .int _), (0, .ref _), (1, .int _), (2, .int _), (4, .int _)]) (pc' := 86) dX12_firstBy_85 rfl rfl (Nat.le_of_ble_eq_true rfl) rfl ?_
    refine Ev.iinc (k := 5) (v := _) (ls' := [(4, .int _), (3, .int _), (5, .int _), (0, .ref _), (1, .int _), (2, .int _)]) (pc' := 89) dX12_firstBy_86 rfl rfl (congrArg (_ + ·) ki_1) (Nat.le_of_ble_eq_true rfl) rfl ?_
    refine Ev.goto (tgt := 5) dX12_firstBy_89 rfl ?_
    exact Ev.sub [3, 4, 5, 1, 0] rfl (hP5 _ _ _ _ _ _ h)
set_option maxRecDepth 10000 in
theorem okX12_firstBy_b71 {G : Gx} {Q : Int32 → Ix → Lx → Prop} {P5 : Int32 → Int32 → Int32 → Int32 → Ix → Lx → Prop} (hP5 : ∀ (v1 : Int32) (v2 : Int32) (v3 : Int32) (v4 : Int32) (I : Ix) (L : Lx), P5 v1 v2 v3 v4 I L → Ef G MX12_firstBy (qI Q) 5 [(0, .ref 120), (1, .int v1), (2, .int v2), (3, .int v3), (4, .int v4)] [] I L) {v1 : Int32} {v2 : Int32} {v3 : Int32} {v4 : Int32} {I : Ix} {L : Lx} (h : wpX12_firstBy_b71 Q P5 v1 v2 v3 v4 I L) : Ef G MX12_firstBy (qI Q) 71 [(0, .ref 120), (1, .int v1), (2, .int v2), (3, .int v3), (4, .int v4)] [] I L := by
  unfold wpX12_firstBy_b71 at h
  refine Ev.iconst (pc' := 72) dX12_firstBy_71 rfl ki_0 ?_
  exact okX12_firstBy_b72 hP5 h
set_option maxRecDepth 10000 in
theorem okX12_firstBy_b67 {G : Gx} {Q : Int32 → Ix → Lx → Prop} {P5 : Int32 → Int32 → Int32 → Int32 → Ix → Lx → Prop} (hP5 : ∀ (v1 : Int32) (v2 : Int32) (v3 : Int32) (v4 : Int32) (I : Ix) (L : Lx), P5 v1 v2 v3 v4 I L → Ef G MX12_firstBy (qI Q) 5 [(0, .ref 120), (1, .int v1), (2, .int v2), (3, .int v3), (4, .int v4)] [] I L) {v1 : Int32} {v2 : Int32} {v3 : Int32} {v4 : Int32} {I : Ix} {L : Lx} (h : wpX12_firstBy_b67 Q P5 v1 v2 v3 v4 I L) : Ef G MX12_firstBy (qI Q) 67 [(0, .ref 120), (1, .int v1), (2, .int v2), (3, .int v3), (4, .int v4)] [] I L := by
  unfold wpX12_firstBy_b67 at h
  refine Ev.iconst (pc' := 68) dX12_firstBy_67 rfl ki_1 ?_
  refine Ev.goto (tgt := 72) dX12_firstBy_68 rfl ?_
  exact okX12_firstBy_b72 hP5 h
set_option maxRecDepth 10000 in
theorem okX12_firstBy_l5 {G : Gx} {Q : Int32 → Ix → Lx → Prop} {P5 : Int32 → Int32 → Int32 → Int32 → Ix → Lx → Prop} (hP5 : ∀ (v1 : Int32) (v2 : Int32) (v3 : Int32) (v4 : Int32) (I : Ix) (L : Lx), P5 v1 v2 v3 v4 I L → Ef G MX12_firstBy (qI Q) 5 [(0, .ref 120), (1, .int v1), (2, .int v2), (3, .int v3), (4, .int v4)] [] I L) {v1 : Int32} {v2 : Int32} {v3 : Int32} {v4 : Int32} {I : Ix} {L : Lx} (h : wpX12_firstBy_l5 Q P5 v1 v2 v3 v4 I L) : Ef G MX12_firstBy (qI Q) 5 [(0, .ref 120), (1, .int v1), (2, .int v2), (3, .int v3), (4, .int v4)] [] I L := by
  unfold wpX12_firstBy_l5 at h
  refine Ev.iload (k := 4) (pc' := 7) dX12_firstBy_5 rfl rfl ?_
  refine Ev.aload_n (k := 0) (pc' := 8) dX12_firstBy_7 rfl rfl rfl ?_
  refine Ev.getI (pc' := 11) dX12_firstBy_8 rfl fa_RX12_440 ob_120 fk_12_45 ?_
  refine Ev.icmp_ge (pc' := 14) (tgt := 92) dX12_firstBy_11 rfl rfl (fun hc => ?_) (fun hc => ?_)
  · have h := h.1 hc
    refine Ev.iload_n (k := 3) (pc' := 93) dX12_firstBy_92 rfl rfl rfl ?_
    exact Ef.iret dX12_firstBy_93 rfl h
  · have h := h.2 hc
    refine Ev.iload_n (k := 1) (pc' := 15) dX12_firstBy_14 rfl rfl rfl ?_
    refine Ev.iload (k := 4) (pc' := 17) dX12_firstBy_15 rfl rfl ?_
    refine Ev.ishr (pc' := 18) dX12_firstBy_17 rfl ?_
    refine Ev.iconst (pc' := 19) dX12_firstBy_18 rfl ki_1 ?_
    refine Ev.iand (pc' := 20) dX12_firstBy_19 rfl ?_
    refine Ev.if_ne (pc' := 23) (tgt := 26) dX12_firstBy_20 rfl rfl (fun hc => ?_) (fun hc => ?_)
    · have h := h.1 hc
      refine Ev.iload_n (k := 3) (pc' := 27) dX12_firstBy_26 rfl rfl rfl ?_
      refine Ev.if_lt (pc' := 30) (tgt := 67) dX12_firstBy_27 rfl rfl (fun hc => ?_) (fun hc => ?_)
      · have h := h.1 hc
        exact okX12_firstBy_b67 hP5 h
      · have h := h.2 hc
        refine Ev.iload_n (k := 2) (pc' := 31) dX12_firstBy_30 rfl rfl rfl ?_
        refine Ev.if_ne (pc' := 34) (tgt := 53) dX12_firstBy_31 rfl rfl (fun hc => ?_) (fun hc => ?_)
        · have h := h.1 hc
          refine Ev.aload_n (k := 0) (pc' := 54) dX12_firstBy_53 rfl rfl rfl ?_
          refine Ev.iload (k := 4) (pc' := 56) dX12_firstBy_54 rfl rfl ?_
          refine Ef.callVI [.int _] [] (pc' := 59) dX12_firstBy_56 rfl cv_RX12_505_X12_forceOf ⟨Nat.le_of_ble_eq_true rfl, Nat.le_of_ble_eq_true rfl⟩ ob_120 rfl rfl rfl (Nat.le_of_ble_eq_true rfl) (okX12_forceOf h) (fun r3 I1 L2 h => ?_)
          refine Ev.aload_n (k := 0) (pc' := 60) dX12_firstBy_59 rfl rfl rfl ?_
          refine Ev.iload_n (k := 3) (pc' := 61) dX12_firstBy_60 rfl rfl rfl ?_
          refine Ef.callVI [.int _] [.int _] (pc' := 64) dX12_firstBy_61 rfl cv_RX12_505_X12_forceOf ⟨Nat.le_of_ble_eq_true rfl, Nat.le_of_ble_eq_true rfl⟩ ob_120 rfl rfl rfl (Nat.le_of_ble_eq_true rfl) (okX12_forceOf h) (fun r6 I4 L5 h => ?_)
          refine Ev.icmp_le (pc' := 67) (tgt := 71) dX12_firstBy_64 rfl rfl (fun hc => ?_) (fun hc => ?_)
          · have h := h.1 hc
            exact okX12_firstBy_b71 hP5 h
          · have h := h.2 hc
            exact okX12_firstBy_b67 hP5 h
        · have h := h.2 hc
          refine Ev.aload_n (k := 0) (pc' := 35) dX12_firstBy_34 rfl rfl rfl ?_
          refine Ev.getR (pc' := 38) dX12_firstBy_35 rfl fa_RX12_136 ob_120 fk_12_74 rf_120_74 ?_
          refine Ev.iload (k := 4) (pc' := 40) dX12_firstBy_38 rfl rfl ?_
          refine Ev.iaload (j := _) (pc' := 41) dX12_firstBy_40 rfl ar_160 h.1 rfl ?_
          have h := h.2
          refine Ev.aload_n (k := 0) (pc' := 42) dX12_firstBy_41 rfl rfl rfl ?_
          refine Ev.getR (pc' := 45) dX12_firstBy_42 rfl fa_RX12_136 ob_120 fk_12_74 rf_120_74 ?_
          refine Ev.iload_n (k := 3) (pc' := 46) dX12_firstBy_45 rfl rfl rfl ?_
          refine Ev.iaload (j := _) (pc' := 47) dX12_firstBy_46 rfl ar_160 h.1 rfl ?_
          have h := h.2
          refine Ev.icmp_ge (pc' := 50) (tgt := 71) dX12_firstBy_47 rfl rfl (fun hc => ?_) (fun hc => ?_)
          · have h := h.1 hc
            exact okX12_firstBy_b71 hP5 h
          · have h := h.2 hc
            refine Ev.goto (tgt := 67) dX12_firstBy_50 rfl ?_
            exact okX12_firstBy_b67 hP5 h
    · have h := h.2 hc
      refine Ev.goto (tgt := 86) dX12_firstBy_23 rfl ?_
      refine Ev.iinc (k := 4) (v := _) (ls' := [(4, .int _), (0, .ref _), (1, .int _), (2, .int _), (3, .int _)]) (pc' := 89) dX12_firstBy_86 rfl rfl (congrArg (_ + ·) ki_1) (Nat.le_of_ble_eq_true rfl) rfl ?_
      refine Ev.goto (tgt := 5) dX12_firstBy_89 rfl ?_
      exact Ev.sub [1, 2, 3, 4, 0] rfl (hP5 _ _ _ _ _ _ h)
set_option maxRecDepth 10000 in
theorem okX12_firstBy_h5 {G : Gx} {Q : Int32 → Ix → Lx → Prop} {v1 : Int32} {v2 : Int32} {v3 : Int32} {v4 : Int32} {I : Ix} {L : Lx} (h : wpX12_firstBy_h5 Q v1 v2 v3 v4 I L) : Ef G MX12_firstBy (qI Q) 5 [(0, .ref 120), (1, .int v1), (2, .int v2), (3, .int v3), (4, .int v4)] [] I L := by
  unfold wpX12_firstBy_h5 at h
  refine Lfp.ind (P := fun z => Ef G MX12_firstBy (qI Q) 5 [(0, .ref 120), (1, .int z.1), (2, .int z.2.1), (3, .int z.2.2.1), (4, .int z.2.2.2.1)] [] z.2.2.2.2.1 z.2.2.2.2.2) ?_ h
  intro z P' hP' h
  obtain ⟨v1, v2, v3, v4, I, L⟩ := z
  exact okX12_firstBy_l5 (fun v1 v2 v3 v4 I L h9 => hP' (v1, v2, v3, v4, I, L) h9) h
set_option maxRecDepth 10000 in
theorem okX12_firstBy {G : Gx} {a1 : Int32} {a2 : Int32} {I : Ix} {L : Lx} {Q : Int32 → Ix → Lx → Prop} (h : wpX12_firstBy a1 a2 I L Q) : Mf G MX12_firstBy [.ref 120, .int a1, .int a2] I L (qI Q) := by
  unfold wpX12_firstBy at h
  refine Mf.of pn_RX12 (Nat.le_of_ble_eq_true rfl) ?_
  refine Ev.iconst (pc' := 1) dX12_firstBy_0 rfl ki_m1 ?_
  refine Ev.istore_n (ls' := [(3, .int _), (0, .ref _), (1, .int _), (2, .int _)]) (pc' := 2) dX12_firstBy_1 rfl rfl (Nat.le_of_ble_eq_true rfl) rfl ?_
  refine Ev.iconst (pc' := 3) dX12_firstBy_2 rfl ki_0 ?_
  refine Ev.istore (ls' := [(4, .int _), (3, .int _), (0, .ref _), (1, .int _), (2, .int _)]) (pc' := 5) dX12_firstBy_3 rfl (Nat.le_of_ble_eq_true rfl) rfl ?_
  exact Ev.sub [2, 3, 4, 1, 0] rfl (okX12_firstBy_h5 h)
def wpX12_standersOf_l4 (Q : Int32 → Ix → Lx → Prop) (P4 : Int32 → Int32 → Int32 → Ix → Lx → Prop) (v1 : Int32) (v2 : Int32) (v3 : Int32) (I : Ix) (L : Lx) : Prop := ((I 120 45) ≤ v3 → Q v2 I L) ∧ (¬ (I 120 45) ≤ v3 → vp_in v3 6 ∧ (¬ (I 159 v3.toNatClampNeg) = v1 → P4 v1 (v2 ||| 0) (v3 + 1) I L) ∧ ((I 159 v3.toNatClampNeg) = v1 → P4 v1 (v2 ||| (jshl 1 v3)) (v3 + 1) I L))
def wpX12_standersOf_h4 (Q : Int32 → Ix → Lx → Prop) (v1 : Int32) (v2 : Int32) (v3 : Int32) (I : Ix) (L : Lx) : Prop := Lfp (X := Int32 × Int32 × Int32 × Ix × Lx) (fun P z => wpX12_standersOf_l4 Q (fun v1 v2 v3 I L => P (v1, v2, v3, I, L)) z.1 z.2.1 z.2.2.1 z.2.2.2.1 z.2.2.2.2) (v1, v2, v3, I, L)
theorem wpX12_standersOf_h4_fold {Q : Int32 → Ix → Lx → Prop} {v1 : Int32} {v2 : Int32} {v3 : Int32} {I : Ix} {L : Lx} (h : wpX12_standersOf_l4 Q (wpX12_standersOf_h4 Q) v1 v2 v3 I L) : wpX12_standersOf_h4 Q v1 v2 v3 I L := Lfp.fold h
def wpX12_standersOf (a1 : Int32) (I : Ix) (L : Lx) (Q : Int32 → Ix → Lx → Prop) : Prop := wpX12_standersOf_h4 Q a1 0 0 I L
set_option maxRecDepth 10000 in
theorem okX12_standersOf_l4 {G : Gx} {Q : Int32 → Ix → Lx → Prop} {P4 : Int32 → Int32 → Int32 → Ix → Lx → Prop} (hP4 : ∀ (v1 : Int32) (v2 : Int32) (v3 : Int32) (I : Ix) (L : Lx), P4 v1 v2 v3 I L → Ef G MX12_standersOf (qI Q) 4 [(0, .ref 120), (1, .int v1), (2, .int v2), (3, .int v3)] [] I L) {v1 : Int32} {v2 : Int32} {v3 : Int32} {I : Ix} {L : Lx} (h : wpX12_standersOf_l4 Q P4 v1 v2 v3 I L) : Ef G MX12_standersOf (qI Q) 4 [(0, .ref 120), (1, .int v1), (2, .int v2), (3, .int v3)] [] I L := by
  unfold wpX12_standersOf_l4 at h
  refine Ev.iload_n (k := 3) (pc' := 5) dX12_standersOf_4 rfl rfl rfl ?_
  refine Ev.aload_n (k := 0) (pc' := 6) dX12_standersOf_5 rfl rfl rfl ?_
  refine Ev.getI (pc' := 9) dX12_standersOf_6 rfl fa_RX12_440 ob_120 fk_12_45 ?_
  refine Ev.icmp_ge (pc' := 12) (tgt := 38) dX12_standersOf_9 rfl rfl (fun hc => ?_) (fun hc => ?_)
  · have h := h.1 hc
    refine Ev.iload_n (k := 2) (pc' := 39) dX12_standersOf_38 rfl rfl rfl ?_
    exact Ef.iret dX12_standersOf_39 rfl h
  · have h := h.2 hc
    refine Ev.iload_n (k := 2) (pc' := 13) dX12_standersOf_12 rfl rfl rfl ?_
    refine Ev.aload_n (k := 0) (pc' := 14) dX12_standersOf_13 rfl rfl rfl ?_
    refine Ev.getR (pc' := 17) dX12_standersOf_14 rfl fa_RX12_133 ob_120 fk_12_73 rf_120_73 ?_
    refine Ev.iload_n (k := 3) (pc' := 18) dX12_standersOf_17 rfl rfl rfl ?_
    refine Ev.iaload (j := _) (pc' := 19) dX12_standersOf_18 rfl ar_159 h.1 rfl ?_
    have h := h.2
    refine Ev.iload_n (k := 1) (pc' := 20) dX12_standersOf_19 rfl rfl rfl ?_
    refine Ev.icmp_ne (pc' := 23) (tgt := 29) dX12_standersOf_20 rfl rfl (fun hc => ?_) (fun hc => ?_)
    · have h := h.1 hc
      refine Ev.iconst (pc' := 30) dX12_standersOf_29 rfl ki_0 ?_
      refine Ev.ior (pc' := 31) dX12_standersOf_30 rfl ?_
      refine Ev.istore_n (ls' := [(2, .int _), (0, .ref _), (1, .int _), (3, .int _)]) (pc' := 32) dX12_standersOf_31 rfl rfl (Nat.le_of_ble_eq_true rfl) rfl ?_
      refine Ev.iinc (k := 3) (v := _) (ls' := [(3, .int _), (2, .int _), (0, .ref _), (1, .int _)]) (pc' := 35) dX12_standersOf_32 rfl rfl (congrArg (_ + ·) ki_1) (Nat.le_of_ble_eq_true rfl) rfl ?_
      refine Ev.goto (tgt := 4) dX12_standersOf_35 rfl ?_
      exact Ev.sub [2, 3, 1, 0] rfl (hP4 _ _ _ _ _ h)
    · have h := h.2 hc
      refine Ev.iconst (pc' := 24) dX12_standersOf_23 rfl ki_1 ?_
      refine Ev.iload_n (k := 3) (pc' := 25) dX12_standersOf_24 rfl rfl rfl ?_
      refine Ev.ishl (pc' := 26) dX12_standersOf_25 rfl ?_
      refine Ev.goto (tgt := 30) dX12_standersOf_26 rfl ?_
      refine Ev.ior (pc' := 31) dX12_standersOf_30 rfl ?_
      refine Ev.istore_n (ls' := [(2, .int _), (0, .ref _), (1, .int _), (3, .int _)]) (pc' := 32) dX12_standersOf_31 rfl rfl (Nat.le_of_ble_eq_true rfl) rfl ?_
      refine Ev.iinc (k := 3) (v := _) (ls' := [(3, .int _), (2, .int _), (0, .ref _), (1, .int _)]) (pc' := 35) dX12_standersOf_32 rfl rfl (congrArg (_ + ·) ki_1) (Nat.le_of_ble_eq_true rfl) rfl ?_
      refine Ev.goto (tgt := 4) dX12_standersOf_35 rfl ?_
      exact Ev.sub [2, 3, 1, 0] rfl (hP4 _ _ _ _ _ h)
set_option maxRecDepth 10000 in
theorem okX12_standersOf_h4 {G : Gx} {Q : Int32 → Ix → Lx → Prop} {v1 : Int32} {v2 : Int32} {v3 : Int32} {I : Ix} {L : Lx} (h : wpX12_standersOf_h4 Q v1 v2 v3 I L) : Ef G MX12_standersOf (qI Q) 4 [(0, .ref 120), (1, .int v1), (2, .int v2), (3, .int v3)] [] I L := by
  unfold wpX12_standersOf_h4 at h
  refine Lfp.ind (P := fun z => Ef G MX12_standersOf (qI Q) 4 [(0, .ref 120), (1, .int z.1), (2, .int z.2.1), (3, .int z.2.2.1)] [] z.2.2.2.1 z.2.2.2.2) ?_ h
  intro z P' hP' h
  obtain ⟨v1, v2, v3, I, L⟩ := z
  exact okX12_standersOf_l4 (fun v1 v2 v3 I L h9 => hP' (v1, v2, v3, I, L) h9) h
set_option maxRecDepth 10000 in
theorem okX12_standersOf {G : Gx} {a1 : Int32} {I : Ix} {L : Lx} {Q : Int32 → Ix → Lx → Prop} (h : wpX12_standersOf a1 I L Q) : Mf G MX12_standersOf [.ref 120, .int a1] I L (qI Q) := by
  unfold wpX12_standersOf at h
  refine Mf.of pn_RX12 (Nat.le_of_ble_eq_true rfl) ?_
  refine Ev.iconst (pc' := 1) dX12_standersOf_0 rfl ki_0 ?_
  refine Ev.istore_n (ls' := [(2, .int _), (0, .ref _), (1, .int _)]) (pc' := 2) dX12_standersOf_1 rfl rfl (Nat.le_of_ble_eq_true rfl) rfl ?_
  refine Ev.iconst (pc' := 3) dX12_standersOf_2 rfl ki_0 ?_
  refine Ev.istore_n (ls' := [(3, .int _), (2, .int _), (0, .ref _), (1, .int _)]) (pc' := 4) dX12_standersOf_3 rfl rfl (Nat.le_of_ble_eq_true rfl) rfl ?_
  exact Ev.sub [2, 3, 1, 0] rfl (okX12_standersOf_h4 h)
def wpX12_takersOf_l4 (Q : Int32 → Ix → Lx → Prop) (P4 : Int32 → Int32 → Int32 → Ix → Lx → Prop) (v1 : Int32) (v2 : Int32) (v3 : Int32) (I : Ix) (L : Lx) : Prop := ((I 120 45) ≤ v3 → Q v2 I L) ∧ (¬ (I 120 45) ≤ v3 → vp_in v3 6 ∧ (¬ (I 159 v3.toNatClampNeg) = v1 → P4 v1 (v2 ||| 0) (v3 + 1) I L) ∧ ((I 159 v3.toNatClampNeg) = v1 → wpX12_forceOf v3 I L (fun r3 I1 L2 => wpX12_heavyOf v1 I1 L2 (fun r6 I4 L5 => (r3 < r6 → P4 v1 (v2 ||| 0) (v3 + 1) I4 L5) ∧ (¬ r3 < r6 → P4 v1 (v2 ||| (jshl 1 v3)) (v3 + 1) I4 L5)))))
def wpX12_takersOf_h4 (Q : Int32 → Ix → Lx → Prop) (v1 : Int32) (v2 : Int32) (v3 : Int32) (I : Ix) (L : Lx) : Prop := Lfp (X := Int32 × Int32 × Int32 × Ix × Lx) (fun P z => wpX12_takersOf_l4 Q (fun v1 v2 v3 I L => P (v1, v2, v3, I, L)) z.1 z.2.1 z.2.2.1 z.2.2.2.1 z.2.2.2.2) (v1, v2, v3, I, L)
theorem wpX12_takersOf_h4_fold {Q : Int32 → Ix → Lx → Prop} {v1 : Int32} {v2 : Int32} {v3 : Int32} {I : Ix} {L : Lx} (h : wpX12_takersOf_l4 Q (wpX12_takersOf_h4 Q) v1 v2 v3 I L) : wpX12_takersOf_h4 Q v1 v2 v3 I L := Lfp.fold h
def wpX12_takersOf (a1 : Int32) (I : Ix) (L : Lx) (Q : Int32 → Ix → Lx → Prop) : Prop := wpX12_takersOf_h4 Q a1 0 0 I L
set_option maxRecDepth 10000 in
theorem okX12_takersOf_l4 {G : Gx} {Q : Int32 → Ix → Lx → Prop} {P4 : Int32 → Int32 → Int32 → Ix → Lx → Prop} (hP4 : ∀ (v1 : Int32) (v2 : Int32) (v3 : Int32) (I : Ix) (L : Lx), P4 v1 v2 v3 I L → Ef G MX12_takersOf (qI Q) 4 [(0, .ref 120), (1, .int v1), (2, .int v2), (3, .int v3)] [] I L) {v1 : Int32} {v2 : Int32} {v3 : Int32} {I : Ix} {L : Lx} (h : wpX12_takersOf_l4 Q P4 v1 v2 v3 I L) : Ef G MX12_takersOf (qI Q) 4 [(0, .ref 120), (1, .int v1), (2, .int v2), (3, .int v3)] [] I L := by
  unfold wpX12_takersOf_l4 at h
  refine Ev.iload_n (k := 3) (pc' := 5) dX12_takersOf_4 rfl rfl rfl ?_
  refine Ev.aload_n (k := 0) (pc' := 6) dX12_takersOf_5 rfl rfl rfl ?_
  refine Ev.getI (pc' := 9) dX12_takersOf_6 rfl fa_RX12_440 ob_120 fk_12_45 ?_
  refine Ev.icmp_ge (pc' := 12) (tgt := 51) dX12_takersOf_9 rfl rfl (fun hc => ?_) (fun hc => ?_)
  · have h := h.1 hc
    refine Ev.iload_n (k := 2) (pc' := 52) dX12_takersOf_51 rfl rfl rfl ?_
    exact Ef.iret dX12_takersOf_52 rfl h
  · have h := h.2 hc
    refine Ev.iload_n (k := 2) (pc' := 13) dX12_takersOf_12 rfl rfl rfl ?_
    refine Ev.aload_n (k := 0) (pc' := 14) dX12_takersOf_13 rfl rfl rfl ?_
    refine Ev.getR (pc' := 17) dX12_takersOf_14 rfl fa_RX12_133 ob_120 fk_12_73 rf_120_73 ?_
    refine Ev.iload_n (k := 3) (pc' := 18) dX12_takersOf_17 rfl rfl rfl ?_
    refine Ev.iaload (j := _) (pc' := 19) dX12_takersOf_18 rfl ar_159 h.1 rfl ?_
    have h := h.2
    refine Ev.iload_n (k := 1) (pc' := 20) dX12_takersOf_19 rfl rfl rfl ?_
    refine Ev.icmp_ne (pc' := 23) (tgt := 42) dX12_takersOf_20 rfl rfl (fun hc => ?_) (fun hc => ?_)
    · have h := h.1 hc
      refine Ev.iconst (pc' := 43) dX12_takersOf_42 rfl ki_0 ?_
      refine Ev.ior (pc' := 44) dX12_takersOf_43 rfl ?_
      refine Ev.istore_n (ls' := [(2, .int _), (0, .ref _), (1, .int _), (3, .int _)]) (pc' := 45) dX12_takersOf_44 rfl rfl (Nat.le_of_ble_eq_true rfl) rfl ?_
      refine Ev.iinc (k := 3) (v := _) (ls' := [(3, .int _), (2, .int _), (0, .ref _), (1, .int _)]) (pc' := 48) dX12_takersOf_45 rfl rfl (congrArg (_ + ·) ki_1) (Nat.le_of_ble_eq_true rfl) rfl ?_
      refine Ev.goto (tgt := 4) dX12_takersOf_48 rfl ?_
      exact Ev.sub [2, 3, 1, 0] rfl (hP4 _ _ _ _ _ h)
    · have h := h.2 hc
      refine Ev.aload_n (k := 0) (pc' := 24) dX12_takersOf_23 rfl rfl rfl ?_
      refine Ev.iload_n (k := 3) (pc' := 25) dX12_takersOf_24 rfl rfl rfl ?_
      refine Ef.callVI [.int _] [.int _] (pc' := 28) dX12_takersOf_25 rfl cv_RX12_505_X12_forceOf ⟨Nat.le_of_ble_eq_true rfl, Nat.le_of_ble_eq_true rfl⟩ ob_120 rfl rfl rfl (Nat.le_of_ble_eq_true rfl) (okX12_forceOf h) (fun r3 I1 L2 h => ?_)
      refine Ev.aload_n (k := 0) (pc' := 29) dX12_takersOf_28 rfl rfl rfl ?_
      refine Ev.iload_n (k := 1) (pc' := 30) dX12_takersOf_29 rfl rfl rfl ?_
      refine Ef.callVI [.int _] [.int _, .int _] (pc' := 33) dX12_takersOf_30 rfl cv_RX12_499_X12_heavyOf ⟨Nat.le_of_ble_eq_true rfl, Nat.le_of_ble_eq_true rfl⟩ ob_120 rfl rfl rfl (Nat.le_of_ble_eq_true rfl) (okX12_heavyOf h) (fun r6 I4 L5 h => ?_)
      refine Ev.icmp_lt (pc' := 36) (tgt := 42) dX12_takersOf_33 rfl rfl (fun hc => ?_) (fun hc => ?_)
      · have h := h.1 hc
        refine Ev.iconst (pc' := 43) dX12_takersOf_42 rfl ki_0 ?_
        refine Ev.ior (pc' := 44) dX12_takersOf_43 rfl ?_
        refine Ev.istore_n (ls' := [(2, .int _), (0, .ref _), (1, .int _), (3, .int _)]) (pc' := 45) dX12_takersOf_44 rfl rfl (Nat.le_of_ble_eq_true rfl) rfl ?_
        refine Ev.iinc (k := 3) (v := _) (ls' := [(3, .int _), (2, .int _), (0, .ref _), (1, .int _)]) (pc' := 48) dX12_takersOf_45 rfl rfl (congrArg (_ + ·) ki_1) (Nat.le_of_ble_eq_true rfl) rfl ?_
        refine Ev.goto (tgt := 4) dX12_takersOf_48 rfl ?_
        exact Ev.sub [2, 3, 1, 0] rfl (hP4 _ _ _ _ _ h)
      · have h := h.2 hc
        refine Ev.iconst (pc' := 37) dX12_takersOf_36 rfl ki_1 ?_
        refine Ev.iload_n (k := 3) (pc' := 38) dX12_takersOf_37 rfl rfl rfl ?_
        refine Ev.ishl (pc' := 39) dX12_takersOf_38 rfl ?_
        refine Ev.goto (tgt := 43) dX12_takersOf_39 rfl ?_
        refine Ev.ior (pc' := 44) dX12_takersOf_43 rfl ?_
        refine Ev.istore_n (ls' := [(2, .int _), (0, .ref _), (1, .int _), (3, .int _)]) (pc' := 45) dX12_takersOf_44 rfl rfl (Nat.le_of_ble_eq_true rfl) rfl ?_
        refine Ev.iinc (k := 3) (v := _) (ls' := [(3, .int _), (2, .int _), (0, .ref _), (1, .int _)]) (pc' := 48) dX12_takersOf_45 rfl rfl (congrArg (_ + ·) ki_1) (Nat.le_of_ble_eq_true rfl) rfl ?_
        refine Ev.goto (tgt := 4) dX12_takersOf_48 rfl ?_
        exact Ev.sub [2, 3, 1, 0] rfl (hP4 _ _ _ _ _ h)
set_option maxRecDepth 10000 in
theorem okX12_takersOf_h4 {G : Gx} {Q : Int32 → Ix → Lx → Prop} {v1 : Int32} {v2 : Int32} {v3 : Int32} {I : Ix} {L : Lx} (h : wpX12_takersOf_h4 Q v1 v2 v3 I L) : Ef G MX12_takersOf (qI Q) 4 [(0, .ref 120), (1, .int v1), (2, .int v2), (3, .int v3)] [] I L := by
  unfold wpX12_takersOf_h4 at h
  refine Lfp.ind (P := fun z => Ef G MX12_takersOf (qI Q) 4 [(0, .ref 120), (1, .int z.1), (2, .int z.2.1), (3, .int z.2.2.1)] [] z.2.2.2.1 z.2.2.2.2) ?_ h
  intro z P' hP' h
  obtain ⟨v1, v2, v3, I, L⟩ := z
  exact okX12_takersOf_l4 (fun v1 v2 v3 I L h9 => hP' (v1, v2, v3, I, L) h9) h
set_option maxRecDepth 10000 in
theorem okX12_takersOf {G : Gx} {a1 : Int32} {I : Ix} {L : Lx} {Q : Int32 → Ix → Lx → Prop} (h : wpX12_takersOf a1 I L Q) : Mf G MX12_takersOf [.ref 120, .int a1] I L (qI Q) := by
  unfold wpX12_takersOf at h
  refine Mf.of pn_RX12 (Nat.le_of_ble_eq_true rfl) ?_
  refine Ev.iconst (pc' := 1) dX12_takersOf_0 rfl ki_0 ?_
  refine Ev.istore_n (ls' := [(2, .int _), (0, .ref _), (1, .int _)]) (pc' := 2) dX12_takersOf_1 rfl rfl (Nat.le_of_ble_eq_true rfl) rfl ?_
  refine Ev.iconst (pc' := 3) dX12_takersOf_2 rfl ki_0 ?_
  refine Ev.istore_n (ls' := [(3, .int _), (2, .int _), (0, .ref _), (1, .int _)]) (pc' := 4) dX12_takersOf_3 rfl rfl (Nat.le_of_ble_eq_true rfl) rfl ?_
  exact Ev.sub [2, 3, 1, 0] rfl (okX12_takersOf_h4 h)
def wpX12_giveBy_b98 (Q : Ix → Lx → Prop) (t1 : Int32) (t2 : Int32) (I : Ix) (L : Lx) : Prop := vp_in t1 10 ∧ ∀ I1 : Ix, I1 = pu I 143 t1.toNatClampNeg t2 → Q I1 L
def wpX12_giveBy_b44 (Q : Ix → Lx → Prop) (v1 : Int32) (v2 : Int32) (v3 : Int32) (I : Ix) (L : Lx) : Prop := (¬ v3 = 0 → wpX12_ones v3 I L (fun r3 I1 L2 => (v2 = 2 → (¬ r3 = 1 → wpX12_draw r3 I1 L2 (fun r6 I4 L5 => wpX12_nth v3 r6 I4 L5 (fun r9 I7 L8 => wpX12_giveBy_b98 Q v1 r9 I7 L8))) ∧ (r3 = 1 → wpX12_nth v3 0 I1 L2 (fun r12 I10 L11 => wpX12_giveBy_b98 Q v1 r12 I10 L11))) ∧ (¬ v2 = 2 → wpX12_firstBy v3 v2 I1 L2 (fun r15 I13 L14 => wpX12_giveBy_b98 Q v1 r15 I13 L14)))) ∧ (v3 = 0 → Q I L)
def wpX12_giveBy (a1 : Int32) (a2 : Int32) (I : Ix) (L : Lx) (Q : Ix → Lx → Prop) : Prop := wpX12_standersOf a1 I L (fun r3 I1 L2 => wpX12_ones r3 I1 L2 (fun r6 I4 L5 => vp_in a1 10 ∧ ∀ I7 : Ix, I7 = pu I4 145 a1.toNatClampNeg r6 → wpX12_takersOf a1 I7 L5 (fun r10 I8 L9 => vp_in a1 10 ∧ (¬ (I8 145 a1.toNatClampNeg) = 0 → wpX12_giveBy_b44 Q a1 a2 r10 I8 L9) ∧ ((I8 145 a1.toNatClampNeg) = 0 → wpX12_heavyOf a1 I8 L9 (fun r13 I11 L12 => (¬ r13 = 0 → wpX12_giveBy_b44 Q a1 a2 r10 I11 L12) ∧ (r13 = 0 → vp_in a1 10 ∧ ∀ I14 : Ix, I14 = pu I11 143 a1.toNatClampNeg (-1) → wpX12_giveBy_b44 Q a1 a2 r10 I14 L12))))))
set_option maxRecDepth 10000 in
theorem okX12_giveBy_b98 {G : Gx} {Q : Ix → Lx → Prop} {t1 : Int32} {t2 : Int32} {I : Ix} {L : Lx} (h : wpX12_giveBy_b98 Q t1 t2 I L) : Ef G MX12_giveBy (qV Q) 98 [] [.int t2, .int t1, .ref 143] I L := by
  unfold wpX12_giveBy_b98 at h
  refine Ev.iastore (j := _) (pc' := 99) dX12_giveBy_98 rfl ar_143 h.1 rfl (fun I1 eI1 => ?_)
  have h := h.2 I1 eI1
  exact Ef.vret dX12_giveBy_99 rfl h
set_option maxRecDepth 10000 in
theorem okX12_giveBy_b44 {G : Gx} {Q : Ix → Lx → Prop} {v1 : Int32} {v2 : Int32} {v3 : Int32} {I : Ix} {L : Lx} (h : wpX12_giveBy_b44 Q v1 v2 v3 I L) : Ef G MX12_giveBy (qV Q) 44 [(0, .ref 120), (1, .int v1), (2, .int v2), (3, .int v3)] [] I L := by
  unfold wpX12_giveBy_b44 at h
  refine Ev.iload_n (k := 3) (pc' := 45) dX12_giveBy_44 rfl rfl rfl ?_
  refine Ev.if_ne (pc' := 48) (tgt := 49) dX12_giveBy_45 rfl rfl (fun hc => ?_) (fun hc => ?_)
  · have h := h.1 hc
    refine Ev.iload_n (k := 3) (pc' := 50) dX12_giveBy_49 rfl rfl rfl ?_
    refine Ef.callSI [.int _] [] (pc' := 53) dX12_giveBy_50 rfl cv_RX12_521_X12_ones ⟨Nat.le_of_ble_eq_true rfl, Nat.le_of_ble_eq_true rfl⟩ rfl rfl (Nat.le_of_ble_eq_true rfl) (okX12_ones h) (fun r3 I1 L2 h => ?_)
    refine Ev.istore (ls' := [(4, .int _), (0, .ref _), (1, .int _), (2, .int _), (3, .int _)]) (pc' := 55) dX12_giveBy_53 rfl (Nat.le_of_ble_eq_true rfl) rfl ?_
    refine Ev.aload_n (k := 1) (pc' := 56) dX12_giveBy_55 rfl rfl rfl ?_
    refine Ev.getR (pc' := 59) dX12_giveBy_56 rfl fa_RX12_81 ob_120 fk_12_50 rf_120_50 ?_
    refine Ev.iload_n (k := 2) (pc' := 60) dX12_giveBy_59 rfl rfl rfl ?_
    refine Ev.iload_n (k := 3) (pc' := 61) dX12_giveBy_60 rfl rfl rfl ?_
    refine Ev.iconst (pc' := 62) dX12_giveBy_61 rfl ki_2 ?_
    refine Ev.icmp_eq (pc' := 65) (tgt := 74) dX12_giveBy_62 rfl rfl (fun hc => ?_) (fun hc => ?_)
    · have h := h.1 hc
      refine Ev.iload (k := 0) (pc' := 76) dX12_giveBy_74 rfl rfl ?_
      refine Ev.iconst (pc' := 77) dX12_giveBy_76 rfl ki_1 ?_
      refine Ev.icmp_ne (pc' := 80) (tgt := 88) dX12_giveBy_77 rfl rfl (fun hc => ?_) (fun hc => ?_)
      · have h := h.1 hc
        refine Ev.iload_n (k := 4) (pc' := 89) dX12_giveBy_88 rfl rfl rfl ?_
        refine Ev.aload_n (k := 1) (pc' := 90) dX12_giveBy_89 rfl rfl rfl ?_
        refine Ev.iload (k := 0) (pc' := 92) dX12_giveBy_90 rfl rfl ?_
        refine Ef.callVI [.int _] [.int _, .int _, .ref _] (pc' := 95) dX12_giveBy_92 rfl cv_RX12_533_X12_draw ⟨Nat.le_of_ble_eq_true rfl, Nat.le_of_ble_eq_true rfl⟩ ob_120 rfl rfl rfl (Nat.le_of_ble_eq_true rfl) (okX12_draw h) (fun r6 I4 L5 h => ?_)
        refine Ef.callSI [.int _, .int _] [.int _, .ref _] (pc' := 98) dX12_giveBy_95 rfl cv_RX12_530_X12_nth ⟨Nat.le_of_ble_eq_true rfl, Nat.le_of_ble_eq_true rfl⟩ rfl rfl (Nat.le_of_ble_eq_true rfl) (okX12_nth h) (fun r9 I7 L8 h => ?_)
        exact Ev.sub [] rfl (okX12_giveBy_b98 h)
      · have h := h.2 hc
        refine Ev.iload_n (k := 4) (pc' := 81) dX12_giveBy_80 rfl rfl rfl ?_
        refine Ev.iconst (pc' := 82) dX12_giveBy_81 rfl ki_0 ?_
        refine Ef.callSI [.int _, .int _] [.int _, .ref _] (pc' := 85) dX12_giveBy_82 rfl cv_RX12_530_X12_nth ⟨Nat.le_of_ble_eq_true rfl, Nat.le_of_ble_eq_true rfl⟩ rfl rfl (Nat.le_of_ble_eq_true rfl) (okX12_nth h) (fun r12 I10 L11 h => ?_)
        refine Ev.goto (tgt := 98) dX12_giveBy_85 rfl ?_
        exact Ev.sub [] rfl (okX12_giveBy_b98 h)
    · have h := h.2 hc
      refine Ev.aload_n (k := 1) (pc' := 66) dX12_giveBy_65 rfl rfl rfl ?_
      refine Ev.iload_n (k := 4) (pc' := 67) dX12_giveBy_66 rfl rfl rfl ?_
      refine Ev.iload_n (k := 3) (pc' := 68) dX12_giveBy_67 rfl rfl rfl ?_
      refine Ef.callVI [.int _, .int _] [.int _, .ref _] (pc' := 71) dX12_giveBy_68 rfl cv_RX12_527_X12_firstBy ⟨Nat.le_of_ble_eq_true rfl, Nat.le_of_ble_eq_true rfl⟩ ob_120 rfl rfl rfl (Nat.le_of_ble_eq_true rfl) (okX12_firstBy h) (fun r15 I13 L14 h => ?_)
      refine Ev.goto (tgt := 98) dX12_giveBy_71 rfl ?_
      exact Ev.sub [] rfl (okX12_giveBy_b98 h)
  · have h := h.2 hc
    exact Ef.vret dX12_giveBy_48 rfl h
set_option maxRecDepth 10000 in
theorem okX12_giveBy {G : Gx} {a1 : Int32} {a2 : Int32} {I : Ix} {L : Lx} {Q : Ix → Lx → Prop} (h : wpX12_giveBy a1 a2 I L Q) : Mf G MX12_giveBy [.ref 120, .int a1, .int a2] I L (qV Q) := by
  unfold wpX12_giveBy at h
  refine Mf.of pn_RX12 (Nat.le_of_ble_eq_true rfl) ?_
  refine Ev.aload_n (k := 0) (pc' := 1) dX12_giveBy_0 rfl rfl rfl ?_
  refine Ev.getR (pc' := 4) dX12_giveBy_1 rfl fa_RX12_87 ob_120 fk_12_52 rf_120_52 ?_
  refine Ev.iload_n (k := 1) (pc' := 5) dX12_giveBy_4 rfl rfl rfl ?_
  refine Ev.aload_n (k := 0) (pc' := 6) dX12_giveBy_5 rfl rfl rfl ?_
  refine Ev.iload_n (k := 1) (pc' := 7) dX12_giveBy_6 rfl rfl rfl ?_
  refine Ef.callVI [.int _] [.int _, .ref _] (pc' := 10) dX12_giveBy_7 rfl cv_RX12_518_X12_standersOf ⟨Nat.le_of_ble_eq_true rfl, Nat.le_of_ble_eq_true rfl⟩ ob_120 rfl rfl rfl (Nat.le_of_ble_eq_true rfl) (okX12_standersOf h) (fun r3 I1 L2 h => ?_)
  refine Ef.callSI [.int _] [.int _, .ref _] (pc' := 13) dX12_giveBy_10 rfl cv_RX12_521_X12_ones ⟨Nat.le_of_ble_eq_true rfl, Nat.le_of_ble_eq_true rfl⟩ rfl rfl (Nat.le_of_ble_eq_true rfl) (okX12_ones h) (fun r6 I4 L5 h => ?_)
  refine Ev.iastore (j := _) (pc' := 14) dX12_giveBy_13 rfl ar_145 h.1 rfl (fun I7 eI7 => ?_)
  have h := h.2 I7 eI7
  refine Ev.aload_n (k := 0) (pc' := 15) dX12_giveBy_14 rfl rfl rfl ?_
  refine Ev.iload_n (k := 1) (pc' := 16) dX12_giveBy_15 rfl rfl rfl ?_
  refine Ef.callVI [.int _] [] (pc' := 19) dX12_giveBy_16 rfl cv_RX12_524_X12_takersOf ⟨Nat.le_of_ble_eq_true rfl, Nat.le_of_ble_eq_true rfl⟩ ob_120 rfl rfl rfl (Nat.le_of_ble_eq_true rfl) (okX12_takersOf h) (fun r10 I8 L9 h => ?_)
  refine Ev.istore_n (ls' := [(3, .int _), (0, .ref _), (1, .int _), (2, .int _)]) (pc' := 20) dX12_giveBy_19 rfl rfl (Nat.le_of_ble_eq_true rfl) rfl ?_
  refine Ev.aload_n (k := 1) (pc' := 21) dX12_giveBy_20 rfl rfl rfl ?_
  refine Ev.getR (pc' := 24) dX12_giveBy_21 rfl fa_RX12_87 ob_120 fk_12_52 rf_120_52 ?_
  refine Ev.iload_n (k := 2) (pc' := 25) dX12_giveBy_24 rfl rfl rfl ?_
  refine Ev.iaload (j := _) (pc' := 26) dX12_giveBy_25 rfl ar_145 h.1 rfl ?_
  have h := h.2
  refine Ev.if_ne (pc' := 29) (tgt := 44) dX12_giveBy_26 rfl rfl (fun hc => ?_) (fun hc => ?_)
  · have h := h.1 hc
    exact Ev.sub [1, 2, 3, 0] rfl (okX12_giveBy_b44 h)
  · have h := h.2 hc
    refine Ev.aload_n (k := 1) (pc' := 30) dX12_giveBy_29 rfl rfl rfl ?_
    refine Ev.iload_n (k := 2) (pc' := 31) dX12_giveBy_30 rfl rfl rfl ?_
    refine Ef.callVI [.int _] [] (pc' := 34) dX12_giveBy_31 rfl cv_RX12_499_X12_heavyOf ⟨Nat.le_of_ble_eq_true rfl, Nat.le_of_ble_eq_true rfl⟩ ob_120 rfl rfl rfl (Nat.le_of_ble_eq_true rfl) (okX12_heavyOf h) (fun r13 I11 L12 h => ?_)
    refine Ev.if_ne (pc' := 37) (tgt := 44) dX12_giveBy_34 rfl rfl (fun hc => ?_) (fun hc => ?_)
    · have h := h.1 hc
      exact Ev.sub [1, 2, 3, 0] rfl (okX12_giveBy_b44 h)
    · have h := h.2 hc
      refine Ev.aload_n (k := 1) (pc' := 38) dX12_giveBy_37 rfl rfl rfl ?_
      refine Ev.getR (pc' := 41) dX12_giveBy_38 rfl fa_RX12_81 ob_120 fk_12_50 rf_120_50 ?_
      refine Ev.iload_n (k := 2) (pc' := 42) dX12_giveBy_41 rfl rfl rfl ?_
      refine Ev.iconst (pc' := 43) dX12_giveBy_42 rfl ki_m1 ?_
      refine Ev.iastore (j := _) (pc' := 44) dX12_giveBy_43 rfl ar_143 h.1 rfl (fun I14 eI14 => ?_)
      have h := h.2 I14 eI14
      exact Ev.sub [1, 2, 3, 0] rfl (okX12_giveBy_b44 h)
def wpX12_noonOf_l62 (Q : Ix → Lx → Prop) (P62 : Int32 → Int32 → Ix → Lx → Prop) (v1 : Int32) (v3 : Int32) (I : Ix) (L : Lx) : Prop := ((I 120 45) ≤ v3 → Q I L) ∧ (¬ (I 120 45) ≤ v3 → vp_in v3 6 ∧ ((I 159 v3.toNatClampNeg) < 0 → P62 v1 (v3 + 1) I L) ∧ (¬ (I 159 v3.toNatClampNeg) < 0 → vp_in v3 6 ∧ wpX12_placeOf (I 159 v3.toNatClampNeg) I L (fun r3 I1 L2 => (r3 = v1 → vp_in v3 6 ∧ ∀ I4 : Ix, I4 = pu I1 147 v3.toNatClampNeg v1 → vp_in v1 8 ∧ wpX12_goTo v3 (I4 138 v1.toNatClampNeg) 0 I4 L2 (fun I5 L6 => P62 v1 (v3 + 1) I5 L6)) ∧ (¬ r3 = v1 → P62 v1 (v3 + 1) I1 L2))))
def wpX12_noonOf_h62 (Q : Ix → Lx → Prop) (v1 : Int32) (v3 : Int32) (I : Ix) (L : Lx) : Prop := Lfp (X := Int32 × Int32 × Ix × Lx) (fun P z => wpX12_noonOf_l62 Q (fun v1 v3 I L => P (v1, v3, I, L)) z.1 z.2.1 z.2.2.1 z.2.2.2) (v1, v3, I, L)
theorem wpX12_noonOf_h62_fold {Q : Ix → Lx → Prop} {v1 : Int32} {v3 : Int32} {I : Ix} {L : Lx} (h : wpX12_noonOf_l62 Q (wpX12_noonOf_h62 Q) v1 v3 I L) : wpX12_noonOf_h62 Q v1 v3 I L := Lfp.fold h
def wpX12_noonOf_b48 (Q : Ix → Lx → Prop) (P2 : Int32 → Int32 → Int32 → Ix → Lx → Prop) (v1 : Int32) (v2 : Int32) (v3 : Int32) (I : Ix) (L : Lx) : Prop := wpX12_giveBy v3 v2 I L (fun I1 L2 => P2 v1 v2 (v3 + 1) I1 L2)
def wpX12_noonOf_l2 (Q : Ix → Lx → Prop) (P2 : Int32 → Int32 → Int32 → Ix → Lx → Prop) (v1 : Int32) (v2 : Int32) (v3 : Int32) (I : Ix) (L : Lx) : Prop := ((I 120 44) ≤ v3 → wpX12_noonOf_h62 Q v1 0 I L) ∧ (¬ (I 120 44) ≤ v3 → wpX12_placeOf v3 I L (fun r3 I1 L2 => (¬ r3 = v1 → P2 v1 v2 (v3 + 1) I1 L2) ∧ (r3 = v1 → vp_in v3 10 ∧ ((I1 149 v3.toNatClampNeg) = 0 → (¬ v3 = (I1 120 76) → wpX12_noonOf_b48 Q P2 v1 v2 v3 I1 L2) ∧ (v3 = (I1 120 76) → wpX12_takersOf v3 I1 L2 (fun r6 I4 L5 => ∀ I7 : Ix, I7 = pu I4 120 77 r6 → wpX12_noonOf_b48 Q P2 v1 v2 v3 I7 L5))) ∧ (¬ (I1 149 v3.toNatClampNeg) = 0 → P2 v1 v2 (v3 + 1) I1 L2))))
def wpX12_noonOf_h2 (Q : Ix → Lx → Prop) (v1 : Int32) (v2 : Int32) (v3 : Int32) (I : Ix) (L : Lx) : Prop := Lfp (X := Int32 × Int32 × Int32 × Ix × Lx) (fun P z => wpX12_noonOf_l2 Q (fun v1 v2 v3 I L => P (v1, v2, v3, I, L)) z.1 z.2.1 z.2.2.1 z.2.2.2.1 z.2.2.2.2) (v1, v2, v3, I, L)
theorem wpX12_noonOf_h2_fold {Q : Ix → Lx → Prop} {v1 : Int32} {v2 : Int32} {v3 : Int32} {I : Ix} {L : Lx} (h : wpX12_noonOf_l2 Q (wpX12_noonOf_h2 Q) v1 v2 v3 I L) : wpX12_noonOf_h2 Q v1 v2 v3 I L := Lfp.fold h
def wpX12_noonOf (a1 : Int32) (a2 : Int32) (I : Ix) (L : Lx) (Q : Ix → Lx → Prop) : Prop := wpX12_noonOf_h2 Q a1 a2 0 I L
set_option maxRecDepth 10000 in
theorem okX12_noonOf_l62 {G : Gx} {Q : Ix → Lx → Prop} {P62 : Int32 → Int32 → Ix → Lx → Prop} (hP62 : ∀ (v1 : Int32) (v3 : Int32) (I : Ix) (L : Lx), P62 v1 v3 I L → Ef G MX12_noonOf (qV Q) 62 [(0, .ref 120), (1, .int v1), (3, .int v3)] [] I L) {v1 : Int32} {v3 : Int32} {I : Ix} {L : Lx} (h : wpX12_noonOf_l62 Q P62 v1 v3 I L) : Ef G MX12_noonOf (qV Q) 62 [(0, .ref 120), (1, .int v1), (3, .int v3)] [] I L := by
  unfold wpX12_noonOf_l62 at h
  refine Ev.iload_n (k := 2) (pc' := 63) dX12_noonOf_62 rfl rfl rfl ?_
  refine Ev.aload_n (k := 0) (pc' := 64) dX12_noonOf_63 rfl rfl rfl ?_
  refine Ev.getI (pc' := 67) dX12_noonOf_64 rfl fa_RX12_440 ob_120 fk_12_45 ?_
  refine Ev.icmp_ge (pc' := 70) (tgt := 121) dX12_noonOf_67 rfl rfl (fun hc => ?_) (fun hc => ?_)
  · have h := h.1 hc
    exact Ef.vret dX12_noonOf_121 rfl h
  · have h := h.2 hc
    refine Ev.aload_n (k := 0) (pc' := 71) dX12_noonOf_70 rfl rfl rfl ?_
    refine Ev.getR (pc' := 74) dX12_noonOf_71 rfl fa_RX12_133 ob_120 fk_12_73 rf_120_73 ?_
    refine Ev.iload_n (k := 2) (pc' := 75) dX12_noonOf_74 rfl rfl rfl ?_
    refine Ev.iaload (j := _) (pc' := 76) dX12_noonOf_75 rfl ar_159 h.1 rfl ?_
    have h := h.2
    refine Ev.if_lt (pc' := 79) (tgt := 115) dX12_noonOf_76 rfl rfl (fun hc => ?_) (fun hc => ?_)
    · have h := h.1 hc
      refine Ev.iinc (k := 2) (v := _) (ls' := [(3, .int _), (0, .ref _), (1, .int _)]) (pc' := 118) dX12_noonOf_115 rfl rfl (congrArg (_ + ·) ki_1) (Nat.le_of_ble_eq_true rfl) rfl ?_
      refine Ev.goto (tgt := 62) dX12_noonOf_118 rfl ?_
      exact Ev.sub [1, 2, 0] rfl (hP62 _ _ _ _ h)
    · have h := h.2 hc
      refine Ev.aload_n (k := 0) (pc' := 80) dX12_noonOf_79 rfl rfl rfl ?_
      refine Ev.aload_n (k := 0) (pc' := 81) dX12_noonOf_80 rfl rfl rfl ?_
      refine Ev.getR (pc' := 84) dX12_noonOf_81 rfl fa_RX12_133 ob_120 fk_12_73 rf_120_73 ?_
      refine Ev.iload_n (k := 2) (pc' := 85) dX12_noonOf_84 rfl rfl rfl ?_
      refine Ev.iaload (j := _) (pc' := 86) dX12_noonOf_85 rfl ar_159 h.1 rfl ?_
      have h := h.2
      refine Ef.callVI [.int _] [] (pc' := 89) dX12_noonOf_86 rfl cv_RX12_502_X12_placeOf ⟨Nat.le_of_ble_eq_true rfl, Nat.le_of_ble_eq_true rfl⟩ ob_120 rfl rfl rfl (Nat.le_of_ble_eq_true rfl) (okX12_placeOf h) (fun r3 I1 L2 h => ?_)
      refine Ev.iload_n (k := 1) (pc' := 90) dX12_noonOf_89 rfl rfl rfl ?_
      refine Ev.icmp_eq (pc' := 93) (tgt := 96) dX12_noonOf_90 rfl rfl (fun hc => ?_) (fun hc => ?_)
      · have h := h.1 hc
        refine Ev.aload_n (k := 0) (pc' := 97) dX12_noonOf_96 rfl rfl rfl ?_
        refine Ev.getR (pc' := 100) dX12_noonOf_97 rfl fa_RX12_93 ob_120 fk_12_54 rf_120_54 ?_
        refine Ev.iload_n (k := 2) (pc' := 101) dX12_noonOf_100 rfl rfl rfl ?_
        refine Ev.iload_n (k := 1) (pc' := 102) dX12_noonOf_101 rfl rfl rfl ?_
        refine Ev.iastore (j := _) (pc' := 103) dX12_noonOf_102 rfl ar_147 h.1 rfl (fun I4 eI4 => ?_)
        have h := h.2 I4 eI4
        refine Ev.aload_n (k := 0) (pc' := 104) dX12_noonOf_103 rfl rfl rfl ?_
        refine Ev.iload_n (k := 2) (pc' := 105) dX12_noonOf_104 rfl rfl rfl ?_
        refine Ev.aload_n (k := 0) (pc' := 106) dX12_noonOf_105 rfl rfl rfl ?_
        refine Ev.getR (pc' := 109) dX12_noonOf_106 rfl fa_RX12_66 ob_120 fk_12_31 rf_120_31 ?_
        refine Ev.iload_n (k := 1) (pc' := 110) dX12_noonOf_109 rfl rfl rfl ?_
        refine Ev.iaload (j := _) (pc' := 111) dX12_noonOf_110 rfl ar_138 h.1 rfl ?_
        have h := h.2
        refine Ev.iconst (pc' := 112) dX12_noonOf_111 rfl ki_0 ?_
        refine Ef.callVV [.int _, .int _, .int _] [] (pc' := 115) dX12_noonOf_112 rfl cv_RX12_542_X12_goTo ⟨Nat.le_of_ble_eq_true rfl, Nat.le_of_ble_eq_true rfl⟩ ob_120 rfl rfl rfl (Nat.le_of_ble_eq_true rfl) (okX12_goTo h) (fun I5 L6 h => ?_)
        refine Ev.iinc (k := 2) (v := _) (ls' := [(3, .int _), (0, .ref _), (1, .int _)]) (pc' := 118) dX12_noonOf_115 rfl rfl (congrArg (_ + ·) ki_1) (Nat.le_of_ble_eq_true rfl) rfl ?_
        refine Ev.goto (tgt := 62) dX12_noonOf_118 rfl ?_
        exact Ev.sub [1, 2, 0] rfl (hP62 _ _ _ _ h)
      · have h := h.2 hc
        refine Ev.goto (tgt := 115) dX12_noonOf_93 rfl ?_
        refine Ev.iinc (k := 2) (v := _) (ls' := [(3, .int _), (0, .ref _), (1, .int _)]) (pc' := 118) dX12_noonOf_115 rfl rfl (congrArg (_ + ·) ki_1) (Nat.le_of_ble_eq_true rfl) rfl ?_
        refine Ev.goto (tgt := 62) dX12_noonOf_118 rfl ?_
        exact Ev.sub [1, 2, 0] rfl (hP62 _ _ _ _ h)
set_option maxRecDepth 10000 in
theorem okX12_noonOf_h62 {G : Gx} {Q : Ix → Lx → Prop} {v1 : Int32} {v3 : Int32} {I : Ix} {L : Lx} (h : wpX12_noonOf_h62 Q v1 v3 I L) : Ef G MX12_noonOf (qV Q) 62 [(0, .ref 120), (1, .int v1), (3, .int v3)] [] I L := by
  unfold wpX12_noonOf_h62 at h
  refine Lfp.ind (P := fun z => Ef G MX12_noonOf (qV Q) 62 [(0, .ref 120), (1, .int z.1), (3, .int z.2.1)] [] z.2.2.1 z.2.2.2) ?_ h
  intro z P' hP' h
  obtain ⟨v1, v3, I, L⟩ := z
  exact okX12_noonOf_l62 (fun v1 v3 I L h9 => hP' (v1, v3, I, L) h9) h
set_option maxRecDepth 10000 in
theorem okX12_noonOf_b48 {G : Gx} {Q : Ix → Lx → Prop} {P2 : Int32 → Int32 → Int32 → Ix → Lx → Prop} (hP2 : ∀ (v1 : Int32) (v2 : Int32) (v3 : Int32) (I : Ix) (L : Lx), P2 v1 v2 v3 I L → Ef G MX12_noonOf (qV Q) 2 [(0, .ref 120), (1, .int v1), (2, .int v2), (3, .int v3)] [] I L) {v1 : Int32} {v2 : Int32} {v3 : Int32} {I : Ix} {L : Lx} (h : wpX12_noonOf_b48 Q P2 v1 v2 v3 I L) : Ef G MX12_noonOf (qV Q) 48 [(0, .ref 120), (1, .int v1), (2, .int v2), (3, .int v3)] [] I L := by
  unfold wpX12_noonOf_b48 at h
  refine Ev.aload_n (k := 0) (pc' := 49) dX12_noonOf_48 rfl rfl rfl ?_
  refine Ev.iload_n (k := 3) (pc' := 50) dX12_noonOf_49 rfl rfl rfl ?_
  refine Ev.iload_n (k := 2) (pc' := 51) dX12_noonOf_50 rfl rfl rfl ?_
  refine Ef.callVV [.int _, .int _] [] (pc' := 54) dX12_noonOf_51 rfl cv_RX12_539_X12_giveBy ⟨Nat.le_of_ble_eq_true rfl, Nat.le_of_ble_eq_true rfl⟩ ob_120 rfl rfl rfl (Nat.le_of_ble_eq_true rfl) (okX12_giveBy h) (fun I1 L2 h => ?_)
  refine Ev.iinc (k := 3) (v := _) (ls' := [(3, .int _), (0, .ref _), (1, .int _), (2, .int _)]) (pc' := 57) dX12_noonOf_54 rfl rfl (congrArg (_ + ·) ki_1) (Nat.le_of_ble_eq_true rfl) rfl ?_
  refine Ev.goto (tgt := 2) dX12_noonOf_57 rfl ?_
  exact Ev.sub [1, 2, 3, 0] rfl (hP2 _ _ _ _ _ h)
set_option maxRecDepth 10000 in
theorem okX12_noonOf_l2 {G : Gx} {Q : Ix → Lx → Prop} {P2 : Int32 → Int32 → Int32 → Ix → Lx → Prop} (hP2 : ∀ (v1 : Int32) (v2 : Int32) (v3 : Int32) (I : Ix) (L : Lx), P2 v1 v2 v3 I L → Ef G MX12_noonOf (qV Q) 2 [(0, .ref 120), (1, .int v1), (2, .int v2), (3, .int v3)] [] I L) {v1 : Int32} {v2 : Int32} {v3 : Int32} {I : Ix} {L : Lx} (h : wpX12_noonOf_l2 Q P2 v1 v2 v3 I L) : Ef G MX12_noonOf (qV Q) 2 [(0, .ref 120), (1, .int v1), (2, .int v2), (3, .int v3)] [] I L := by
  unfold wpX12_noonOf_l2 at h
  refine Ev.iload_n (k := 3) (pc' := 3) dX12_noonOf_2 rfl rfl rfl ?_
  refine Ev.aload_n (k := 0) (pc' := 4) dX12_noonOf_3 rfl rfl rfl ?_
  refine Ev.getI (pc' := 7) dX12_noonOf_4 rfl fa_RX12_437 ob_120 fk_12_44 ?_
  refine Ev.icmp_ge (pc' := 10) (tgt := 60) dX12_noonOf_7 rfl rfl (fun hc => ?_) (fun hc => ?_)
  · have h := h.1 hc
    refine Ev.iconst (pc' := 61) dX12_noonOf_60 rfl ki_0 ?_
    refine Ev.istore_n (ls' := [(3, .int _), (0, .ref _), (1, .int _), (2, .int _)]) (pc' := 62) dX12_noonOf_61 rfl rfl (Nat.le_of_ble_eq_true rfl) rfl ?_
    exact Ev.sub [1, 2, 0] rfl (okX12_noonOf_h62 h)
  · have h := h.2 hc
    refine Ev.aload_n (k := 0) (pc' := 11) dX12_noonOf_10 rfl rfl rfl ?_
    refine Ev.iload_n (k := 3) (pc' := 12) dX12_noonOf_11 rfl rfl rfl ?_
    refine Ef.callVI [.int _] [] (pc' := 15) dX12_noonOf_12 rfl cv_RX12_502_X12_placeOf ⟨Nat.le_of_ble_eq_true rfl, Nat.le_of_ble_eq_true rfl⟩ ob_120 rfl rfl rfl (Nat.le_of_ble_eq_true rfl) (okX12_placeOf h) (fun r3 I1 L2 h => ?_)
    refine Ev.iload_n (k := 1) (pc' := 16) dX12_noonOf_15 rfl rfl rfl ?_
    refine Ev.icmp_ne (pc' := 19) (tgt := 54) dX12_noonOf_16 rfl rfl (fun hc => ?_) (fun hc => ?_)
    · have h := h.1 hc
      refine Ev.iinc (k := 3) (v := _) (ls' := [(3, .int _), (0, .ref _), (1, .int _), (2, .int _)]) (pc' := 57) dX12_noonOf_54 rfl rfl (congrArg (_ + ·) ki_1) (Nat.le_of_ble_eq_true rfl) rfl ?_
      refine Ev.goto (tgt := 2) dX12_noonOf_57 rfl ?_
      exact Ev.sub [1, 2, 3, 0] rfl (hP2 _ _ _ _ _ h)
    · have h := h.2 hc
      refine Ev.aload_n (k := 0) (pc' := 20) dX12_noonOf_19 rfl rfl rfl ?_
      refine Ev.getR (pc' := 23) dX12_noonOf_20 rfl fa_RX12_99 ob_120 fk_12_56 rf_120_56 ?_
      refine Ev.iload_n (k := 3) (pc' := 24) dX12_noonOf_23 rfl rfl rfl ?_
      refine Ev.zaload (j := _) (pc' := 25) dX12_noonOf_24 rfl ar_149 h.1 rfl ?_
      have h := h.2
      refine Ev.if_eq (pc' := 28) (tgt := 31) dX12_noonOf_25 rfl rfl (fun hc => ?_) (fun hc => ?_)
      · have h := h.1 hc
        refine Ev.iload_n (k := 3) (pc' := 32) dX12_noonOf_31 rfl rfl rfl ?_
        refine Ev.aload_n (k := 0) (pc' := 33) dX12_noonOf_32 rfl rfl rfl ?_
        refine Ev.getI (pc' := 36) dX12_noonOf_33 rfl fa_RX12_139 ob_120 fk_12_76 ?_
        refine Ev.icmp_ne (pc' := 39) (tgt := 48) dX12_noonOf_36 rfl rfl (fun hc => ?_) (fun hc => ?_)
        · have h := h.1 hc
          exact okX12_noonOf_b48 hP2 h
        · have h := h.2 hc
          refine Ev.aload_n (k := 0) (pc' := 40) dX12_noonOf_39 rfl rfl rfl ?_
          refine Ev.aload_n (k := 0) (pc' := 41) dX12_noonOf_40 rfl rfl rfl ?_
          refine Ev.iload_n (k := 3) (pc' := 42) dX12_noonOf_41 rfl rfl rfl ?_
          refine Ef.callVI [.int _] [.ref _] (pc' := 45) dX12_noonOf_42 rfl cv_RX12_524_X12_takersOf ⟨Nat.le_of_ble_eq_true rfl, Nat.le_of_ble_eq_true rfl⟩ ob_120 rfl rfl rfl (Nat.le_of_ble_eq_true rfl) (okX12_takersOf h) (fun r6 I4 L5 h => ?_)
          refine Ev.putI (pc' := 48) dX12_noonOf_45 rfl fa_RX12_536 ob_120 fk_12_77 rfl rfl (fun I7 eI7 => ?_)
          have h := h I7 eI7
          exact okX12_noonOf_b48 hP2 h
      · have h := h.2 hc
        refine Ev.goto (tgt := 54) dX12_noonOf_28 rfl ?_
        refine Ev.iinc (k := 3) (v := _) (ls' := [(3, .int _), (0, .ref _), (1, .int _), (2, .int _)]) (pc' := 57) dX12_noonOf_54 rfl rfl (congrArg (_ + ·) ki_1) (Nat.le_of_ble_eq_true rfl) rfl ?_
        refine Ev.goto (tgt := 2) dX12_noonOf_57 rfl ?_
        exact Ev.sub [1, 2, 3, 0] rfl (hP2 _ _ _ _ _ h)
set_option maxRecDepth 10000 in
theorem okX12_noonOf_h2 {G : Gx} {Q : Ix → Lx → Prop} {v1 : Int32} {v2 : Int32} {v3 : Int32} {I : Ix} {L : Lx} (h : wpX12_noonOf_h2 Q v1 v2 v3 I L) : Ef G MX12_noonOf (qV Q) 2 [(0, .ref 120), (1, .int v1), (2, .int v2), (3, .int v3)] [] I L := by
  unfold wpX12_noonOf_h2 at h
  refine Lfp.ind (P := fun z => Ef G MX12_noonOf (qV Q) 2 [(0, .ref 120), (1, .int z.1), (2, .int z.2.1), (3, .int z.2.2.1)] [] z.2.2.2.1 z.2.2.2.2) ?_ h
  intro z P' hP' h
  obtain ⟨v1, v2, v3, I, L⟩ := z
  exact okX12_noonOf_l2 (fun v1 v2 v3 I L h9 => hP' (v1, v2, v3, I, L) h9) h
set_option maxRecDepth 10000 in
theorem okX12_noonOf {G : Gx} {a1 : Int32} {a2 : Int32} {I : Ix} {L : Lx} {Q : Ix → Lx → Prop} (h : wpX12_noonOf a1 a2 I L Q) : Mf G MX12_noonOf [.ref 120, .int a1, .int a2] I L (qV Q) := by
  unfold wpX12_noonOf at h
  refine Mf.of pn_RX12 (Nat.le_of_ble_eq_true rfl) ?_
  refine Ev.iconst (pc' := 1) dX12_noonOf_0 rfl ki_0 ?_
  refine Ev.istore_n (ls' := [(3, .int _), (0, .ref _), (1, .int _), (2, .int _)]) (pc' := 2) dX12_noonOf_1 rfl rfl (Nat.le_of_ble_eq_true rfl) rfl ?_
  exact Ev.sub [1, 2, 3, 0] rfl (okX12_noonOf_h2 h)
def wpX12_beginNoons_l2 (Q : Ix → Lx → Prop) (P2 : Int32 → Int32 → Ix → Lx → Prop) (v1 : Int32) (v2 : Int32) (I : Ix) (L : Lx) : Prop := (10 ≤ v2 → ∀ I1 : Ix, I1 = pu I 120 75 v1 → Q I1 L) ∧ (¬ 10 ≤ v2 → vp_in v2 10 ∧ vp_in v2 10 ∧ ∀ I2 : Ix, I2 = pu I 157 v2.toNatClampNeg (I 143 v2.toNatClampNeg) → vp_in v2 10 ∧ vp_in v2 10 ∧ ∀ I3 : Ix, I3 = pu I2 158 v2.toNatClampNeg (I2 145 v2.toNatClampNeg) → P2 v1 (v2 + 1) I3 L)
def wpX12_beginNoons_h2 (Q : Ix → Lx → Prop) (v1 : Int32) (v2 : Int32) (I : Ix) (L : Lx) : Prop := Lfp (X := Int32 × Int32 × Ix × Lx) (fun P z => wpX12_beginNoons_l2 Q (fun v1 v2 I L => P (v1, v2, I, L)) z.1 z.2.1 z.2.2.1 z.2.2.2) (v1, v2, I, L)
theorem wpX12_beginNoons_h2_fold {Q : Ix → Lx → Prop} {v1 : Int32} {v2 : Int32} {I : Ix} {L : Lx} (h : wpX12_beginNoons_l2 Q (wpX12_beginNoons_h2 Q) v1 v2 I L) : wpX12_beginNoons_h2 Q v1 v2 I L := Lfp.fold h
def wpX12_beginNoons (a1 : Int32) (I : Ix) (L : Lx) (Q : Ix → Lx → Prop) : Prop := wpX12_beginNoons_h2 Q a1 0 I L
set_option maxRecDepth 10000 in
theorem okX12_beginNoons_l2 {G : Gx} {Q : Ix → Lx → Prop} {P2 : Int32 → Int32 → Ix → Lx → Prop} (hP2 : ∀ (v1 : Int32) (v2 : Int32) (I : Ix) (L : Lx), P2 v1 v2 I L → Ef G MX12_beginNoons (qV Q) 2 [(0, .ref 120), (1, .int v1), (2, .int v2)] [] I L) {v1 : Int32} {v2 : Int32} {I : Ix} {L : Lx} (h : wpX12_beginNoons_l2 Q P2 v1 v2 I L) : Ef G MX12_beginNoons (qV Q) 2 [(0, .ref 120), (1, .int v1), (2, .int v2)] [] I L := by
  unfold wpX12_beginNoons_l2 at h
  refine Ev.iload_n (k := 2) (pc' := 3) dX12_beginNoons_2 rfl rfl rfl ?_
  refine Ev.bipush (pc' := 5) dX12_beginNoons_3 rfl kb_10 ?_
  refine Ev.icmp_ge (pc' := 8) (tgt := 38) dX12_beginNoons_5 rfl rfl (fun hc => ?_) (fun hc => ?_)
  · have h := h.1 hc
    refine Ev.aload_n (k := 0) (pc' := 39) dX12_beginNoons_38 rfl rfl rfl ?_
    refine Ev.iload_n (k := 1) (pc' := 40) dX12_beginNoons_39 rfl rfl rfl ?_
    refine Ev.putI (pc' := 43) dX12_beginNoons_40 rfl fa_RX12_496 ob_120 fk_12_75 rfl rfl (fun I1 eI1 => ?_)
    have h := h I1 eI1
    exact Ef.vret dX12_beginNoons_43 rfl h
  · have h := h.2 hc
    refine Ev.aload_n (k := 0) (pc' := 9) dX12_beginNoons_8 rfl rfl rfl ?_
    refine Ev.getR (pc' := 12) dX12_beginNoons_9 rfl fa_RX12_127 ob_120 fk_12_71 rf_120_71 ?_
    refine Ev.iload_n (k := 2) (pc' := 13) dX12_beginNoons_12 rfl rfl rfl ?_
    refine Ev.aload_n (k := 0) (pc' := 14) dX12_beginNoons_13 rfl rfl rfl ?_
    refine Ev.getR (pc' := 17) dX12_beginNoons_14 rfl fa_RX12_81 ob_120 fk_12_50 rf_120_50 ?_
    refine Ev.iload_n (k := 2) (pc' := 18) dX12_beginNoons_17 rfl rfl rfl ?_
    refine Ev.iaload (j := _) (pc' := 19) dX12_beginNoons_18 rfl ar_143 h.1 rfl ?_
    have h := h.2
    refine Ev.iastore (j := _) (pc' := 20) dX12_beginNoons_19 rfl ar_157 h.1 rfl (fun I2 eI2 => ?_)
    have h := h.2 I2 eI2
    refine Ev.aload_n (k := 0) (pc' := 21) dX12_beginNoons_20 rfl rfl rfl ?_
    refine Ev.getR (pc' := 24) dX12_beginNoons_21 rfl fa_RX12_130 ob_120 fk_12_72 rf_120_72 ?_
    refine Ev.iload_n (k := 2) (pc' := 25) dX12_beginNoons_24 rfl rfl rfl ?_
    refine Ev.aload_n (k := 0) (pc' := 26) dX12_beginNoons_25 rfl rfl rfl ?_
    refine Ev.getR (pc' := 29) dX12_beginNoons_26 rfl fa_RX12_87 ob_120 fk_12_52 rf_120_52 ?_
    refine Ev.iload_n (k := 2) (pc' := 30) dX12_beginNoons_29 rfl rfl rfl ?_
    refine Ev.iaload (j := _) (pc' := 31) dX12_beginNoons_30 rfl ar_145 h.1 rfl ?_
    have h := h.2
    refine Ev.iastore (j := _) (pc' := 32) dX12_beginNoons_31 rfl ar_158 h.1 rfl (fun I3 eI3 => ?_)
    have h := h.2 I3 eI3
    refine Ev.iinc (k := 2) (v := _) (ls' := [(2, .int _), (0, .ref _), (1, .int _)]) (pc' := 35) dX12_beginNoons_32 rfl rfl (congrArg (_ + ·) ki_1) (Nat.le_of_ble_eq_true rfl) rfl ?_
    refine Ev.goto (tgt := 2) dX12_beginNoons_35 rfl ?_
    exact Ev.sub [1, 2, 0] rfl (hP2 _ _ _ _ h)
set_option maxRecDepth 10000 in
theorem okX12_beginNoons_h2 {G : Gx} {Q : Ix → Lx → Prop} {v1 : Int32} {v2 : Int32} {I : Ix} {L : Lx} (h : wpX12_beginNoons_h2 Q v1 v2 I L) : Ef G MX12_beginNoons (qV Q) 2 [(0, .ref 120), (1, .int v1), (2, .int v2)] [] I L := by
  unfold wpX12_beginNoons_h2 at h
  refine Lfp.ind (P := fun z => Ef G MX12_beginNoons (qV Q) 2 [(0, .ref 120), (1, .int z.1), (2, .int z.2.1)] [] z.2.2.1 z.2.2.2) ?_ h
  intro z P' hP' h
  obtain ⟨v1, v2, I, L⟩ := z
  exact okX12_beginNoons_l2 (fun v1 v2 I L h9 => hP' (v1, v2, I, L) h9) h
set_option maxRecDepth 10000 in
theorem okX12_beginNoons {G : Gx} {a1 : Int32} {I : Ix} {L : Lx} {Q : Ix → Lx → Prop} (h : wpX12_beginNoons a1 I L Q) : Mf G MX12_beginNoons [.ref 120, .int a1] I L (qV Q) := by
  unfold wpX12_beginNoons at h
  refine Mf.of pn_RX12 (Nat.le_of_ble_eq_true rfl) ?_
  refine Ev.iconst (pc' := 1) dX12_beginNoons_0 rfl ki_0 ?_
  refine Ev.istore_n (ls' := [(2, .int _), (0, .ref _), (1, .int _)]) (pc' := 2) dX12_beginNoons_1 rfl rfl (Nat.le_of_ble_eq_true rfl) rfl ?_
  exact Ev.sub [1, 2, 0] rfl (okX12_beginNoons_h2 h)
def wpX12_doNoons_l51 (Q : Ix → Lx → Prop) (P42 : Int32 → Int32 → Ix → Lx → Prop) (P51 : Int32 → Int32 → Int32 → Ix → Lx → Prop) (v1 : Int32) (v3 : Int32) (v4 : Int32) (I : Ix) (L : Lx) : Prop := ((I 120 42) ≤ v4 → P42 v1 (v3 + 1) I L) ∧ (¬ (I 120 42) ≤ v4 → vp_in v4 8 ∧ (¬ (I 138 v4.toNatClampNeg) = v3 → P51 v1 v3 (v4 + 1) I L) ∧ ((I 138 v4.toNatClampNeg) = v3 → wpX12_noonOf v4 v1 I L (fun I1 L2 => P51 v1 v3 (v4 + 1) I1 L2)))
def wpX12_doNoons_h51 (Q : Ix → Lx → Prop) (P42 : Int32 → Int32 → Ix → Lx → Prop) (v1 : Int32) (v3 : Int32) (v4 : Int32) (I : Ix) (L : Lx) : Prop := Lfp (X := Int32 × Int32 × Int32 × Ix × Lx) (fun P z => wpX12_doNoons_l51 Q P42 (fun v1 v3 v4 I L => P (v1, v3, v4, I, L)) z.1 z.2.1 z.2.2.1 z.2.2.2.1 z.2.2.2.2) (v1, v3, v4, I, L)
theorem wpX12_doNoons_h51_fold {Q : Ix → Lx → Prop} {P42 : Int32 → Int32 → Ix → Lx → Prop} {v1 : Int32} {v3 : Int32} {v4 : Int32} {I : Ix} {L : Lx} (h : wpX12_doNoons_l51 Q P42 (wpX12_doNoons_h51 Q P42) v1 v3 v4 I L) : wpX12_doNoons_h51 Q P42 v1 v3 v4 I L := Lfp.fold h
def wpX12_doNoons_l42 (Q : Ix → Lx → Prop) (P42 : Int32 → Int32 → Ix → Lx → Prop) (v1 : Int32) (v3 : Int32) (I : Ix) (L : Lx) : Prop := (60 ≤ v3 → Q I L) ∧ (¬ 60 ≤ v3 → wpX12_doNoons_h51 Q P42 v1 v3 0 I L)
def wpX12_doNoons_h42 (Q : Ix → Lx → Prop) (v1 : Int32) (v3 : Int32) (I : Ix) (L : Lx) : Prop := Lfp (X := Int32 × Int32 × Ix × Lx) (fun P z => wpX12_doNoons_l42 Q (fun v1 v3 I L => P (v1, v3, I, L)) z.1 z.2.1 z.2.2.1 z.2.2.2) (v1, v3, I, L)
theorem wpX12_doNoons_h42_fold {Q : Ix → Lx → Prop} {v1 : Int32} {v3 : Int32} {I : Ix} {L : Lx} (h : wpX12_doNoons_l42 Q (wpX12_doNoons_h42 Q) v1 v3 I L) : wpX12_doNoons_h42 Q v1 v3 I L := Lfp.fold h
def wpX12_doNoons_b31 (Q : Ix → Lx → Prop) (P10 : Int32 → Int32 → Int32 → Ix → Lx → Prop) (v1 : Int32) (v2 : Int32) (v3 : Int32) (t1 : Int32) (t2 : Int32) (t3 : Int32) (I : Ix) (L : Lx) : Prop := wpX12_goTo t1 t2 t3 I L (fun I1 L2 => P10 v1 v2 (v3 + 1) I1 L2)
def wpX12_doNoons_l10 (Q : Ix → Lx → Prop) (P10 : Int32 → Int32 → Int32 → Ix → Lx → Prop) (v1 : Int32) (v2 : Int32) (v3 : Int32) (I : Ix) (L : Lx) : Prop := ((I 120 45) ≤ v3 → wpX12_doNoons_h42 Q v1 0 I L) ∧ (¬ (I 120 45) ≤ v3 → (v2 = 0 → wpX12_doNoons_b31 Q P10 v1 v2 v3 v3 (-1) 0 I L) ∧ (¬ v2 = 0 → wpX12_doNoons_b31 Q P10 v1 v2 v3 v3 (-1) 10 I L))
def wpX12_doNoons_h10 (Q : Ix → Lx → Prop) (v1 : Int32) (v2 : Int32) (v3 : Int32) (I : Ix) (L : Lx) : Prop := Lfp (X := Int32 × Int32 × Int32 × Ix × Lx) (fun P z => wpX12_doNoons_l10 Q (fun v1 v2 v3 I L => P (v1, v2, v3, I, L)) z.1 z.2.1 z.2.2.1 z.2.2.2.1 z.2.2.2.2) (v1, v2, v3, I, L)
theorem wpX12_doNoons_h10_fold {Q : Ix → Lx → Prop} {v1 : Int32} {v2 : Int32} {v3 : Int32} {I : Ix} {L : Lx} (h : wpX12_doNoons_l10 Q (wpX12_doNoons_h10 Q) v1 v2 v3 I L) : wpX12_doNoons_h10 Q v1 v2 v3 I L := Lfp.fold h
def wpX12_doNoons (a1 : Int32) (a2 : Int32) (I : Ix) (L : Lx) (Q : Ix → Lx → Prop) : Prop := wpX12_beginNoons (I 120 57) I L (fun I1 L2 => wpX12_doNoons_h10 Q a1 a2 0 I1 L2)
set_option maxRecDepth 10000 in
theorem okX12_doNoons_l51 {G : Gx} {Q : Ix → Lx → Prop} {P42 : Int32 → Int32 → Ix → Lx → Prop} {P51 : Int32 → Int32 → Int32 → Ix → Lx → Prop} (hP42 : ∀ (v1 : Int32) (v3 : Int32) (I : Ix) (L : Lx), P42 v1 v3 I L → Ef G MX12_doNoons (qV Q) 42 [(0, .ref 120), (1, .int v1), (3, .int v3)] [] I L) (hP51 : ∀ (v1 : Int32) (v3 : Int32) (v4 : Int32) (I : Ix) (L : Lx), P51 v1 v3 v4 I L → Ef G MX12_doNoons (qV Q) 51 [(0, .ref 120), (1, .int v1), (3, .int v3), (4, .int v4)] [] I L) {v1 : Int32} {v3 : Int32} {v4 : Int32} {I : Ix} {L : Lx} (h : wpX12_doNoons_l51 Q P42 P51 v1 v3 v4 I L) : Ef G MX12_doNoons (qV Q) 51 [(0, .ref 120), (1, .int v1), (3, .int v3), (4, .int v4)] [] I L := by
  unfold wpX12_doNoons_l51 at h
  refine Ev.iload (k := 3) (pc' := 53) dX12_doNoons_51 rfl rfl ?_
  refine Ev.aload_n (k := 0) (pc' := 54) dX12_doNoons_53 rfl rfl rfl ?_
  refine Ev.getI (pc' := 57) dX12_doNoons_54 rfl fa_RX12_431 ob_120 fk_12_42 ?_
  refine Ev.icmp_ge (pc' := 60) (tgt := 84) dX12_doNoons_57 rfl rfl (fun hc => ?_) (fun hc => ?_)
  · have h := h.1 hc
    refine Ev.iinc (k := 2) (v := _) (ls' := [(3, .int _), (0, .ref _), (1, .int _), (4, .int _)]) (pc' := 87) dX12_doNoons_84 rfl rfl (congrArg (_ + ·) ki_1) (Nat.le_of_ble_eq_true rfl) rfl ?_
    refine Ev.goto (tgt := 42) dX12_doNoons_87 rfl ?_
    exact Ev.sub [1, 2, 0] rfl (hP42 _ _ _ _ h)
  · have h := h.2 hc
    refine Ev.aload_n (k := 0) (pc' := 61) dX12_doNoons_60 rfl rfl rfl ?_
    refine Ev.getR (pc' := 64) dX12_doNoons_61 rfl fa_RX12_66 ob_120 fk_12_31 rf_120_31 ?_
    refine Ev.iload (k := 3) (pc' := 66) dX12_doNoons_64 rfl rfl ?_
    refine Ev.iaload (j := _) (pc' := 67) dX12_doNoons_66 rfl ar_138 h.1 rfl ?_
    have h := h.2
    refine Ev.iload_n (k := 2) (pc' := 68) dX12_doNoons_67 rfl rfl rfl ?_
    refine Ev.icmp_ne (pc' := 71) (tgt := 78) dX12_doNoons_68 rfl rfl (fun hc => ?_) (fun hc => ?_)
    · have h := h.1 hc
      refine Ev.iinc (k := 3) (v := _) (ls' := [(4, .int _), (0, .ref _), (1, .int _), (3, .int _)]) (pc' := 81) dX12_doNoons_78 rfl rfl (congrArg (_ + ·) ki_1) (Nat.le_of_ble_eq_true rfl) rfl ?_
      refine Ev.goto (tgt := 51) dX12_doNoons_81 rfl ?_
      exact Ev.sub [1, 2, 3, 0] rfl (hP51 _ _ _ _ _ h)
    · have h := h.2 hc
      refine Ev.aload_n (k := 0) (pc' := 72) dX12_doNoons_71 rfl rfl rfl ?_
      refine Ev.iload (k := 3) (pc' := 74) dX12_doNoons_72 rfl rfl ?_
      refine Ev.iload_n (k := 1) (pc' := 75) dX12_doNoons_74 rfl rfl rfl ?_
      refine Ef.callVV [.int _, .int _] [] (pc' := 78) dX12_doNoons_75 rfl cv_RX12_549_X12_noonOf ⟨Nat.le_of_ble_eq_true rfl, Nat.le_of_ble_eq_true rfl⟩ ob_120 rfl rfl rfl (Nat.le_of_ble_eq_true rfl) (okX12_noonOf h) (fun I1 L2 h => ?_)
      refine Ev.iinc (k := 3) (v := _) (ls' := [(4, .int _), (0, .ref _), (1, .int _), (3, .int _)]) (pc' := 81) dX12_doNoons_78 rfl rfl (congrArg (_ + ·) ki_1) (Nat.le_of_ble_eq_true rfl) rfl ?_
      refine Ev.goto (tgt := 51) dX12_doNoons_81 rfl ?_
      exact Ev.sub [1, 2, 3, 0] rfl (hP51 _ _ _ _ _ h)
set_option maxRecDepth 10000 in
theorem okX12_doNoons_h51 {G : Gx} {Q : Ix → Lx → Prop} {P42 : Int32 → Int32 → Ix → Lx → Prop} (hP42 : ∀ (v1 : Int32) (v3 : Int32) (I : Ix) (L : Lx), P42 v1 v3 I L → Ef G MX12_doNoons (qV Q) 42 [(0, .ref 120), (1, .int v1), (3, .int v3)] [] I L) {v1 : Int32} {v3 : Int32} {v4 : Int32} {I : Ix} {L : Lx} (h : wpX12_doNoons_h51 Q P42 v1 v3 v4 I L) : Ef G MX12_doNoons (qV Q) 51 [(0, .ref 120), (1, .int v1), (3, .int v3), (4, .int v4)] [] I L := by
  unfold wpX12_doNoons_h51 at h
  refine Lfp.ind (P := fun z => Ef G MX12_doNoons (qV Q) 51 [(0, .ref 120), (1, .int z.1), (3, .int z.2.1), (4, .int z.2.2.1)] [] z.2.2.2.1 z.2.2.2.2) ?_ h
  intro z P' hP' h
  obtain ⟨v1, v3, v4, I, L⟩ := z
  exact okX12_doNoons_l51 hP42 (fun v1 v3 v4 I L h9 => hP' (v1, v3, v4, I, L) h9) h
set_option maxRecDepth 10000 in
theorem okX12_doNoons_l42 {G : Gx} {Q : Ix → Lx → Prop} {P42 : Int32 → Int32 → Ix → Lx → Prop} (hP42 : ∀ (v1 : Int32) (v3 : Int32) (I : Ix) (L : Lx), P42 v1 v3 I L → Ef G MX12_doNoons (qV Q) 42 [(0, .ref 120), (1, .int v1), (3, .int v3)] [] I L) {v1 : Int32} {v3 : Int32} {I : Ix} {L : Lx} (h : wpX12_doNoons_l42 Q P42 v1 v3 I L) : Ef G MX12_doNoons (qV Q) 42 [(0, .ref 120), (1, .int v1), (3, .int v3)] [] I L := by
  unfold wpX12_doNoons_l42 at h
  refine Ev.iload_n (k := 2) (pc' := 43) dX12_doNoons_42 rfl rfl rfl ?_
  refine Ev.bipush (pc' := 45) dX12_doNoons_43 rfl kb_60 ?_
  refine Ev.icmp_ge (pc' := 48) (tgt := 90) dX12_doNoons_45 rfl rfl (fun hc => ?_) (fun hc => ?_)
  · have h := h.1 hc
    exact Ef.vret dX12_doNoons_90 rfl h
  · have h := h.2 hc
    refine Ev.iconst (pc' := 49) dX12_doNoons_48 rfl ki_0 ?_
    refine Ev.istore (ls' := [(4, .int _), (0, .ref _), (1, .int _), (3, .int _)]) (pc' := 51) dX12_doNoons_49 rfl (Nat.le_of_ble_eq_true rfl) rfl ?_
    exact Ev.sub [1, 2, 3, 0] rfl (okX12_doNoons_h51 hP42 h)
set_option maxRecDepth 10000 in
theorem okX12_doNoons_h42 {G : Gx} {Q : Ix → Lx → Prop} {v1 : Int32} {v3 : Int32} {I : Ix} {L : Lx} (h : wpX12_doNoons_h42 Q v1 v3 I L) : Ef G MX12_doNoons (qV Q) 42 [(0, .ref 120), (1, .int v1), (3, .int v3)] [] I L := by
  unfold wpX12_doNoons_h42 at h
  refine Lfp.ind (P := fun z => Ef G MX12_doNoons (qV Q) 42 [(0, .ref 120), (1, .int z.1), (3, .int z.2.1)] [] z.2.2.1 z.2.2.2) ?_ h
  intro z P' hP' h
  obtain ⟨v1, v3, I, L⟩ := z
  exact okX12_doNoons_l42 (fun v1 v3 I L h9 => hP' (v1, v3, I, L) h9) h
set_option maxRecDepth 10000 in
theorem okX12_doNoons_b31 {G : Gx} {Q : Ix → Lx → Prop} {P10 : Int32 → Int32 → Int32 → Ix → Lx → Prop} (hP10 : ∀ (v1 : Int32) (v2 : Int32) (v3 : Int32) (I : Ix) (L : Lx), P10 v1 v2 v3 I L → Ef G MX12_doNoons (qV Q) 10 [(0, .ref 120), (1, .int v1), (2, .int v2), (3, .int v3)] [] I L) {v1 : Int32} {v2 : Int32} {v3 : Int32} {t1 : Int32} {t2 : Int32} {t3 : Int32} {I : Ix} {L : Lx} (h : wpX12_doNoons_b31 Q P10 v1 v2 v3 t1 t2 t3 I L) : Ef G MX12_doNoons (qV Q) 31 [(0, .ref 120), (1, .int v1), (2, .int v2), (3, .int v3)] [.int t3, .int t2, .int t1, .ref 120] I L := by
  unfold wpX12_doNoons_b31 at h
  refine Ef.callVV [.int _, .int _, .int _] [] (pc' := 34) dX12_doNoons_31 rfl cv_RX12_542_X12_goTo ⟨Nat.le_of_ble_eq_true rfl, Nat.le_of_ble_eq_true rfl⟩ ob_120 rfl rfl rfl (Nat.le_of_ble_eq_true rfl) (okX12_goTo h) (fun I1 L2 h => ?_)
  refine Ev.iinc (k := 3) (v := _) (ls' := [(3, .int _), (0, .ref _), (1, .int _), (2, .int _)]) (pc' := 37) dX12_doNoons_34 rfl rfl (congrArg (_ + ·) ki_1) (Nat.le_of_ble_eq_true rfl) rfl ?_
  refine Ev.goto (tgt := 10) dX12_doNoons_37 rfl ?_
  exact Ev.sub [1, 2, 3, 0] rfl (hP10 _ _ _ _ _ h)
set_option maxRecDepth 10000 in
theorem okX12_doNoons_l10 {G : Gx} {Q : Ix → Lx → Prop} {P10 : Int32 → Int32 → Int32 → Ix → Lx → Prop} (hP10 : ∀ (v1 : Int32) (v2 : Int32) (v3 : Int32) (I : Ix) (L : Lx), P10 v1 v2 v3 I L → Ef G MX12_doNoons (qV Q) 10 [(0, .ref 120), (1, .int v1), (2, .int v2), (3, .int v3)] [] I L) {v1 : Int32} {v2 : Int32} {v3 : Int32} {I : Ix} {L : Lx} (h : wpX12_doNoons_l10 Q P10 v1 v2 v3 I L) : Ef G MX12_doNoons (qV Q) 10 [(0, .ref 120), (1, .int v1), (2, .int v2), (3, .int v3)] [] I L := by
  unfold wpX12_doNoons_l10 at h
  refine Ev.iload_n (k := 3) (pc' := 11) dX12_doNoons_10 rfl rfl rfl ?_
  refine Ev.aload_n (k := 0) (pc' := 12) dX12_doNoons_11 rfl rfl rfl ?_
  refine Ev.getI (pc' := 15) dX12_doNoons_12 rfl fa_RX12_440 ob_120 fk_12_45 ?_
  refine Ev.icmp_ge (pc' := 18) (tgt := 40) dX12_doNoons_15 rfl rfl (fun hc => ?_) (fun hc => ?_)
  · have h := h.1 hc
    refine Ev.iconst (pc' := 41) dX12_doNoons_40 rfl ki_0 ?_
    refine Ev.istore_n (ls' := [(3, .int _), (0, .ref _), (1, .int _), (2, .int _)]) (pc' := 42) dX12_doNoons_41 rfl rfl (Nat.le_of_ble_eq_true rfl) rfl ?_
    exact Ev.sub [1, 2, 0] rfl (okX12_doNoons_h42 h)
  · have h := h.2 hc
    refine Ev.aload_n (k := 0) (pc' := 19) dX12_doNoons_18 rfl rfl rfl ?_
    refine Ev.iload_n (k := 3) (pc' := 20) dX12_doNoons_19 rfl rfl rfl ?_
    refine Ev.iconst (pc' := 21) dX12_doNoons_20 rfl ki_m1 ?_
    refine Ev.iload_n (k := 2) (pc' := 22) dX12_doNoons_21 rfl rfl rfl ?_
    refine Ev.if_eq (pc' := 25) (tgt := 30) dX12_doNoons_22 rfl rfl (fun hc => ?_) (fun hc => ?_)
    · have h := h.1 hc
      refine Ev.iconst (pc' := 31) dX12_doNoons_30 rfl ki_0 ?_
      exact okX12_doNoons_b31 hP10 h
    · have h := h.2 hc
      refine Ev.bipush (pc' := 27) dX12_doNoons_25 rfl kb_10 ?_
      refine Ev.goto (tgt := 31) dX12_doNoons_27 rfl ?_
      exact okX12_doNoons_b31 hP10 h
set_option maxRecDepth 10000 in
theorem okX12_doNoons_h10 {G : Gx} {Q : Ix → Lx → Prop} {v1 : Int32} {v2 : Int32} {v3 : Int32} {I : Ix} {L : Lx} (h : wpX12_doNoons_h10 Q v1 v2 v3 I L) : Ef G MX12_doNoons (qV Q) 10 [(0, .ref 120), (1, .int v1), (2, .int v2), (3, .int v3)] [] I L := by
  unfold wpX12_doNoons_h10 at h
  refine Lfp.ind (P := fun z => Ef G MX12_doNoons (qV Q) 10 [(0, .ref 120), (1, .int z.1), (2, .int z.2.1), (3, .int z.2.2.1)] [] z.2.2.2.1 z.2.2.2.2) ?_ h
  intro z P' hP' h
  obtain ⟨v1, v2, v3, I, L⟩ := z
  exact okX12_doNoons_l10 (fun v1 v2 v3 I L h9 => hP' (v1, v2, v3, I, L) h9) h
set_option maxRecDepth 10000 in
theorem okX12_doNoons {G : Gx} {a1 : Int32} {a2 : Int32} {I : Ix} {L : Lx} {Q : Ix → Lx → Prop} (h : wpX12_doNoons a1 a2 I L Q) : Mf G MX12_doNoons [.ref 120, .int a1, .int a2] I L (qV Q) := by
  unfold wpX12_doNoons at h
  refine Mf.of pn_RX12 (Nat.le_of_ble_eq_true rfl) ?_
  refine Ev.aload_n (k := 0) (pc' := 1) dX12_doNoons_0 rfl rfl rfl ?_
  refine Ev.aload_n (k := 0) (pc' := 2) dX12_doNoons_1 rfl rfl rfl ?_
  refine Ev.getI (pc' := 5) dX12_doNoons_2 rfl fa_RX12_464 ob_120 fk_12_57 ?_
  refine Ef.callVV [.int _] [] (pc' := 8) dX12_doNoons_5 rfl cv_RX12_546_X12_beginNoons ⟨Nat.le_of_ble_eq_true rfl, Nat.le_of_ble_eq_true rfl⟩ ob_120 rfl rfl rfl (Nat.le_of_ble_eq_true rfl) (okX12_beginNoons h) (fun I1 L2 h => ?_)
  refine Ev.iconst (pc' := 9) dX12_doNoons_8 rfl ki_0 ?_
  refine Ev.istore_n (ls' := [(3, .int _), (0, .ref _), (1, .int _), (2, .int _)]) (pc' := 10) dX12_doNoons_9 rfl rfl (Nat.le_of_ble_eq_true rfl) rfl ?_
  exact Ev.sub [1, 2, 3, 0] rfl (okX12_doNoons_h10 h)
def wpX12_mend_b103 (Q : Ix → Lx → Prop) (t1 : Int32) (t2 : Int32) (I : Ix) (L : Lx) : Prop := vp_in t1 10 ∧ ∀ I1 : Ix, I1 = pu I 144 t1.toNatClampNeg t2 → Q I1 L
def wpX12_mend_l4 (Q : Ix → Lx → Prop) (P4 : Int32 → Int32 → Int32 → Ix → Lx → Prop) (v1 : Int32) (v2 : Int32) (v3 : Int32) (I : Ix) (L : Lx) : Prop := ((I 120 44) ≤ v3 → (0 ≤ v2 → vp_in v2 10 ∧ vp_in ((4 * v1) + 1) 24 ∧ (((I 144 v2.toNatClampNeg) + (I 142 ((4 * v1) + 1).toNatClampNeg)) ≤ 100 → vp_in v2 10 ∧ vp_in ((4 * v1) + 1) 24 ∧ wpX12_mend_b103 Q v2 ((I 144 v2.toNatClampNeg) + (I 142 ((4 * v1) + 1).toNatClampNeg)) I L) ∧ (¬ ((I 144 v2.toNatClampNeg) + (I 142 ((4 * v1) + 1).toNatClampNeg)) ≤ 100 → wpX12_mend_b103 Q v2 100 I L)) ∧ (¬ 0 ≤ v2 → Q I L)) ∧ (¬ (I 120 44) ≤ v3 → vp_in v3 10 ∧ (¬ (I 143 v3.toNatClampNeg) = v1 → P4 v1 v2 (v3 + 1) I L) ∧ ((I 143 v3.toNatClampNeg) = v1 → (v2 < 0 → P4 v1 v3 (v3 + 1) I L) ∧ (¬ v2 < 0 → vp_in v3 10 ∧ vp_in v2 10 ∧ ((I 144 v2.toNatClampNeg) ≤ (I 144 v3.toNatClampNeg) → P4 v1 v2 (v3 + 1) I L) ∧ (¬ (I 144 v2.toNatClampNeg) ≤ (I 144 v3.toNatClampNeg) → P4 v1 v3 (v3 + 1) I L))))
def wpX12_mend_h4 (Q : Ix → Lx → Prop) (v1 : Int32) (v2 : Int32) (v3 : Int32) (I : Ix) (L : Lx) : Prop := Lfp (X := Int32 × Int32 × Int32 × Ix × Lx) (fun P z => wpX12_mend_l4 Q (fun v1 v2 v3 I L => P (v1, v2, v3, I, L)) z.1 z.2.1 z.2.2.1 z.2.2.2.1 z.2.2.2.2) (v1, v2, v3, I, L)
theorem wpX12_mend_h4_fold {Q : Ix → Lx → Prop} {v1 : Int32} {v2 : Int32} {v3 : Int32} {I : Ix} {L : Lx} (h : wpX12_mend_l4 Q (wpX12_mend_h4 Q) v1 v2 v3 I L) : wpX12_mend_h4 Q v1 v2 v3 I L := Lfp.fold h
def wpX12_mend (a1 : Int32) (I : Ix) (L : Lx) (Q : Ix → Lx → Prop) : Prop := wpX12_mend_h4 Q a1 (-1) 0 I L
set_option maxRecDepth 10000 in
theorem okX12_mend_b103 {G : Gx} {Q : Ix → Lx → Prop} {t1 : Int32} {t2 : Int32} {I : Ix} {L : Lx} (h : wpX12_mend_b103 Q t1 t2 I L) : Ef G MX12_mend (qV Q) 103 [] [.int t2, .int t1, .ref 144] I L := by
  unfold wpX12_mend_b103 at h
  refine Ev.iastore (j := _) (pc' := 104) dX12_mend_103 rfl ar_144 h.1 rfl (fun I1 eI1 => ?_)
  have h := h.2 I1 eI1
  exact Ef.vret dX12_mend_104 rfl h
set_option maxRecDepth 10000 in
theorem okX12_mend_l4 {G : Gx} {Q : Ix → Lx → Prop} {P4 : Int32 → Int32 → Int32 → Ix → Lx → Prop} (hP4 : ∀ (v1 : Int32) (v2 : Int32) (v3 : Int32) (I : Ix) (L : Lx), P4 v1 v2 v3 I L → Ef G MX12_mend (qV Q) 4 [(0, .ref 120), (1, .int v1), (2, .int v2), (3, .int v3)] [] I L) {v1 : Int32} {v2 : Int32} {v3 : Int32} {I : Ix} {L : Lx} (h : wpX12_mend_l4 Q P4 v1 v2 v3 I L) : Ef G MX12_mend (qV Q) 4 [(0, .ref 120), (1, .int v1), (2, .int v2), (3, .int v3)] [] I L := by
  unfold wpX12_mend_l4 at h
  refine Ev.iload_n (k := 3) (pc' := 5) dX12_mend_4 rfl rfl rfl ?_
  refine Ev.aload_n (k := 0) (pc' := 6) dX12_mend_5 rfl rfl rfl ?_
  refine Ev.getI (pc' := 9) dX12_mend_6 rfl fa_RX12_437 ob_120 fk_12_44 ?_
  refine Ev.icmp_ge (pc' := 12) (tgt := 49) dX12_mend_9 rfl rfl (fun hc => ?_) (fun hc => ?_)
  · have h := h.1 hc
    refine Ev.iload_n (k := 2) (pc' := 50) dX12_mend_49 rfl rfl rfl ?_
    refine Ev.if_ge (pc' := 53) (tgt := 54) dX12_mend_50 rfl rfl (fun hc => ?_) (fun hc => ?_)
    · have h := h.1 hc
      refine Ev.aload_n (k := 0) (pc' := 55) dX12_mend_54 rfl rfl rfl ?_
      refine Ev.getR (pc' := 58) dX12_mend_55 rfl fa_RX12_84 ob_120 fk_12_51 rf_120_51 ?_
      refine Ev.iload_n (k := 2) (pc' := 59) dX12_mend_58 rfl rfl rfl ?_
      refine Ev.aload_n (k := 0) (pc' := 60) dX12_mend_59 rfl rfl rfl ?_
      refine Ev.getR (pc' := 63) dX12_mend_60 rfl fa_RX12_84 ob_120 fk_12_51 rf_120_51 ?_
      refine Ev.iload_n (k := 2) (pc' := 64) dX12_mend_63 rfl rfl rfl ?_
      refine Ev.iaload (j := _) (pc' := 65) dX12_mend_64 rfl ar_144 h.1 rfl ?_
      have h := h.2
      refine Ev.aload_n (k := 0) (pc' := 66) dX12_mend_65 rfl rfl rfl ?_
      refine Ev.getR (pc' := 69) dX12_mend_66 rfl fa_RX12_78 ob_120 fk_12_35 rf_120_35 ?_
      refine Ev.iconst (pc' := 70) dX12_mend_69 rfl ki_4 ?_
      refine Ev.iload_n (k := 1) (pc' := 71) dX12_mend_70 rfl rfl rfl ?_
      refine Ev.imul (pc' := 72) dX12_mend_71 rfl ?_
      refine Ev.iconst (pc' := 73) dX12_mend_72 rfl ki_1 ?_
      refine Ev.iadd (pc' := 74) dX12_mend_73 rfl ?_
      refine Ev.iaload (j := _) (pc' := 75) dX12_mend_74 rfl ar_142 h.1 rfl ?_
      have h := h.2
      refine Ev.iadd (pc' := 76) dX12_mend_75 rfl ?_
      refine Ev.bipush (pc' := 78) dX12_mend_76 rfl kb_100 ?_
      refine Ev.icmp_le (pc' := 81) (tgt := 86) dX12_mend_78 rfl rfl (fun hc => ?_) (fun hc => ?_)
      · have h := h.1 hc
        refine Ev.aload_n (k := 0) (pc' := 87) dX12_mend_86 rfl rfl rfl ?_
        refine Ev.getR (pc' := 90) dX12_mend_87 rfl fa_RX12_84 ob_120 fk_12_51 rf_120_51 ?_
        refine Ev.iload_n (k := 2) (pc' := 91) dX12_mend_90 rfl rfl rfl ?_
        refine Ev.iaload (j := _) (pc' := 92) dX12_mend_91 rfl ar_144 h.1 rfl ?_
        have h := h.2
        refine Ev.aload_n (k := 0) (pc' := 93) dX12_mend_92 rfl rfl rfl ?_
        refine Ev.getR (pc' := 96) dX12_mend_93 rfl fa_RX12_78 ob_120 fk_12_35 rf_120_35 ?_
        refine Ev.iconst (pc' := 97) dX12_mend_96 rfl ki_4 ?_
        refine Ev.iload_n (k := 1) (pc' := 98) dX12_mend_97 rfl rfl rfl ?_
        refine Ev.imul (pc' := 99) dX12_mend_98 rfl ?_
        refine Ev.iconst (pc' := 100) dX12_mend_99 rfl ki_1 ?_
        refine Ev.iadd (pc' := 101) dX12_mend_100 rfl ?_
        refine Ev.iaload (j := _) (pc' := 102) dX12_mend_101 rfl ar_142 h.1 rfl ?_
        have h := h.2
        refine Ev.iadd (pc' := 103) dX12_mend_102 rfl ?_
        exact Ev.sub [] rfl (okX12_mend_b103 h)
      · have h := h.2 hc
        refine Ev.bipush (pc' := 83) dX12_mend_81 rfl kb_100 ?_
        refine Ev.goto (tgt := 103) dX12_mend_83 rfl ?_
        exact Ev.sub [] rfl (okX12_mend_b103 h)
    · have h := h.2 hc
      exact Ef.vret dX12_mend_53 rfl h
  · have h := h.2 hc
    refine Ev.aload_n (k := 0) (pc' := 13) dX12_mend_12 rfl rfl rfl ?_
    refine Ev.getR (pc' := 16) dX12_mend_13 rfl fa_RX12_81 ob_120 fk_12_50 rf_120_50 ?_
    refine Ev.iload_n (k := 3) (pc' := 17) dX12_mend_16 rfl rfl rfl ?_
    refine Ev.iaload (j := _) (pc' := 18) dX12_mend_17 rfl ar_143 h.1 rfl ?_
    have h := h.2
    refine Ev.iload_n (k := 1) (pc' := 19) dX12_mend_18 rfl rfl rfl ?_
    refine Ev.icmp_ne (pc' := 22) (tgt := 43) dX12_mend_19 rfl rfl (fun hc => ?_) (fun hc => ?_)
    · have h := h.1 hc
      refine Ev.iinc (k := 3) (v := _) (ls' := [(3, .int _), (0, .ref _), (1, .int _), (2, .int _)]) (pc' := 46) dX12_mend_43 rfl rfl (congrArg (_ + ·) ki_1) (Nat.le_of_ble_eq_true rfl) rfl ?_
      refine Ev.goto (tgt := 4) dX12_mend_46 rfl ?_
      exact Ev.sub [1, 2, 3, 0] rfl (hP4 _ _ _ _ _ h)
    · have h := h.2 hc
      refine Ev.iload_n (k := 2) (pc' := 23) dX12_mend_22 rfl rfl rfl ?_
      refine Ev.if_lt (pc' := 26) (tgt := 41) dX12_mend_23 rfl rfl (fun hc => ?_) (fun hc => ?_)
      · have h := h.1 hc
        refine Ev.iload_n (k := 3) (pc' := 42) dX12_mend_41 rfl rfl rfl ?_
        refine Ev.istore_n (ls' := [(2, .int _), (0, .ref _), (1, .int _), (3, .int _)]) (pc' := 43) dX12_mend_42 rfl rfl (Nat.le_of_ble_eq_true rfl) rfl ?_
        refine Ev.iinc (k := 3) (v := _) (ls' := [(3, .int _), (2, .int _), (0, .ref _), (1, .int _)]) (pc' := 46) dX12_mend_43 rfl rfl (congrArg (_ + ·) ki_1) (Nat.le_of_ble_eq_true rfl) rfl ?_
        refine Ev.goto (tgt := 4) dX12_mend_46 rfl ?_
        exact Ev.sub [2, 3, 1, 0] rfl (hP4 _ _ _ _ _ h)
      · have h := h.2 hc
        refine Ev.aload_n (k := 0) (pc' := 27) dX12_mend_26 rfl rfl rfl ?_
        refine Ev.getR (pc' := 30) dX12_mend_27 rfl fa_RX12_84 ob_120 fk_12_51 rf_120_51 ?_
        refine Ev.iload_n (k := 3) (pc' := 31) dX12_mend_30 rfl rfl rfl ?_
        refine Ev.iaload (j := _) (pc' := 32) dX12_mend_31 rfl ar_144 h.1 rfl ?_
        have h := h.2
        refine Ev.aload_n (k := 0) (pc' := 33) dX12_mend_32 rfl rfl rfl ?_
        refine Ev.getR (pc' := 36) dX12_mend_33 rfl fa_RX12_84 ob_120 fk_12_51 rf_120_51 ?_
        refine Ev.iload_n (k := 2) (pc' := 37) dX12_mend_36 rfl rfl rfl ?_
        refine Ev.iaload (j := _) (pc' := 38) dX12_mend_37 rfl ar_144 h.1 rfl ?_
        have h := h.2
        refine Ev.icmp_ge (pc' := 41) (tgt := 43) dX12_mend_38 rfl rfl (fun hc => ?_) (fun hc => ?_)
        · have h := h.1 hc
          refine Ev.iinc (k := 3) (v := _) (ls' := [(3, .int _), (0, .ref _), (1, .int _), (2, .int _)]) (pc' := 46) dX12_mend_43 rfl rfl (congrArg (_ + ·) ki_1) (Nat.le_of_ble_eq_true rfl) rfl ?_
          refine Ev.goto (tgt := 4) dX12_mend_46 rfl ?_
          exact Ev.sub [1, 2, 3, 0] rfl (hP4 _ _ _ _ _ h)
        · have h := h.2 hc
          refine Ev.iload_n (k := 3) (pc' := 42) dX12_mend_41 rfl rfl rfl ?_
          refine Ev.istore_n (ls' := [(2, .int _), (0, .ref _), (1, .int _), (3, .int _)]) (pc' := 43) dX12_mend_42 rfl rfl (Nat.le_of_ble_eq_true rfl) rfl ?_
          refine Ev.iinc (k := 3) (v := _) (ls' := [(3, .int _), (2, .int _), (0, .ref _), (1, .int _)]) (pc' := 46) dX12_mend_43 rfl rfl (congrArg (_ + ·) ki_1) (Nat.le_of_ble_eq_true rfl) rfl ?_
          refine Ev.goto (tgt := 4) dX12_mend_46 rfl ?_
          exact Ev.sub [2, 3, 1, 0] rfl (hP4 _ _ _ _ _ h)
set_option maxRecDepth 10000 in
theorem okX12_mend_h4 {G : Gx} {Q : Ix → Lx → Prop} {v1 : Int32} {v2 : Int32} {v3 : Int32} {I : Ix} {L : Lx} (h : wpX12_mend_h4 Q v1 v2 v3 I L) : Ef G MX12_mend (qV Q) 4 [(0, .ref 120), (1, .int v1), (2, .int v2), (3, .int v3)] [] I L := by
  unfold wpX12_mend_h4 at h
  refine Lfp.ind (P := fun z => Ef G MX12_mend (qV Q) 4 [(0, .ref 120), (1, .int z.1), (2, .int z.2.1), (3, .int z.2.2.1)] [] z.2.2.2.1 z.2.2.2.2) ?_ h
  intro z P' hP' h
  obtain ⟨v1, v2, v3, I, L⟩ := z
  exact okX12_mend_l4 (fun v1 v2 v3 I L h9 => hP' (v1, v2, v3, I, L) h9) h
set_option maxRecDepth 10000 in
theorem okX12_mend {G : Gx} {a1 : Int32} {I : Ix} {L : Lx} {Q : Ix → Lx → Prop} (h : wpX12_mend a1 I L Q) : Mf G MX12_mend [.ref 120, .int a1] I L (qV Q) := by
  unfold wpX12_mend at h
  refine Mf.of pn_RX12 (Nat.le_of_ble_eq_true rfl) ?_
  refine Ev.iconst (pc' := 1) dX12_mend_0 rfl ki_m1 ?_
  refine Ev.istore_n (ls' := [(2, .int _), (0, .ref _), (1, .int _)]) (pc' := 2) dX12_mend_1 rfl rfl (Nat.le_of_ble_eq_true rfl) rfl ?_
  refine Ev.iconst (pc' := 3) dX12_mend_2 rfl ki_0 ?_
  refine Ev.istore_n (ls' := [(3, .int _), (2, .int _), (0, .ref _), (1, .int _)]) (pc' := 4) dX12_mend_3 rfl rfl (Nat.le_of_ble_eq_true rfl) rfl ?_
  exact Ev.sub [2, 3, 1, 0] rfl (okX12_mend_h4 h)
def wpX12_hardOf (a1 : Int32) (I : Ix) (L : Lx) (Q : Int32 → Ix → Lx → Prop) : Prop := vp_in ((4 * a1) + 3) 24 ∧ Q (I 142 ((4 * a1) + 3).toNatClampNeg) I L
set_option maxRecDepth 10000 in
theorem okX12_hardOf {G : Gx} {a1 : Int32} {I : Ix} {L : Lx} {Q : Int32 → Ix → Lx → Prop} (h : wpX12_hardOf a1 I L Q) : Mf G MX12_hardOf [.ref 120, .int a1] I L (qI Q) := by
  unfold wpX12_hardOf at h
  refine Mf.of pn_RX12 (Nat.le_of_ble_eq_true rfl) ?_
  refine Ev.aload_n (k := 0) (pc' := 1) dX12_hardOf_0 rfl rfl rfl ?_
  refine Ev.getR (pc' := 4) dX12_hardOf_1 rfl fa_RX12_78 ob_120 fk_12_35 rf_120_35 ?_
  refine Ev.iconst (pc' := 5) dX12_hardOf_4 rfl ki_4 ?_
  refine Ev.iload_n (k := 1) (pc' := 6) dX12_hardOf_5 rfl rfl rfl ?_
  refine Ev.imul (pc' := 7) dX12_hardOf_6 rfl ?_
  refine Ev.iconst (pc' := 8) dX12_hardOf_7 rfl ki_3 ?_
  refine Ev.iadd (pc' := 9) dX12_hardOf_8 rfl ?_
  refine Ev.iaload (j := _) (pc' := 10) dX12_hardOf_9 rfl ar_142 h.1 rfl ?_
  have h := h.2
  exact Ef.iret dX12_hardOf_10 rfl h
def wpX12_lower (a0 : Int32) (a1 : Int32) (a2 : Int32) (I : Ix) (L : Lx) (Q : Int32 → Ix → Lx → Prop) : Prop := (0 ≤ (a0 - ((a1 * a2) / 10)) → Q (a0 - ((a1 * a2) / 10)) I L) ∧ (¬ 0 ≤ (a0 - ((a1 * a2) / 10)) → Q 0 I L)
set_option maxRecDepth 10000 in
theorem okX12_lower {G : Gx} {a0 : Int32} {a1 : Int32} {a2 : Int32} {I : Ix} {L : Lx} {Q : Int32 → Ix → Lx → Prop} (h : wpX12_lower a0 a1 a2 I L Q) : Mf G MX12_lower [.int a0, .int a1, .int a2] I L (qI Q) := by
  unfold wpX12_lower at h
  refine Mf.of pn_RX12 (Nat.le_of_ble_eq_true rfl) ?_
  refine Ev.iload_n (k := 0) (pc' := 1) dX12_lower_0 rfl rfl rfl ?_
  refine Ev.iload_n (k := 1) (pc' := 2) dX12_lower_1 rfl rfl rfl ?_
  refine Ev.iload_n (k := 2) (pc' := 3) dX12_lower_2 rfl rfl rfl ?_
  refine Ev.imul (pc' := 4) dX12_lower_3 rfl ?_
  refine Ev.bipush (pc' := 6) dX12_lower_4 rfl kb_10 ?_
  refine Ev.idiv (pc' := 7) dX12_lower_6 rfl (by decide) ?_
  refine Ev.isub (pc' := 8) dX12_lower_7 rfl ?_
  refine Ev.istore_n (ls' := [(3, .int _), (0, .int _), (1, .int _), (2, .int _)]) (pc' := 9) dX12_lower_8 rfl rfl (Nat.le_of_ble_eq_true rfl) rfl ?_
  refine Ev.iload_n (k := 0) (pc' := 10) dX12_lower_9 rfl rfl rfl ?_
  refine Ev.if_ge (pc' := 13) (tgt := 17) dX12_lower_10 rfl rfl (fun hc => ?_) (fun hc => ?_)
  · have h := h.1 hc
    refine Ev.iload_n (k := 0) (pc' := 18) dX12_lower_17 rfl rfl rfl ?_
    exact Ef.iret dX12_lower_18 rfl h
  · have h := h.2 hc
    refine Ev.iconst (pc' := 14) dX12_lower_13 rfl ki_0 ?_
    refine Ev.goto (tgt := 18) dX12_lower_14 rfl ?_
    exact Ef.iret dX12_lower_18 rfl h
def wpX12_use_l2 (Q : Ix → Lx → Prop) (P2 : Int32 → Int32 → Ix → Lx → Prop) (v1 : Int32) (v2 : Int32) (I : Ix) (L : Lx) : Prop := ((I 120 44) ≤ v2 → Q I L) ∧ (¬ (I 120 44) ≤ v2 → vp_in v2 10 ∧ ((I 143 v2.toNatClampNeg) = v1 → vp_in v1 6 ∧ vp_in v2 10 ∧ vp_in v2 10 ∧ wpX12_hardOf v1 I L (fun r3 I1 L2 => vp_in v1 6 ∧ ∀ I4 : Ix, I4 = pu I1 148 v1.toNatClampNeg ((I 148 v1.toNatClampNeg) + ((((I 146 v2.toNatClampNeg) * (I 144 v2.toNatClampNeg)) * r3) / 100)) → vp_in v2 10 ∧ vp_in ((5 * v2) + 2) 50 ∧ wpX12_hardOf v1 I4 L2 (fun r7 I5 L6 => wpX12_lower (I4 144 v2.toNatClampNeg) (I4 141 ((5 * v2) + 2).toNatClampNeg) r7 I5 L6 (fun r10 I8 L9 => vp_in v2 10 ∧ ∀ I11 : Ix, I11 = pu I8 144 v2.toNatClampNeg r10 → vp_in ((5 * v2) + 4) 50 ∧ ((I11 141 ((5 * v2) + 4).toNatClampNeg) = 0 → P2 v1 (v2 + 1) I11 L9) ∧ (¬ (I11 141 ((5 * v2) + 4).toNatClampNeg) = 0 → wpX12_hardOf v1 I11 L9 (fun r14 I12 L13 => (¬ r14 = 0 → vp_in v2 10 ∧ ∀ I15 : Ix, I15 = pu I12 149 v2.toNatClampNeg 1 → vp_in v2 10 ∧ ∀ I16 : Ix, I16 = pu I15 143 v2.toNatClampNeg (-1) → P2 v1 (v2 + 1) I16 L13) ∧ (r14 = 0 → P2 v1 (v2 + 1) I12 L13))))))) ∧ (¬ (I 143 v2.toNatClampNeg) = v1 → P2 v1 (v2 + 1) I L))
def wpX12_use_h2 (Q : Ix → Lx → Prop) (v1 : Int32) (v2 : Int32) (I : Ix) (L : Lx) : Prop := Lfp (X := Int32 × Int32 × Ix × Lx) (fun P z => wpX12_use_l2 Q (fun v1 v2 I L => P (v1, v2, I, L)) z.1 z.2.1 z.2.2.1 z.2.2.2) (v1, v2, I, L)
theorem wpX12_use_h2_fold {Q : Ix → Lx → Prop} {v1 : Int32} {v2 : Int32} {I : Ix} {L : Lx} (h : wpX12_use_l2 Q (wpX12_use_h2 Q) v1 v2 I L) : wpX12_use_h2 Q v1 v2 I L := Lfp.fold h
def wpX12_use (a1 : Int32) (I : Ix) (L : Lx) (Q : Ix → Lx → Prop) : Prop := wpX12_use_h2 Q a1 0 I L
set_option maxRecDepth 10000 in
theorem okX12_use_l2 {G : Gx} {Q : Ix → Lx → Prop} {P2 : Int32 → Int32 → Ix → Lx → Prop} (hP2 : ∀ (v1 : Int32) (v2 : Int32) (I : Ix) (L : Lx), P2 v1 v2 I L → Ef G MX12_use (qV Q) 2 [(0, .ref 120), (1, .int v1), (2, .int v2)] [] I L) {v1 : Int32} {v2 : Int32} {I : Ix} {L : Lx} (h : wpX12_use_l2 Q P2 v1 v2 I L) : Ef G MX12_use (qV Q) 2 [(0, .ref 120), (1, .int v1), (2, .int v2)] [] I L := by
  unfold wpX12_use_l2 at h
  refine Ev.iload_n (k := 2) (pc' := 3) dX12_use_2 rfl rfl rfl ?_
  refine Ev.aload_n (k := 0) (pc' := 4) dX12_use_3 rfl rfl rfl ?_
  refine Ev.getI (pc' := 7) dX12_use_4 rfl fa_RX12_437 ob_120 fk_12_44 ?_
  refine Ev.icmp_ge (pc' := 10) (tgt := 128) dX12_use_7 rfl rfl (fun hc => ?_) (fun hc => ?_)
  · have h := h.1 hc
    exact Ef.vret dX12_use_128 rfl h
  · have h := h.2 hc
    refine Ev.aload_n (k := 0) (pc' := 11) dX12_use_10 rfl rfl rfl ?_
    refine Ev.getR (pc' := 14) dX12_use_11 rfl fa_RX12_81 ob_120 fk_12_50 rf_120_50 ?_
    refine Ev.iload_n (k := 2) (pc' := 15) dX12_use_14 rfl rfl rfl ?_
    refine Ev.iaload (j := _) (pc' := 16) dX12_use_15 rfl ar_143 h.1 rfl ?_
    have h := h.2
    refine Ev.iload_n (k := 1) (pc' := 17) dX12_use_16 rfl rfl rfl ?_
    refine Ev.icmp_eq (pc' := 20) (tgt := 23) dX12_use_17 rfl rfl (fun hc => ?_) (fun hc => ?_)
    · have h := h.1 hc
      refine Ev.aload_n (k := 0) (pc' := 24) dX12_use_23 rfl rfl rfl ?_
      refine Ev.getR (pc' := 27) dX12_use_24 rfl fa_RX12_96 ob_120 fk_12_55 rf_120_55 ?_
      refine Ev.iload_n (k := 1) (pc' := 28) dX12_use_27 rfl rfl rfl ?_
      refine Ev.dup2 (pc' := 29) dX12_use_28 rfl rfl rfl ?_
      refine Ev.iaload (j := _) (pc' := 30) dX12_use_29 rfl ar_148 h.1 rfl ?_
      have h := h.2
      refine Ev.aload_n (k := 0) (pc' := 31) dX12_use_30 rfl rfl rfl ?_
      refine Ev.getR (pc' := 34) dX12_use_31 rfl fa_RX12_90 ob_120 fk_12_53 rf_120_53 ?_
      refine Ev.iload_n (k := 2) (pc' := 35) dX12_use_34 rfl rfl rfl ?_
      refine Ev.iaload (j := _) (pc' := 36) dX12_use_35 rfl ar_146 h.1 rfl ?_
      have h := h.2
      refine Ev.aload_n (k := 0) (pc' := 37) dX12_use_36 rfl rfl rfl ?_
      refine Ev.getR (pc' := 40) dX12_use_37 rfl fa_RX12_84 ob_120 fk_12_51 rf_120_51 ?_
      refine Ev.iload_n (k := 2) (pc' := 41) dX12_use_40 rfl rfl rfl ?_
      refine Ev.iaload (j := _) (pc' := 42) dX12_use_41 rfl ar_144 h.1 rfl ?_
      have h := h.2
      refine Ev.imul (pc' := 43) dX12_use_42 rfl ?_
      refine Ev.aload_n (k := 0) (pc' := 44) dX12_use_43 rfl rfl rfl ?_
      refine Ev.iload_n (k := 1) (pc' := 45) dX12_use_44 rfl rfl rfl ?_
      refine Ef.callVI [.int _] [.int _, .int _, .int _, .ref _] (pc' := 48) dX12_use_45 rfl cv_RX12_483_X12_hardOf ⟨Nat.le_of_ble_eq_true rfl, Nat.le_of_ble_eq_true rfl⟩ ob_120 rfl rfl rfl (Nat.le_of_ble_eq_true rfl) (okX12_hardOf h) (fun r3 I1 L2 h => ?_)
      refine Ev.imul (pc' := 49) dX12_use_48 rfl ?_
      refine Ev.bipush (pc' := 51) dX12_use_49 rfl kb_100 ?_
      refine Ev.idiv (pc' := 52) dX12_use_51 rfl (by decide) ?_
      refine Ev.iadd (pc' := 53) dX12_use_52 rfl ?_
      refine Ev.iastore (j := _) (pc' := 54) dX12_use_53 rfl ar_148 h.1 rfl (fun I4 eI4 => ?_)
      have h := h.2 I4 eI4
      refine Ev.aload_n (k := 0) (pc' := 55) dX12_use_54 rfl rfl rfl ?_
      refine Ev.getR (pc' := 58) dX12_use_55 rfl fa_RX12_84 ob_120 fk_12_51 rf_120_51 ?_
      refine Ev.iload_n (k := 2) (pc' := 59) dX12_use_58 rfl rfl rfl ?_
      refine Ev.aload_n (k := 0) (pc' := 60) dX12_use_59 rfl rfl rfl ?_
      refine Ev.getR (pc' := 63) dX12_use_60 rfl fa_RX12_84 ob_120 fk_12_51 rf_120_51 ?_
      refine Ev.iload_n (k := 2) (pc' := 64) dX12_use_63 rfl rfl rfl ?_
      refine Ev.iaload (j := _) (pc' := 65) dX12_use_64 rfl ar_144 h.1 rfl ?_
      have h := h.2
      refine Ev.aload_n (k := 0) (pc' := 66) dX12_use_65 rfl rfl rfl ?_
      refine Ev.getR (pc' := 69) dX12_use_66 rfl fa_RX12_75 ob_120 fk_12_34 rf_120_34 ?_
      refine Ev.iconst (pc' := 70) dX12_use_69 rfl ki_5 ?_
      refine Ev.iload_n (k := 2) (pc' := 71) dX12_use_70 rfl rfl rfl ?_
      refine Ev.imul (pc' := 72) dX12_use_71 rfl ?_
      refine Ev.iconst (pc' := 73) dX12_use_72 rfl ki_2 ?_
      refine Ev.iadd (pc' := 74) dX12_use_73 rfl ?_
      refine Ev.iaload (j := _) (pc' := 75) dX12_use_74 rfl ar_141 h.1 rfl ?_
      have h := h.2
      refine Ev.aload_n (k := 0) (pc' := 76) dX12_use_75 rfl rfl rfl ?_
      refine Ev.iload_n (k := 1) (pc' := 77) dX12_use_76 rfl rfl rfl ?_
      refine Ef.callVI [.int _] [.int _, .int _, .int _, .ref _] (pc' := 80) dX12_use_77 rfl cv_RX12_483_X12_hardOf ⟨Nat.le_of_ble_eq_true rfl, Nat.le_of_ble_eq_true rfl⟩ ob_120 rfl rfl rfl (Nat.le_of_ble_eq_true rfl) (okX12_hardOf h) (fun r7 I5 L6 h => ?_)
      refine Ef.callSI [.int _, .int _, .int _] [.int _, .ref _] (pc' := 83) dX12_use_80 rfl cv_RX12_486_X12_lower ⟨Nat.le_of_ble_eq_true rfl, Nat.le_of_ble_eq_true rfl⟩ rfl rfl (Nat.le_of_ble_eq_true rfl) (okX12_lower h) (fun r10 I8 L9 h => ?_)
      refine Ev.iastore (j := _) (pc' := 84) dX12_use_83 rfl ar_144 h.1 rfl (fun I11 eI11 => ?_)
      have h := h.2 I11 eI11
      refine Ev.aload_n (k := 0) (pc' := 85) dX12_use_84 rfl rfl rfl ?_
      refine Ev.getR (pc' := 88) dX12_use_85 rfl fa_RX12_75 ob_120 fk_12_34 rf_120_34 ?_
      refine Ev.iconst (pc' := 89) dX12_use_88 rfl ki_5 ?_
      refine Ev.iload_n (k := 2) (pc' := 90) dX12_use_89 rfl rfl rfl ?_
      refine Ev.imul (pc' := 91) dX12_use_90 rfl ?_
      refine Ev.iconst (pc' := 92) dX12_use_91 rfl ki_4 ?_
      refine Ev.iadd (pc' := 93) dX12_use_92 rfl ?_
      refine Ev.iaload (j := _) (pc' := 94) dX12_use_93 rfl ar_141 h.1 rfl ?_
      have h := h.2
      refine Ev.if_eq (pc' := 97) (tgt := 122) dX12_use_94 rfl rfl (fun hc => ?_) (fun hc => ?_)
      · have h := h.1 hc
        refine Ev.iinc (k := 2) (v := _) (ls' := [(2, .int _), (0, .ref _), (1, .int _)]) (pc' := 125) dX12_use_122 rfl rfl (congrArg (_ + ·) ki_1) (Nat.le_of_ble_eq_true rfl) rfl ?_
        refine Ev.goto (tgt := 2) dX12_use_125 rfl ?_
        exact Ev.sub [1, 2, 0] rfl (hP2 _ _ _ _ h)
      · have h := h.2 hc
        refine Ev.aload_n (k := 0) (pc' := 98) dX12_use_97 rfl rfl rfl ?_
        refine Ev.iload_n (k := 1) (pc' := 99) dX12_use_98 rfl rfl rfl ?_
        refine Ef.callVI [.int _] [] (pc' := 102) dX12_use_99 rfl cv_RX12_483_X12_hardOf ⟨Nat.le_of_ble_eq_true rfl, Nat.le_of_ble_eq_true rfl⟩ ob_120 rfl rfl rfl (Nat.le_of_ble_eq_true rfl) (okX12_hardOf h) (fun r14 I12 L13 h => ?_)
        refine Ev.if_ne (pc' := 105) (tgt := 108) dX12_use_102 rfl rfl (fun hc => ?_) (fun hc => ?_)
        · have h := h.1 hc
          refine Ev.aload_n (k := 0) (pc' := 109) dX12_use_108 rfl rfl rfl ?_
          refine Ev.getR (pc' := 112) dX12_use_109 rfl fa_RX12_99 ob_120 fk_12_56 rf_120_56 ?_
          refine Ev.iload_n (k := 2) (pc' := 113) dX12_use_112 rfl rfl rfl ?_
          refine Ev.iconst (pc' := 114) dX12_use_113 rfl ki_1 ?_
          refine Ev.zastore (j := _) (y := 1) (pc' := 115) dX12_use_114 rfl ar_149 h.1 rfl (by decide) (fun I15 eI15 => ?_)
          have h := h.2 I15 eI15
          refine Ev.aload_n (k := 0) (pc' := 116) dX12_use_115 rfl rfl rfl ?_
          refine Ev.getR (pc' := 119) dX12_use_116 rfl fa_RX12_81 ob_120 fk_12_50 rf_120_50 ?_
          refine Ev.iload_n (k := 2) (pc' := 120) dX12_use_119 rfl rfl rfl ?_
          refine Ev.iconst (pc' := 121) dX12_use_120 rfl ki_m1 ?_
          refine Ev.iastore (j := _) (pc' := 122) dX12_use_121 rfl ar_143 h.1 rfl (fun I16 eI16 => ?_)
          have h := h.2 I16 eI16
          refine Ev.iinc (k := 2) (v := _) (ls' := [(2, .int _), (0, .ref _), (1, .int _)]) (pc' := 125) dX12_use_122 rfl rfl (congrArg (_ + ·) ki_1) (Nat.le_of_ble_eq_true rfl) rfl ?_
          refine Ev.goto (tgt := 2) dX12_use_125 rfl ?_
          exact Ev.sub [1, 2, 0] rfl (hP2 _ _ _ _ h)
        · have h := h.2 hc
          refine Ev.goto (tgt := 122) dX12_use_105 rfl ?_
          refine Ev.iinc (k := 2) (v := _) (ls' := [(2, .int _), (0, .ref _), (1, .int _)]) (pc' := 125) dX12_use_122 rfl rfl (congrArg (_ + ·) ki_1) (Nat.le_of_ble_eq_true rfl) rfl ?_
          refine Ev.goto (tgt := 2) dX12_use_125 rfl ?_
          exact Ev.sub [1, 2, 0] rfl (hP2 _ _ _ _ h)
    · have h := h.2 hc
      refine Ev.goto (tgt := 122) dX12_use_20 rfl ?_
      refine Ev.iinc (k := 2) (v := _) (ls' := [(2, .int _), (0, .ref _), (1, .int _)]) (pc' := 125) dX12_use_122 rfl rfl (congrArg (_ + ·) ki_1) (Nat.le_of_ble_eq_true rfl) rfl ?_
      refine Ev.goto (tgt := 2) dX12_use_125 rfl ?_
      exact Ev.sub [1, 2, 0] rfl (hP2 _ _ _ _ h)
set_option maxRecDepth 10000 in
theorem okX12_use_h2 {G : Gx} {Q : Ix → Lx → Prop} {v1 : Int32} {v2 : Int32} {I : Ix} {L : Lx} (h : wpX12_use_h2 Q v1 v2 I L) : Ef G MX12_use (qV Q) 2 [(0, .ref 120), (1, .int v1), (2, .int v2)] [] I L := by
  unfold wpX12_use_h2 at h
  refine Lfp.ind (P := fun z => Ef G MX12_use (qV Q) 2 [(0, .ref 120), (1, .int z.1), (2, .int z.2.1)] [] z.2.2.1 z.2.2.2) ?_ h
  intro z P' hP' h
  obtain ⟨v1, v2, I, L⟩ := z
  exact okX12_use_l2 (fun v1 v2 I L h9 => hP' (v1, v2, I, L) h9) h
set_option maxRecDepth 10000 in
theorem okX12_use {G : Gx} {a1 : Int32} {I : Ix} {L : Lx} {Q : Ix → Lx → Prop} (h : wpX12_use a1 I L Q) : Mf G MX12_use [.ref 120, .int a1] I L (qV Q) := by
  unfold wpX12_use at h
  refine Mf.of pn_RX12 (Nat.le_of_ble_eq_true rfl) ?_
  refine Ev.iconst (pc' := 1) dX12_use_0 rfl ki_0 ?_
  refine Ev.istore_n (ls' := [(2, .int _), (0, .ref _), (1, .int _)]) (pc' := 2) dX12_use_1 rfl rfl (Nat.le_of_ble_eq_true rfl) rfl ?_
  exact Ev.sub [1, 2, 0] rfl (okX12_use_h2 h)
