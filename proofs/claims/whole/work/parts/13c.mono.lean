abbrev wsI_X12_fresh : List Nat := [147, 148, 143, 144, 145, 149, 146]
abbrev wsL_X12_fresh : List Nat := []
abbrev fsI_X12_fresh : List (Nat × Nat) := [(120, 57), (120, 59)]
abbrev fsL_X12_fresh : List (Nat × Nat) := []
set_option maxRecDepth 10000 in
theorem mnX12_fresh_l61 {I0 : Ix} {L0 : Lx} {Q Q' : Ix → Lx → Prop} {P61 P61' : Int32 → Ix → Lx → Prop} (hQ : ∀ (I1 : Ix) (L1 : Lx), FrI (wsI_X12_fresh) (fsI_X12_fresh) I0 I1 → FrL (wsL_X12_fresh) (fsL_X12_fresh) L0 L1 → Q I1 L1 → Q' I1 L1) (hP61 : ∀ (v1 : Int32) (I1 : Ix) (L1 : Lx), FrI (wsI_X12_fresh) (fsI_X12_fresh) I0 I1 → FrL (wsL_X12_fresh) (fsL_X12_fresh) L0 L1 → P61 v1 I1 L1 → P61' v1 I1 L1) {v1 : Int32} {I : Ix} {L : Lx} (hF : FrI (wsI_X12_fresh) (fsI_X12_fresh) I0 I) (hL : FrL (wsL_X12_fresh) (fsL_X12_fresh) L0 L) (h : wpX12_fresh_l61 Q P61 v1 I L) : wpX12_fresh_l61 Q' P61' v1 I L := by
  unfold wpX12_fresh_l61 at h ⊢
  refine ⟨fun hc => ?_, fun hc => ?_⟩
  · have h := h.1 hc
    intro I1 eI1
    have h := h I1 eI1
    have hF := hF.pf eI1 (by decide)
    intro I2 eI2
    have h := h I2 eI2
    have hF := hF.pf eI2 (by decide)
    exact hQ _ _ hF hL h
  · have h := h.2 hc
    refine ⟨h.1, ?_⟩
    have h := h.2
    refine ⟨h.1, ?_⟩
    have h := h.2
    intro I3 eI3
    have h := h I3 eI3
    have hF := hF.pw eI3 (by decide)
    refine ⟨h.1, ?_⟩
    have h := h.2
    intro I4 eI4
    have h := h I4 eI4
    have hF := hF.pw eI4 (by decide)
    exact hP61 _ _ _ hF hL h
set_option maxRecDepth 10000 in
theorem mnX12_fresh_h61 {I0 : Ix} {L0 : Lx} {Q Q' : Ix → Lx → Prop} (hQ : ∀ (I1 : Ix) (L1 : Lx), FrI (wsI_X12_fresh) (fsI_X12_fresh) I0 I1 → FrL (wsL_X12_fresh) (fsL_X12_fresh) L0 L1 → Q I1 L1 → Q' I1 L1) {v1 : Int32} {I : Ix} {L : Lx} (hF : FrI (wsI_X12_fresh) (fsI_X12_fresh) I0 I) (hL : FrL (wsL_X12_fresh) (fsL_X12_fresh) L0 L) (h : wpX12_fresh_h61 Q v1 I L) : wpX12_fresh_h61 Q' v1 I L := by
  unfold wpX12_fresh_h61 at h
  refine Lfp.ind (P := fun z => FrI (wsI_X12_fresh) (fsI_X12_fresh) I0 z.2.1 → FrL (wsL_X12_fresh) (fsL_X12_fresh) L0 z.2.2 → wpX12_fresh_h61 Q' z.1 z.2.1 z.2.2) ?_ h hF hL
  intro z P' hP' h hF hL
  obtain ⟨v1, I, L⟩ := z
  exact wpX12_fresh_h61_fold (mnX12_fresh_l61 hQ (fun v1 I L hF hL h9 => hP' (v1, I, L) h9 hF hL) hF hL h)
set_option maxRecDepth 10000 in
theorem mnX12_fresh_l2 {I0 : Ix} {L0 : Lx} {Q Q' : Ix → Lx → Prop} {P2 P2' : Int32 → Ix → Lx → Prop} (hQ : ∀ (I1 : Ix) (L1 : Lx), FrI (wsI_X12_fresh) (fsI_X12_fresh) I0 I1 → FrL (wsL_X12_fresh) (fsL_X12_fresh) L0 L1 → Q I1 L1 → Q' I1 L1) (hP2 : ∀ (v1 : Int32) (I1 : Ix) (L1 : Lx), FrI (wsI_X12_fresh) (fsI_X12_fresh) I0 I1 → FrL (wsL_X12_fresh) (fsL_X12_fresh) L0 L1 → P2 v1 I1 L1 → P2' v1 I1 L1) {v1 : Int32} {I : Ix} {L : Lx} (hF : FrI (wsI_X12_fresh) (fsI_X12_fresh) I0 I) (hL : FrL (wsL_X12_fresh) (fsL_X12_fresh) L0 L) (h : wpX12_fresh_l2 Q P2 v1 I L) : wpX12_fresh_l2 Q' P2' v1 I L := by
  unfold wpX12_fresh_l2 at h ⊢
  refine ⟨fun hc => ?_, fun hc => ?_⟩
  · have h := h.1 hc
    exact mnX12_fresh_h61 hQ hF hL h
  · have h := h.2 hc
    refine ⟨h.1, ?_⟩
    have h := h.2
    intro I1 eI1
    have h := h I1 eI1
    have hF := hF.pw eI1 (by decide)
    refine ⟨h.1, ?_⟩
    have h := h.2
    intro I2 eI2
    have h := h I2 eI2
    have hF := hF.pw eI2 (by decide)
    refine ⟨h.1, ?_⟩
    have h := h.2
    intro I3 eI3
    have h := h I3 eI3
    have hF := hF.pw eI3 (by decide)
    refine ⟨h.1, ?_⟩
    have h := h.2
    intro I4 eI4
    have h := h I4 eI4
    have hF := hF.pw eI4 (by decide)
    refine ⟨h.1, ?_⟩
    have h := h.2
    refine ⟨h.1, ?_⟩
    have h := h.2
    intro I5 eI5
    have h := h I5 eI5
    have hF := hF.pw eI5 (by decide)
    exact hP2 _ _ _ hF hL h
set_option maxRecDepth 10000 in
theorem mnX12_fresh_h2 {I0 : Ix} {L0 : Lx} {Q Q' : Ix → Lx → Prop} (hQ : ∀ (I1 : Ix) (L1 : Lx), FrI (wsI_X12_fresh) (fsI_X12_fresh) I0 I1 → FrL (wsL_X12_fresh) (fsL_X12_fresh) L0 L1 → Q I1 L1 → Q' I1 L1) {v1 : Int32} {I : Ix} {L : Lx} (hF : FrI (wsI_X12_fresh) (fsI_X12_fresh) I0 I) (hL : FrL (wsL_X12_fresh) (fsL_X12_fresh) L0 L) (h : wpX12_fresh_h2 Q v1 I L) : wpX12_fresh_h2 Q' v1 I L := by
  unfold wpX12_fresh_h2 at h
  refine Lfp.ind (P := fun z => FrI (wsI_X12_fresh) (fsI_X12_fresh) I0 z.2.1 → FrL (wsL_X12_fresh) (fsL_X12_fresh) L0 z.2.2 → wpX12_fresh_h2 Q' z.1 z.2.1 z.2.2) ?_ h hF hL
  intro z P' hP' h hF hL
  obtain ⟨v1, I, L⟩ := z
  exact wpX12_fresh_h2_fold (mnX12_fresh_l2 hQ (fun v1 I L hF hL h9 => hP' (v1, I, L) h9 hF hL) hF hL h)
set_option maxRecDepth 10000 in
theorem mnX12_fresh {I : Ix} {L : Lx} {Q Q' : Ix → Lx → Prop} (hQ : ∀ (I1 : Ix) (L1 : Lx), FrI (wsI_X12_fresh) (fsI_X12_fresh) I I1 → FrL (wsL_X12_fresh) (fsL_X12_fresh) L L1 → Q I1 L1 → Q' I1 L1) (h : wpX12_fresh I L Q) : wpX12_fresh I L Q' := by
  have hF : FrI (wsI_X12_fresh) (fsI_X12_fresh) I I := FrI.rf
  have hL : FrL (wsL_X12_fresh) (fsL_X12_fresh) L L := FrL.rf
  unfold wpX12_fresh at h ⊢
  exact mnX12_fresh_h2 hQ hF hL h
abbrev wsI_X12_here : List Nat := []
abbrev wsL_X12_here : List Nat := []
abbrev fsI_X12_here : List (Nat × Nat) := []
abbrev fsL_X12_here : List (Nat × Nat) := []
set_option maxRecDepth 10000 in
theorem mnX12_here {a1 : Int32} {I : Ix} {L : Lx} {Q Q' : Int32 → Ix → Lx → Prop} (hQ : ∀ (r : Int32) (I1 : Ix) (L1 : Lx), FrI (wsI_X12_here) (fsI_X12_here) I I1 → FrL (wsL_X12_here) (fsL_X12_here) L L1 → Q r I1 L1 → Q' r I1 L1) (h : wpX12_here a1 I L Q) : wpX12_here a1 I L Q' := by
  have hF : FrI (wsI_X12_here) (fsI_X12_here) I I := FrI.rf
  have hL : FrL (wsL_X12_here) (fsL_X12_here) L L := FrL.rf
  unfold wpX12_here at h ⊢
  refine ⟨fun hc => ?_, fun hc => ?_⟩
  · have h := h.1 hc
    exact hQ _ _ _ hF hL h
  · have h := h.2 hc
    refine ⟨h.1, ?_⟩
    have h := h.2
    exact hQ _ _ _ hF hL h
abbrev wsI_X12_isDigit : List Nat := []
abbrev wsL_X12_isDigit : List Nat := []
abbrev fsI_X12_isDigit : List (Nat × Nat) := []
abbrev fsL_X12_isDigit : List (Nat × Nat) := []
set_option maxRecDepth 10000 in
theorem mnX12_isDigit {a0 : Int32} {I : Ix} {L : Lx} {Q Q' : Bool → Ix → Lx → Prop} (hQ : ∀ (r : Bool) (I1 : Ix) (L1 : Lx), FrI (wsI_X12_isDigit) (fsI_X12_isDigit) I I1 → FrL (wsL_X12_isDigit) (fsL_X12_isDigit) L L1 → Q r I1 L1 → Q' r I1 L1) (h : wpX12_isDigit a0 I L Q) : wpX12_isDigit a0 I L Q' := by
  have hF : FrI (wsI_X12_isDigit) (fsI_X12_isDigit) I I := FrI.rf
  have hL : FrL (wsL_X12_isDigit) (fsL_X12_isDigit) L L := FrL.rf
  unfold wpX12_isDigit at h ⊢
  refine ⟨fun hc => ?_, fun hc => ?_⟩
  · have h := h.1 hc
    exact hQ _ _ _ hF hL h
  · have h := h.2 hc
    refine ⟨fun hc => ?_, fun hc => ?_⟩
    · have h := h.1 hc
      exact hQ _ _ _ hF hL h
    · have h := h.2 hc
      exact hQ _ _ _ hF hL h
abbrev wsI_X12_isLetter : List Nat := []
abbrev wsL_X12_isLetter : List Nat := []
abbrev fsI_X12_isLetter : List (Nat × Nat) := []
abbrev fsL_X12_isLetter : List (Nat × Nat) := []
set_option maxRecDepth 10000 in
theorem mnX12_isLetter {a0 : Int32} {I : Ix} {L : Lx} {Q Q' : Bool → Ix → Lx → Prop} (hQ : ∀ (r : Bool) (I1 : Ix) (L1 : Lx), FrI (wsI_X12_isLetter) (fsI_X12_isLetter) I I1 → FrL (wsL_X12_isLetter) (fsL_X12_isLetter) L L1 → Q r I1 L1 → Q' r I1 L1) (h : wpX12_isLetter a0 I L Q) : wpX12_isLetter a0 I L Q' := by
  have hF : FrI (wsI_X12_isLetter) (fsI_X12_isLetter) I I := FrI.rf
  have hL : FrL (wsL_X12_isLetter) (fsL_X12_isLetter) L L := FrL.rf
  unfold wpX12_isLetter at h ⊢
  refine ⟨fun hc => ?_, fun hc => ?_⟩
  · have h := h.1 hc
    exact hQ _ _ _ hF hL h
  · have h := h.2 hc
    refine ⟨fun hc => ?_, fun hc => ?_⟩
    · have h := h.1 hc
      exact hQ _ _ _ hF hL h
    · have h := h.2 hc
      exact hQ _ _ _ hF hL h
abbrev wsI_X12_isSign : List Nat := []
abbrev wsL_X12_isSign : List Nat := []
abbrev fsI_X12_isSign : List (Nat × Nat) := []
abbrev fsL_X12_isSign : List (Nat × Nat) := []
set_option maxRecDepth 10000 in
theorem mnX12_isSign_b54 {I0 : Ix} {L0 : Lx} {Q Q' : Bool → Ix → Lx → Prop} (hQ : ∀ (r : Bool) (I1 : Ix) (L1 : Lx), FrI (wsI_X12_isSign) (fsI_X12_isSign) I0 I1 → FrL (wsL_X12_isSign) (fsL_X12_isSign) L0 L1 → Q r I1 L1 → Q' r I1 L1) {I : Ix} {L : Lx} (hF : FrI (wsI_X12_isSign) (fsI_X12_isSign) I0 I) (hL : FrL (wsL_X12_isSign) (fsL_X12_isSign) L0 L) (h : wpX12_isSign_b54 Q I L) : wpX12_isSign_b54 Q' I L := by
  unfold wpX12_isSign_b54 at h ⊢
  exact hQ _ _ _ hF hL h
set_option maxRecDepth 10000 in
theorem mnX12_isSign {a0 : Int32} {I : Ix} {L : Lx} {Q Q' : Bool → Ix → Lx → Prop} (hQ : ∀ (r : Bool) (I1 : Ix) (L1 : Lx), FrI (wsI_X12_isSign) (fsI_X12_isSign) I I1 → FrL (wsL_X12_isSign) (fsL_X12_isSign) L L1 → Q r I1 L1 → Q' r I1 L1) (h : wpX12_isSign a0 I L Q) : wpX12_isSign a0 I L Q' := by
  have hF : FrI (wsI_X12_isSign) (fsI_X12_isSign) I I := FrI.rf
  have hL : FrL (wsL_X12_isSign) (fsL_X12_isSign) L L := FrL.rf
  unfold wpX12_isSign at h ⊢
  refine ⟨fun hc => ?_, fun hc => ?_⟩
  · have h := h.1 hc
    exact mnX12_isSign_b54 hQ hF hL h
  · have h := h.2 hc
    refine ⟨fun hc => ?_, fun hc => ?_⟩
    · have h := h.1 hc
      exact mnX12_isSign_b54 hQ hF hL h
    · have h := h.2 hc
      refine ⟨fun hc => ?_, fun hc => ?_⟩
      · have h := h.1 hc
        exact mnX12_isSign_b54 hQ hF hL h
      · have h := h.2 hc
        refine ⟨fun hc => ?_, fun hc => ?_⟩
        · have h := h.1 hc
          exact mnX12_isSign_b54 hQ hF hL h
        · have h := h.2 hc
          refine ⟨fun hc => ?_, fun hc => ?_⟩
          · have h := h.1 hc
            exact mnX12_isSign_b54 hQ hF hL h
          · have h := h.2 hc
            refine ⟨fun hc => ?_, fun hc => ?_⟩
            · have h := h.1 hc
              exact mnX12_isSign_b54 hQ hF hL h
            · have h := h.2 hc
              refine ⟨fun hc => ?_, fun hc => ?_⟩
              · have h := h.1 hc
                exact mnX12_isSign_b54 hQ hF hL h
              · have h := h.2 hc
                refine ⟨fun hc => ?_, fun hc => ?_⟩
                · have h := h.1 hc
                  exact mnX12_isSign_b54 hQ hF hL h
                · have h := h.2 hc
                  refine ⟨fun hc => ?_, fun hc => ?_⟩
                  · have h := h.1 hc
                    exact hQ _ _ _ hF hL h
                  · have h := h.2 hc
                    exact mnX12_isSign_b54 hQ hF hL h
abbrev wsI_X12_token : List Nat := []
abbrev wsL_X12_token : List Nat := []
abbrev fsI_X12_token : List (Nat × Nat) := [(120, 4), (120, 6), (120, 8), (120, 7)]
abbrev fsL_X12_token : List (Nat × Nat) := [(120, 9)]
set_option maxRecDepth 10000 in
theorem mnX12_token_b232 {I0 : Ix} {L0 : Lx} {Q Q' : Ix → Lx → Prop} (hQ : ∀ (I1 : Ix) (L1 : Lx), FrI (wsI_X12_token) (fsI_X12_token) I0 I1 → FrL (wsL_X12_token) (fsL_X12_token) L0 L1 → Q I1 L1 → Q' I1 L1) {v2 : Int32} {I : Ix} {L : Lx} (hF : FrI (wsI_X12_token) (fsI_X12_token) I0 I) (hL : FrL (wsL_X12_token) (fsL_X12_token) L0 L) (h : wpX12_token_b232 Q v2 I L) : wpX12_token_b232 Q' v2 I L := by
  unfold wpX12_token_b232 at h ⊢
  refine ⟨fun hc => ?_, fun hc => ?_⟩
  · have h := h.1 hc
    exact hQ _ _ hF hL h
  · have h := h.2 hc
    intro I1 eI1
    have h := h I1 eI1
    have hF := hF.pf eI1 (by decide)
    exact hQ _ _ hF hL h
set_option maxRecDepth 10000 in
theorem mnX12_token_b229 {I0 : Ix} {L0 : Lx} {Q Q' : Ix → Lx → Prop} (hQ : ∀ (I1 : Ix) (L1 : Lx), FrI (wsI_X12_token) (fsI_X12_token) I0 I1 → FrL (wsL_X12_token) (fsL_X12_token) L0 L1 → Q I1 L1 → Q' I1 L1) {v2 : Int32} {t1 : Int32} {I : Ix} {L : Lx} (hF : FrI (wsI_X12_token) (fsI_X12_token) I0 I) (hL : FrL (wsL_X12_token) (fsL_X12_token) L0 L) (h : wpX12_token_b229 Q v2 t1 I L) : wpX12_token_b229 Q' v2 t1 I L := by
  unfold wpX12_token_b229 at h ⊢
  intro I1 eI1
  have h := h I1 eI1
  have hF := hF.pf eI1 (by decide)
  exact mnX12_token_b232 hQ hF hL h
set_option maxRecDepth 10000 in
theorem mnX12_token_b208 {I0 : Ix} {L0 : Lx} {Q Q' : Ix → Lx → Prop} (hQ : ∀ (I1 : Ix) (L1 : Lx), FrI (wsI_X12_token) (fsI_X12_token) I0 I1 → FrL (wsL_X12_token) (fsL_X12_token) L0 L1 → Q I1 L1 → Q' I1 L1) {v2 : Int32} {t1 : Int32} {I : Ix} {L : Lx} (hF : FrI (wsI_X12_token) (fsI_X12_token) I0 I) (hL : FrL (wsL_X12_token) (fsL_X12_token) L0 L) (h : wpX12_token_b208 Q v2 t1 I L) : wpX12_token_b208 Q' v2 t1 I L := by
  unfold wpX12_token_b208 at h ⊢
  intro I1 eI1
  have h := h I1 eI1
  have hF := hF.pf eI1 (by decide)
  exact mnX12_token_b232 hQ hF hL h
set_option maxRecDepth 10000 in
theorem mnX12_token_b203 {I0 : Ix} {L0 : Lx} {Q Q' : Ix → Lx → Prop} (hQ : ∀ (I1 : Ix) (L1 : Lx), FrI (wsI_X12_token) (fsI_X12_token) I0 I1 → FrL (wsL_X12_token) (fsL_X12_token) L0 L1 → Q I1 L1 → Q' I1 L1) {v2 : Int32} {I : Ix} {L : Lx} (hF : FrI (wsI_X12_token) (fsI_X12_token) I0 I) (hL : FrL (wsL_X12_token) (fsL_X12_token) L0 L) (h : wpX12_token_b203 Q v2 I L) : wpX12_token_b203 Q' v2 I L := by
  unfold wpX12_token_b203 at h ⊢
  exact mnX12_token_b208 hQ hF hL h
set_option maxRecDepth 10000 in
theorem mnX12_token_l144 {I0 : Ix} {L0 : Lx} {Q Q' : Ix → Lx → Prop} {P144 P144' : Int32 → Ix → Lx → Prop} (hQ : ∀ (I1 : Ix) (L1 : Lx), FrI (wsI_X12_token) (fsI_X12_token) I0 I1 → FrL (wsL_X12_token) (fsL_X12_token) L0 L1 → Q I1 L1 → Q' I1 L1) (hP144 : ∀ (v2 : Int32) (I1 : Ix) (L1 : Lx), FrI (wsI_X12_token) (fsI_X12_token) I0 I1 → FrL (wsL_X12_token) (fsL_X12_token) L0 L1 → P144 v2 I1 L1 → P144' v2 I1 L1) {v2 : Int32} {I : Ix} {L : Lx} (hF : FrI (wsI_X12_token) (fsI_X12_token) I0 I) (hL : FrL (wsL_X12_token) (fsL_X12_token) L0 L) (h : wpX12_token_l144 Q P144 v2 I L) : wpX12_token_l144 Q' P144' v2 I L := by
  unfold wpX12_token_l144 at h ⊢
  refine mnX12_here (fun r3 I1 L2 hf hl h => ?_) h
  have hF := hF.tr hf (by decide) (by decide)
  have hL := hL.tr hl (by decide) (by decide)
  refine mnX12_isDigit (fun r6 I4 L5 hf hl h => ?_) h
  have hF := hF.tr hf (by decide) (by decide)
  have hL := hL.tr hl (by decide) (by decide)
  refine ⟨fun hc => ?_, fun hc => ?_⟩
  · have h := h.1 hc
    refine ⟨fun hc => ?_, fun hc => ?_⟩
    · have h := h.1 hc
      exact mnX12_token_b203 hQ hF hL h
    · have h := h.2 hc
      refine mnX12_here (fun r9 I7 L8 hf hl h => ?_) h
      have hF := hF.tr hf (by decide) (by decide)
      have hL := hL.tr hl (by decide) (by decide)
      refine mnX12_isLetter (fun r12 I10 L11 hf hl h => ?_) h
      have hF := hF.tr hf (by decide) (by decide)
      have hL := hL.tr hl (by decide) (by decide)
      refine ⟨fun hc => ?_, fun hc => ?_⟩
      · have h := h.1 hc
        exact mnX12_token_b208 hQ hF hL h
      · have h := h.2 hc
        exact mnX12_token_b203 hQ hF hL h
  · have h := h.2 hc
    refine ⟨fun hc => ?_, fun hc => ?_⟩
    · have h := h.1 hc
      exact hP144 _ _ _ hF hL h
    · have h := h.2 hc
      refine mnX12_here (fun r15 I13 L14 hf hl h => ?_) h
      have hF := hF.tr hf (by decide) (by decide)
      have hL := hL.tr hl (by decide) (by decide)
      intro I16 eI16
      have h := h I16 eI16
      have hF := hF.pf eI16 (by decide)
      exact hP144 _ _ _ hF hL h
set_option maxRecDepth 10000 in
theorem mnX12_token_h144 {I0 : Ix} {L0 : Lx} {Q Q' : Ix → Lx → Prop} (hQ : ∀ (I1 : Ix) (L1 : Lx), FrI (wsI_X12_token) (fsI_X12_token) I0 I1 → FrL (wsL_X12_token) (fsL_X12_token) L0 L1 → Q I1 L1 → Q' I1 L1) {v2 : Int32} {I : Ix} {L : Lx} (hF : FrI (wsI_X12_token) (fsI_X12_token) I0 I) (hL : FrL (wsL_X12_token) (fsL_X12_token) L0 L) (h : wpX12_token_h144 Q v2 I L) : wpX12_token_h144 Q' v2 I L := by
  unfold wpX12_token_h144 at h
  refine Lfp.ind (P := fun z => FrI (wsI_X12_token) (fsI_X12_token) I0 z.2.1 → FrL (wsL_X12_token) (fsL_X12_token) L0 z.2.2 → wpX12_token_h144 Q' z.1 z.2.1 z.2.2) ?_ h hF hL
  intro z P' hP' h hF hL
  obtain ⟨v2, I, L⟩ := z
  exact wpX12_token_h144_fold (mnX12_token_l144 hQ (fun v2 I L hF hL h9 => hP' (v2, I, L) h9 hF hL) hF hL h)
set_option maxRecDepth 10000 in
theorem mnX12_token_b131 {I0 : Ix} {L0 : Lx} {Q Q' : Ix → Lx → Prop} (hQ : ∀ (I1 : Ix) (L1 : Lx), FrI (wsI_X12_token) (fsI_X12_token) I0 I1 → FrL (wsL_X12_token) (fsL_X12_token) L0 L1 → Q I1 L1 → Q' I1 L1) {v2 : Int32} {t1 : Int32} {I : Ix} {L : Lx} (hF : FrI (wsI_X12_token) (fsI_X12_token) I0 I) (hL : FrL (wsL_X12_token) (fsL_X12_token) L0 L) (h : wpX12_token_b131 Q v2 t1 I L) : wpX12_token_b131 Q' v2 t1 I L := by
  unfold wpX12_token_b131 at h ⊢
  intro I1 eI1
  have h := h I1 eI1
  have hF := hF.pf eI1 (by decide)
  exact mnX12_token_b232 hQ hF hL h
set_option maxRecDepth 10000 in
theorem mnX12_token_l78 {I0 : Ix} {L0 : Lx} {Q Q' : Ix → Lx → Prop} {P78 P78' : Int32 → Ix → Lx → Prop} (hQ : ∀ (I1 : Ix) (L1 : Lx), FrI (wsI_X12_token) (fsI_X12_token) I0 I1 → FrL (wsL_X12_token) (fsL_X12_token) L0 L1 → Q I1 L1 → Q' I1 L1) (hP78 : ∀ (v2 : Int32) (I1 : Ix) (L1 : Lx), FrI (wsI_X12_token) (fsI_X12_token) I0 I1 → FrL (wsL_X12_token) (fsL_X12_token) L0 L1 → P78 v2 I1 L1 → P78' v2 I1 L1) {v2 : Int32} {I : Ix} {L : Lx} (hF : FrI (wsI_X12_token) (fsI_X12_token) I0 I) (hL : FrL (wsL_X12_token) (fsL_X12_token) L0 L) (h : wpX12_token_l78 Q P78 v2 I L) : wpX12_token_l78 Q' P78' v2 I L := by
  unfold wpX12_token_l78 at h ⊢
  refine mnX12_here (fun r3 I1 L2 hf hl h => ?_) h
  have hF := hF.tr hf (by decide) (by decide)
  have hL := hL.tr hl (by decide) (by decide)
  refine mnX12_isLetter (fun r6 I4 L5 hf hl h => ?_) h
  have hF := hF.tr hf (by decide) (by decide)
  have hL := hL.tr hl (by decide) (by decide)
  refine ⟨fun hc => ?_, fun hc => ?_⟩
  · have h := h.1 hc
    refine ⟨fun hc => ?_, fun hc => ?_⟩
    · have h := h.1 hc
      exact mnX12_token_b131 hQ hF hL h
    · have h := h.2 hc
      exact mnX12_token_b131 hQ hF hL h
  · have h := h.2 hc
    refine ⟨fun hc => ?_, fun hc => ?_⟩
    · have h := h.1 hc
      exact hP78 _ _ _ hF hL h
    · have h := h.2 hc
      refine mnX12_here (fun r9 I7 L8 hf hl h => ?_) h
      have hF := hF.tr hf (by decide) (by decide)
      have hL := hL.tr hl (by decide) (by decide)
      intro L10 eL10
      have h := h L10 eL10
      have hL := hL.pf eL10 (by decide)
      exact hP78 _ _ _ hF hL h
set_option maxRecDepth 10000 in
theorem mnX12_token_h78 {I0 : Ix} {L0 : Lx} {Q Q' : Ix → Lx → Prop} (hQ : ∀ (I1 : Ix) (L1 : Lx), FrI (wsI_X12_token) (fsI_X12_token) I0 I1 → FrL (wsL_X12_token) (fsL_X12_token) L0 L1 → Q I1 L1 → Q' I1 L1) {v2 : Int32} {I : Ix} {L : Lx} (hF : FrI (wsI_X12_token) (fsI_X12_token) I0 I) (hL : FrL (wsL_X12_token) (fsL_X12_token) L0 L) (h : wpX12_token_h78 Q v2 I L) : wpX12_token_h78 Q' v2 I L := by
  unfold wpX12_token_h78 at h
  refine Lfp.ind (P := fun z => FrI (wsI_X12_token) (fsI_X12_token) I0 z.2.1 → FrL (wsL_X12_token) (fsL_X12_token) L0 z.2.2 → wpX12_token_h78 Q' z.1 z.2.1 z.2.2) ?_ h hF hL
  intro z P' hP' h hF hL
  obtain ⟨v2, I, L⟩ := z
  exact wpX12_token_h78_fold (mnX12_token_l78 hQ (fun v2 I L hF hL h9 => hP' (v2, I, L) h9 hF hL) hF hL h)
set_option maxRecDepth 10000 in
theorem mnX12_token_b20 {I0 : Ix} {L0 : Lx} {Q Q' : Ix → Lx → Prop} {P0 P0' : Ix → Lx → Prop} (hQ : ∀ (I1 : Ix) (L1 : Lx), FrI (wsI_X12_token) (fsI_X12_token) I0 I1 → FrL (wsL_X12_token) (fsL_X12_token) L0 L1 → Q I1 L1 → Q' I1 L1) (hP0 : ∀ (I1 : Ix) (L1 : Lx), FrI (wsI_X12_token) (fsI_X12_token) I0 I1 → FrL (wsL_X12_token) (fsL_X12_token) L0 L1 → P0 I1 L1 → P0' I1 L1) {I : Ix} {L : Lx} (hF : FrI (wsI_X12_token) (fsI_X12_token) I0 I) (hL : FrL (wsL_X12_token) (fsL_X12_token) L0 L) (h : wpX12_token_b20 Q P0 I L) : wpX12_token_b20 Q' P0' I L := by
  unfold wpX12_token_b20 at h ⊢
  intro I1 eI1
  have h := h I1 eI1
  have hF := hF.pf eI1 (by decide)
  exact hP0 _ _ hF hL h
set_option maxRecDepth 10000 in
theorem mnX12_token_l0 {I0 : Ix} {L0 : Lx} {Q Q' : Ix → Lx → Prop} {P0 P0' : Ix → Lx → Prop} (hQ : ∀ (I1 : Ix) (L1 : Lx), FrI (wsI_X12_token) (fsI_X12_token) I0 I1 → FrL (wsL_X12_token) (fsL_X12_token) L0 L1 → Q I1 L1 → Q' I1 L1) (hP0 : ∀ (I1 : Ix) (L1 : Lx), FrI (wsI_X12_token) (fsI_X12_token) I0 I1 → FrL (wsL_X12_token) (fsL_X12_token) L0 L1 → P0 I1 L1 → P0' I1 L1) {I : Ix} {L : Lx} (hF : FrI (wsI_X12_token) (fsI_X12_token) I0 I) (hL : FrL (wsL_X12_token) (fsL_X12_token) L0 L) (h : wpX12_token_l0 Q P0 I L) : wpX12_token_l0 Q' P0' I L := by
  unfold wpX12_token_l0 at h ⊢
  refine mnX12_here (fun r3 I1 L2 hf hl h => ?_) h
  have hF := hF.tr hf (by decide) (by decide)
  have hL := hL.tr hl (by decide) (by decide)
  refine ⟨fun hc => ?_, fun hc => ?_⟩
  · have h := h.1 hc
    exact mnX12_token_b20 hQ hP0 hF hL h
  · have h := h.2 hc
    refine mnX12_here (fun r6 I4 L5 hf hl h => ?_) h
    have hF := hF.tr hf (by decide) (by decide)
    have hL := hL.tr hl (by decide) (by decide)
    refine ⟨fun hc => ?_, fun hc => ?_⟩
    · have h := h.1 hc
      intro I7 eI7
      have h := h I7 eI7
      have hF := hF.pf eI7 (by decide)
      refine mnX12_here (fun r10 I8 L9 hf hl h => ?_) h
      have hF := hF.tr hf (by decide) (by decide)
      have hL := hL.tr hl (by decide) (by decide)
      intro L11 eL11
      have h := h L11 eL11
      have hL := hL.pf eL11 (by decide)
      intro I12 eI12
      have h := h I12 eI12
      have hF := hF.pf eI12 (by decide)
      refine ⟨fun hc => ?_, fun hc => ?_⟩
      · have h := h.1 hc
        refine mnX12_isLetter (fun r15 I13 L14 hf hl h => ?_) h
        have hF := hF.tr hf (by decide) (by decide)
        have hL := hL.tr hl (by decide) (by decide)
        refine ⟨fun hc => ?_, fun hc => ?_⟩
        · have h := h.1 hc
          refine mnX12_isDigit (fun r18 I16 L17 hf hl h => ?_) h
          have hF := hF.tr hf (by decide) (by decide)
          have hL := hL.tr hl (by decide) (by decide)
          refine ⟨fun hc => ?_, fun hc => ?_⟩
          · have h := h.1 hc
            refine mnX12_isSign (fun r21 I19 L20 hf hl h => ?_) h
            have hF := hF.tr hf (by decide) (by decide)
            have hL := hL.tr hl (by decide) (by decide)
            refine ⟨fun hc => ?_, fun hc => ?_⟩
            · have h := h.1 hc
              exact mnX12_token_b229 hQ hF hL h
            · have h := h.2 hc
              exact mnX12_token_b229 hQ hF hL h
          · have h := h.2 hc
            exact mnX12_token_h144 hQ hF hL h
        · have h := h.2 hc
          exact mnX12_token_h78 hQ hF hL h
      · have h := h.2 hc
        intro I22 eI22
        have h := h I22 eI22
        have hF := hF.pf eI22 (by decide)
        exact mnX12_token_b232 hQ hF hL h
    · have h := h.2 hc
      exact mnX12_token_b20 hQ hP0 hF hL h
set_option maxRecDepth 10000 in
theorem mnX12_token_h0 {I0 : Ix} {L0 : Lx} {Q Q' : Ix → Lx → Prop} (hQ : ∀ (I1 : Ix) (L1 : Lx), FrI (wsI_X12_token) (fsI_X12_token) I0 I1 → FrL (wsL_X12_token) (fsL_X12_token) L0 L1 → Q I1 L1 → Q' I1 L1) {I : Ix} {L : Lx} (hF : FrI (wsI_X12_token) (fsI_X12_token) I0 I) (hL : FrL (wsL_X12_token) (fsL_X12_token) L0 L) (h : wpX12_token_h0 Q I L) : wpX12_token_h0 Q' I L := by
  unfold wpX12_token_h0 at h
  refine Lfp.ind (P := fun z => FrI (wsI_X12_token) (fsI_X12_token) I0 z.1 → FrL (wsL_X12_token) (fsL_X12_token) L0 z.2 → wpX12_token_h0 Q' z.1 z.2) ?_ h hF hL
  intro z P' hP' h hF hL
  obtain ⟨I, L⟩ := z
  exact wpX12_token_h0_fold (mnX12_token_l0 hQ (fun I L hF hL h9 => hP' (I, L) h9 hF hL) hF hL h)
set_option maxRecDepth 10000 in
theorem mnX12_token {I : Ix} {L : Lx} {Q Q' : Ix → Lx → Prop} (hQ : ∀ (I1 : Ix) (L1 : Lx), FrI (wsI_X12_token) (fsI_X12_token) I I1 → FrL (wsL_X12_token) (fsL_X12_token) L L1 → Q I1 L1 → Q' I1 L1) (h : wpX12_token I L Q) : wpX12_token I L Q' := by
  have hF : FrI (wsI_X12_token) (fsI_X12_token) I I := FrI.rf
  have hL : FrL (wsL_X12_token) (fsL_X12_token) L L := FrL.rf
  unfold wpX12_token at h ⊢
  exact mnX12_token_h0 hQ hF hL h
abbrev wsI_X12_wrong : List Nat := []
abbrev wsL_X12_wrong : List Nat := []
abbrev fsI_X12_wrong : List (Nat × Nat) := [(120, 2), (120, 3)]
abbrev fsL_X12_wrong : List (Nat × Nat) := []
set_option maxRecDepth 10000 in
theorem mnX12_wrong_b22 {I0 : Ix} {L0 : Lx} {Q Q' : Ix → Lx → Prop} (hQ : ∀ (I1 : Ix) (L1 : Lx), FrI (wsI_X12_wrong) (fsI_X12_wrong) I0 I1 → FrL (wsL_X12_wrong) (fsL_X12_wrong) L0 L1 → Q I1 L1 → Q' I1 L1) {t1 : Int32} {I : Ix} {L : Lx} (hF : FrI (wsI_X12_wrong) (fsI_X12_wrong) I0 I) (hL : FrL (wsL_X12_wrong) (fsL_X12_wrong) L0 L) (h : wpX12_wrong_b22 Q t1 I L) : wpX12_wrong_b22 Q' t1 I L := by
  unfold wpX12_wrong_b22 at h ⊢
  intro I1 eI1
  have h := h I1 eI1
  have hF := hF.pf eI1 (by decide)
  intro I2 eI2
  have h := h I2 eI2
  have hF := hF.pf eI2 (by decide)
  exact hQ _ _ hF hL h
set_option maxRecDepth 10000 in
theorem mnX12_wrong {a1 : Int32} {I : Ix} {L : Lx} {Q Q' : Ix → Lx → Prop} (hQ : ∀ (I1 : Ix) (L1 : Lx), FrI (wsI_X12_wrong) (fsI_X12_wrong) I I1 → FrL (wsL_X12_wrong) (fsL_X12_wrong) L L1 → Q I1 L1 → Q' I1 L1) (h : wpX12_wrong a1 I L Q) : wpX12_wrong a1 I L Q' := by
  have hF : FrI (wsI_X12_wrong) (fsI_X12_wrong) I I := FrI.rf
  have hL : FrL (wsL_X12_wrong) (fsL_X12_wrong) L L := FrL.rf
  unfold wpX12_wrong at h ⊢
  refine ⟨fun hc => ?_, fun hc => ?_⟩
  · have h := h.1 hc
    refine ⟨fun hc => ?_, fun hc => ?_⟩
    · have h := h.1 hc
      exact mnX12_wrong_b22 hQ hF hL h
    · have h := h.2 hc
      exact mnX12_wrong_b22 hQ hF hL h
  · have h := h.2 hc
    exact hQ _ _ hF hL h
abbrev wsI_X12_isWord : List Nat := []
abbrev wsL_X12_isWord : List Nat := []
abbrev fsI_X12_isWord : List (Nat × Nat) := []
abbrev fsL_X12_isWord : List (Nat × Nat) := []
set_option maxRecDepth 10000 in
theorem mnX12_isWord {a1 : Int64} {I : Ix} {L : Lx} {Q Q' : Bool → Ix → Lx → Prop} (hQ : ∀ (r : Bool) (I1 : Ix) (L1 : Lx), FrI (wsI_X12_isWord) (fsI_X12_isWord) I I1 → FrL (wsL_X12_isWord) (fsL_X12_isWord) L L1 → Q r I1 L1 → Q' r I1 L1) (h : wpX12_isWord a1 I L Q) : wpX12_isWord a1 I L Q' := by
  have hF : FrI (wsI_X12_isWord) (fsI_X12_isWord) I I := FrI.rf
  have hL : FrL (wsL_X12_isWord) (fsL_X12_isWord) L L := FrL.rf
  unfold wpX12_isWord at h ⊢
  refine ⟨fun hc => ?_, fun hc => ?_⟩
  · have h := h.1 hc
    exact hQ _ _ _ hF hL h
  · have h := h.2 hc
    refine ⟨fun hc => ?_, fun hc => ?_⟩
    · have h := h.1 hc
      exact hQ _ _ _ hF hL h
    · have h := h.2 hc
      exact hQ _ _ _ hF hL h
abbrev wsI_X12_toldNumber : List Nat := []
abbrev wsL_X12_toldNumber : List Nat := []
abbrev fsI_X12_toldNumber : List (Nat × Nat) := [(120, 4), (120, 6), (120, 8), (120, 7), (120, 2), (120, 3)]
abbrev fsL_X12_toldNumber : List (Nat × Nat) := [(120, 9)]
set_option maxRecDepth 10000 in
theorem mnX12_toldNumber_b46 {I0 : Ix} {L0 : Lx} {Q Q' : Int32 → Ix → Lx → Prop} (hQ : ∀ (r : Int32) (I1 : Ix) (L1 : Lx), FrI (wsI_X12_toldNumber) (fsI_X12_toldNumber) I0 I1 → FrL (wsL_X12_toldNumber) (fsL_X12_toldNumber) L0 L1 → Q r I1 L1 → Q' r I1 L1) {I : Ix} {L : Lx} (hF : FrI (wsI_X12_toldNumber) (fsI_X12_toldNumber) I0 I) (hL : FrL (wsL_X12_toldNumber) (fsL_X12_toldNumber) L0 L) (h : wpX12_toldNumber_b46 Q I L) : wpX12_toldNumber_b46 Q' I L := by
  unfold wpX12_toldNumber_b46 at h ⊢
  refine ⟨fun hc => ?_, fun hc => ?_⟩
  · have h := h.1 hc
    exact hQ _ _ _ hF hL h
  · have h := h.2 hc
    refine mnX12_token (fun I1 L2 hf hl h => ?_) h
    have hF := hF.tr hf (by decide) (by decide)
    have hL := hL.tr hl (by decide) (by decide)
    exact hQ _ _ _ hF hL h
set_option maxRecDepth 10000 in
theorem mnX12_toldNumber_b41 {I0 : Ix} {L0 : Lx} {Q Q' : Int32 → Ix → Lx → Prop} (hQ : ∀ (r : Int32) (I1 : Ix) (L1 : Lx), FrI (wsI_X12_toldNumber) (fsI_X12_toldNumber) I0 I1 → FrL (wsL_X12_toldNumber) (fsL_X12_toldNumber) L0 L1 → Q r I1 L1 → Q' r I1 L1) {I : Ix} {L : Lx} (hF : FrI (wsI_X12_toldNumber) (fsI_X12_toldNumber) I0 I) (hL : FrL (wsL_X12_toldNumber) (fsL_X12_toldNumber) L0 L) (h : wpX12_toldNumber_b41 Q I L) : wpX12_toldNumber_b41 Q' I L := by
  unfold wpX12_toldNumber_b41 at h ⊢
  refine mnX12_wrong (fun I1 L2 hf hl h => ?_) h
  have hF := hF.tr hf (by decide) (by decide)
  have hL := hL.tr hl (by decide) (by decide)
  exact mnX12_toldNumber_b46 hQ hF hL h
set_option maxRecDepth 10000 in
theorem mnX12_toldNumber {a1 : Int32} {a2 : Int32} {I : Ix} {L : Lx} {Q Q' : Int32 → Ix → Lx → Prop} (hQ : ∀ (r : Int32) (I1 : Ix) (L1 : Lx), FrI (wsI_X12_toldNumber) (fsI_X12_toldNumber) I I1 → FrL (wsL_X12_toldNumber) (fsL_X12_toldNumber) L L1 → Q r I1 L1 → Q' r I1 L1) (h : wpX12_toldNumber a1 a2 I L Q) : wpX12_toldNumber a1 a2 I L Q' := by
  have hF : FrI (wsI_X12_toldNumber) (fsI_X12_toldNumber) I I := FrI.rf
  have hL : FrL (wsL_X12_toldNumber) (fsL_X12_toldNumber) L L := FrL.rf
  unfold wpX12_toldNumber at h ⊢
  refine ⟨fun hc => ?_, fun hc => ?_⟩
  · have h := h.1 hc
    refine ⟨fun hc => ?_, fun hc => ?_⟩
    · have h := h.1 hc
      refine ⟨fun hc => ?_, fun hc => ?_⟩
      · have h := h.1 hc
        exact mnX12_toldNumber_b41 hQ hF hL h
      · have h := h.2 hc
        refine ⟨fun hc => ?_, fun hc => ?_⟩
        · have h := h.1 hc
          exact mnX12_toldNumber_b46 hQ hF hL h
        · have h := h.2 hc
          exact mnX12_toldNumber_b41 hQ hF hL h
    · have h := h.2 hc
      refine mnX12_wrong (fun I1 L2 hf hl h => ?_) h
      have hF := hF.tr hf (by decide) (by decide)
      have hL := hL.tr hl (by decide) (by decide)
      exact mnX12_toldNumber_b46 hQ hF hL h
  · have h := h.2 hc
    exact hQ _ _ _ hF hL h
abbrev wsI_X12_readLate : List Nat := []
abbrev wsL_X12_readLate : List Nat := []
abbrev fsI_X12_readLate : List (Nat × Nat) := [(120, 49), (120, 41), (120, 4), (120, 6), (120, 8), (120, 7), (120, 2), (120, 3)]
abbrev fsL_X12_readLate : List (Nat × Nat) := [(120, 9)]
set_option maxRecDepth 10000 in
theorem mnX12_readLate {I : Ix} {L : Lx} {Q Q' : Ix → Lx → Prop} (hQ : ∀ (I1 : Ix) (L1 : Lx), FrI (wsI_X12_readLate) (fsI_X12_readLate) I I1 → FrL (wsL_X12_readLate) (fsL_X12_readLate) L L1 → Q I1 L1 → Q' I1 L1) (h : wpX12_readLate I L Q) : wpX12_readLate I L Q' := by
  have hF : FrI (wsI_X12_readLate) (fsI_X12_readLate) I I := FrI.rf
  have hL : FrL (wsL_X12_readLate) (fsL_X12_readLate) L L := FrL.rf
  unfold wpX12_readLate at h ⊢
  refine mnX12_token (fun I1 L2 hf hl h => ?_) h
  have hF := hF.tr hf (by decide) (by decide)
  have hL := hL.tr hl (by decide) (by decide)
  intro I3 eI3
  have h := h I3 eI3
  have hF := hF.pf eI3 (by decide)
  refine mnX12_toldNumber (fun r6 I4 L5 hf hl h => ?_) h
  have hF := hF.tr hf (by decide) (by decide)
  have hL := hL.tr hl (by decide) (by decide)
  intro I7 eI7
  have h := h I7 eI7
  have hF := hF.pf eI7 (by decide)
  exact hQ _ _ hF hL h
abbrev wsI_X12_readLaw : List Nat := []
abbrev wsL_X12_readLaw : List Nat := []
abbrev fsI_X12_readLaw : List (Nat × Nat) := [(120, 40), (120, 48), (120, 4), (120, 6), (120, 8), (120, 7), (120, 2), (120, 3)]
abbrev fsL_X12_readLaw : List (Nat × Nat) := [(120, 9)]
set_option maxRecDepth 10000 in
theorem mnX12_readLaw_b74 {I0 : Ix} {L0 : Lx} {Q Q' : Ix → Lx → Prop} (hQ : ∀ (I1 : Ix) (L1 : Lx), FrI (wsI_X12_readLaw) (fsI_X12_readLaw) I0 I1 → FrL (wsL_X12_readLaw) (fsL_X12_readLaw) L0 L1 → Q I1 L1 → Q' I1 L1) {t1 : Int32} {I : Ix} {L : Lx} (hF : FrI (wsI_X12_readLaw) (fsI_X12_readLaw) I0 I) (hL : FrL (wsL_X12_readLaw) (fsL_X12_readLaw) L0 L) (h : wpX12_readLaw_b74 Q t1 I L) : wpX12_readLaw_b74 Q' t1 I L := by
  unfold wpX12_readLaw_b74 at h ⊢
  intro I1 eI1
  have h := h I1 eI1
  have hF := hF.pf eI1 (by decide)
  refine ⟨fun hc => ?_, fun hc => ?_⟩
  · have h := h.1 hc
    exact hQ _ _ hF hL h
  · have h := h.2 hc
    refine mnX12_token (fun I2 L3 hf hl h => ?_) h
    have hF := hF.tr hf (by decide) (by decide)
    have hL := hL.tr hl (by decide) (by decide)
    exact hQ _ _ hF hL h
set_option maxRecDepth 10000 in
theorem mnX12_readLaw_b44 {I0 : Ix} {L0 : Lx} {Q Q' : Ix → Lx → Prop} (hQ : ∀ (I1 : Ix) (L1 : Lx), FrI (wsI_X12_readLaw) (fsI_X12_readLaw) I0 I1 → FrL (wsL_X12_readLaw) (fsL_X12_readLaw) L0 L1 → Q I1 L1 → Q' I1 L1) {I : Ix} {L : Lx} (hF : FrI (wsI_X12_readLaw) (fsI_X12_readLaw) I0 I) (hL : FrL (wsL_X12_readLaw) (fsL_X12_readLaw) L0 L) (h : wpX12_readLaw_b44 Q I L) : wpX12_readLaw_b44 Q' I L := by
  unfold wpX12_readLaw_b44 at h ⊢
  refine mnX12_isWord (fun r3 I1 L2 hf hl h => ?_) h
  have hF := hF.tr hf (by decide) (by decide)
  have hL := hL.tr hl (by decide) (by decide)
  refine ⟨fun hc => ?_, fun hc => ?_⟩
  · have h := h.1 hc
    refine mnX12_isWord (fun r6 I4 L5 hf hl h => ?_) h
    have hF := hF.tr hf (by decide) (by decide)
    have hL := hL.tr hl (by decide) (by decide)
    refine ⟨fun hc => ?_, fun hc => ?_⟩
    · have h := h.1 hc
      exact mnX12_readLaw_b74 hQ hF hL h
    · have h := h.2 hc
      exact mnX12_readLaw_b74 hQ hF hL h
  · have h := h.2 hc
    exact mnX12_readLaw_b74 hQ hF hL h
set_option maxRecDepth 10000 in
theorem mnX12_readLaw {I : Ix} {L : Lx} {Q Q' : Ix → Lx → Prop} (hQ : ∀ (I1 : Ix) (L1 : Lx), FrI (wsI_X12_readLaw) (fsI_X12_readLaw) I I1 → FrL (wsL_X12_readLaw) (fsL_X12_readLaw) L L1 → Q I1 L1 → Q' I1 L1) (h : wpX12_readLaw I L Q) : wpX12_readLaw I L Q' := by
  have hF : FrI (wsI_X12_readLaw) (fsI_X12_readLaw) I I := FrI.rf
  have hL : FrL (wsL_X12_readLaw) (fsL_X12_readLaw) L L := FrL.rf
  unfold wpX12_readLaw at h ⊢
  refine mnX12_token (fun I1 L2 hf hl h => ?_) h
  have hF := hF.tr hf (by decide) (by decide)
  have hL := hL.tr hl (by decide) (by decide)
  intro I3 eI3
  have h := h I3 eI3
  have hF := hF.pf eI3 (by decide)
  refine mnX12_isWord (fun r6 I4 L5 hf hl h => ?_) h
  have hF := hF.tr hf (by decide) (by decide)
  have hL := hL.tr hl (by decide) (by decide)
  refine ⟨fun hc => ?_, fun hc => ?_⟩
  · have h := h.1 hc
    exact mnX12_readLaw_b44 hQ hF hL h
  · have h := h.2 hc
    refine mnX12_isWord (fun r9 I7 L8 hf hl h => ?_) h
    have hF := hF.tr hf (by decide) (by decide)
    have hL := hL.tr hl (by decide) (by decide)
    refine ⟨fun hc => ?_, fun hc => ?_⟩
    · have h := h.1 hc
      exact mnX12_readLaw_b44 hQ hF hL h
    · have h := h.2 hc
      refine mnX12_isWord (fun r12 I10 L11 hf hl h => ?_) h
      have hF := hF.tr hf (by decide) (by decide)
      have hL := hL.tr hl (by decide) (by decide)
      refine ⟨fun hc => ?_, fun hc => ?_⟩
      · have h := h.1 hc
        exact mnX12_readLaw_b44 hQ hF hL h
      · have h := h.2 hc
        refine mnX12_wrong (fun I13 L14 hf hl h => ?_) h
        have hF := hF.tr hf (by decide) (by decide)
        have hL := hL.tr hl (by decide) (by decide)
        exact mnX12_readLaw_b44 hQ hF hL h
abbrev wsI_X12_isName : List Nat := []
abbrev wsL_X12_isName : List Nat := []
abbrev fsI_X12_isName : List (Nat × Nat) := []
abbrev fsL_X12_isName : List (Nat × Nat) := []
set_option maxRecDepth 10000 in
theorem mnX12_isName_b329 {I0 : Ix} {L0 : Lx} {Q Q' : Bool → Ix → Lx → Prop} (hQ : ∀ (r : Bool) (I1 : Ix) (L1 : Lx), FrI (wsI_X12_isName) (fsI_X12_isName) I0 I1 → FrL (wsL_X12_isName) (fsL_X12_isName) L0 L1 → Q r I1 L1 → Q' r I1 L1) {v1 : Int32} {t0 : Int32} {I : Ix} {L : Lx} (hF : FrI (wsI_X12_isName) (fsI_X12_isName) I0 I) (hL : FrL (wsL_X12_isName) (fsL_X12_isName) L0 L) (h : wpX12_isName_b329 Q v1 t0 I L) : wpX12_isName_b329 Q' v1 t0 I L := by
  unfold wpX12_isName_b329 at h ⊢
  refine ⟨fun hc => ?_, fun hc => ?_⟩
  · have h := h.1 hc
    exact hQ _ _ _ hF hL h
  · have h := h.2 hc
    refine ⟨fun hc => ?_, fun hc => ?_⟩
    · have h := h.1 hc
      exact hQ _ _ _ hF hL h
    · have h := h.2 hc
      exact hQ _ _ _ hF hL h
set_option maxRecDepth 10000 in
theorem mnX12_isName_b324 {I0 : Ix} {L0 : Lx} {Q Q' : Bool → Ix → Lx → Prop} (hQ : ∀ (r : Bool) (I1 : Ix) (L1 : Lx), FrI (wsI_X12_isName) (fsI_X12_isName) I0 I1 → FrL (wsL_X12_isName) (fsL_X12_isName) L0 L1 → Q r I1 L1 → Q' r I1 L1) {v1 : Int32} {I : Ix} {L : Lx} (hF : FrI (wsI_X12_isName) (fsI_X12_isName) I0 I) (hL : FrL (wsL_X12_isName) (fsL_X12_isName) L0 L) (h : wpX12_isName_b324 Q v1 I L) : wpX12_isName_b324 Q' v1 I L := by
  unfold wpX12_isName_b324 at h ⊢
  exact mnX12_isName_b329 hQ hF hL h
set_option maxRecDepth 10000 in
theorem mnX12_isName_b169 {I0 : Ix} {L0 : Lx} {Q Q' : Bool → Ix → Lx → Prop} (hQ : ∀ (r : Bool) (I1 : Ix) (L1 : Lx), FrI (wsI_X12_isName) (fsI_X12_isName) I0 I1 → FrL (wsL_X12_isName) (fsL_X12_isName) L0 L1 → Q r I1 L1 → Q' r I1 L1) {t0 : Int32} {I : Ix} {L : Lx} (hF : FrI (wsI_X12_isName) (fsI_X12_isName) I0 I) (hL : FrL (wsL_X12_isName) (fsL_X12_isName) L0 L) (h : wpX12_isName_b169 Q t0 I L) : wpX12_isName_b169 Q' t0 I L := by
  unfold wpX12_isName_b169 at h ⊢
  refine ⟨fun hc => ?_, fun hc => ?_⟩
  · have h := h.1 hc
    exact mnX12_isName_b324 hQ hF hL h
  · have h := h.2 hc
    refine ⟨fun hc => ?_, fun hc => ?_⟩
    · have h := h.1 hc
      exact mnX12_isName_b324 hQ hF hL h
    · have h := h.2 hc
      refine ⟨fun hc => ?_, fun hc => ?_⟩
      · have h := h.1 hc
        exact mnX12_isName_b324 hQ hF hL h
      · have h := h.2 hc
        refine ⟨fun hc => ?_, fun hc => ?_⟩
        · have h := h.1 hc
          exact mnX12_isName_b324 hQ hF hL h
        · have h := h.2 hc
          refine ⟨fun hc => ?_, fun hc => ?_⟩
          · have h := h.1 hc
            exact mnX12_isName_b324 hQ hF hL h
          · have h := h.2 hc
            refine ⟨fun hc => ?_, fun hc => ?_⟩
            · have h := h.1 hc
              exact mnX12_isName_b324 hQ hF hL h
            · have h := h.2 hc
              refine ⟨fun hc => ?_, fun hc => ?_⟩
              · have h := h.1 hc
                exact mnX12_isName_b324 hQ hF hL h
              · have h := h.2 hc
                refine ⟨fun hc => ?_, fun hc => ?_⟩
                · have h := h.1 hc
                  exact mnX12_isName_b324 hQ hF hL h
                · have h := h.2 hc
                  refine ⟨fun hc => ?_, fun hc => ?_⟩
                  · have h := h.1 hc
                    exact mnX12_isName_b324 hQ hF hL h
                  · have h := h.2 hc
                    refine ⟨fun hc => ?_, fun hc => ?_⟩
                    · have h := h.1 hc
                      exact mnX12_isName_b324 hQ hF hL h
                    · have h := h.2 hc
                      refine ⟨fun hc => ?_, fun hc => ?_⟩
                      · have h := h.1 hc
                        exact mnX12_isName_b324 hQ hF hL h
                      · have h := h.2 hc
                        refine ⟨fun hc => ?_, fun hc => ?_⟩
                        · have h := h.1 hc
                          exact mnX12_isName_b324 hQ hF hL h
                        · have h := h.2 hc
                          refine ⟨fun hc => ?_, fun hc => ?_⟩
                          · have h := h.1 hc
                            exact mnX12_isName_b324 hQ hF hL h
                          · have h := h.2 hc
                            refine ⟨fun hc => ?_, fun hc => ?_⟩
                            · have h := h.1 hc
                              exact mnX12_isName_b329 hQ hF hL h
                            · have h := h.2 hc
                              exact mnX12_isName_b324 hQ hF hL h
set_option maxRecDepth 10000 in
theorem mnX12_isName_b164 {I0 : Ix} {L0 : Lx} {Q Q' : Bool → Ix → Lx → Prop} (hQ : ∀ (r : Bool) (I1 : Ix) (L1 : Lx), FrI (wsI_X12_isName) (fsI_X12_isName) I0 I1 → FrL (wsL_X12_isName) (fsL_X12_isName) L0 L1 → Q r I1 L1 → Q' r I1 L1) {I : Ix} {L : Lx} (hF : FrI (wsI_X12_isName) (fsI_X12_isName) I0 I) (hL : FrL (wsL_X12_isName) (fsL_X12_isName) L0 L) (h : wpX12_isName_b164 Q I L) : wpX12_isName_b164 Q' I L := by
  unfold wpX12_isName_b164 at h ⊢
  exact mnX12_isName_b169 hQ hF hL h
set_option maxRecDepth 10000 in
theorem mnX12_isName {I : Ix} {L : Lx} {Q Q' : Bool → Ix → Lx → Prop} (hQ : ∀ (r : Bool) (I1 : Ix) (L1 : Lx), FrI (wsI_X12_isName) (fsI_X12_isName) I I1 → FrL (wsL_X12_isName) (fsL_X12_isName) L L1 → Q r I1 L1 → Q' r I1 L1) (h : wpX12_isName I L Q) : wpX12_isName I L Q' := by
  have hF : FrI (wsI_X12_isName) (fsI_X12_isName) I I := FrI.rf
  have hL : FrL (wsL_X12_isName) (fsL_X12_isName) L L := FrL.rf
  unfold wpX12_isName at h ⊢
  refine ⟨fun hc => ?_, fun hc => ?_⟩
  · have h := h.1 hc
    refine ⟨fun hc => ?_, fun hc => ?_⟩
    · have h := h.1 hc
      exact mnX12_isName_b164 hQ hF hL h
    · have h := h.2 hc
      refine ⟨fun hc => ?_, fun hc => ?_⟩
      · have h := h.1 hc
        exact mnX12_isName_b164 hQ hF hL h
      · have h := h.2 hc
        refine ⟨fun hc => ?_, fun hc => ?_⟩
        · have h := h.1 hc
          exact mnX12_isName_b164 hQ hF hL h
        · have h := h.2 hc
          refine ⟨fun hc => ?_, fun hc => ?_⟩
          · have h := h.1 hc
            exact mnX12_isName_b164 hQ hF hL h
          · have h := h.2 hc
            refine ⟨fun hc => ?_, fun hc => ?_⟩
            · have h := h.1 hc
              exact mnX12_isName_b164 hQ hF hL h
            · have h := h.2 hc
              refine ⟨fun hc => ?_, fun hc => ?_⟩
              · have h := h.1 hc
                exact mnX12_isName_b164 hQ hF hL h
              · have h := h.2 hc
                refine ⟨fun hc => ?_, fun hc => ?_⟩
                · have h := h.1 hc
                  exact mnX12_isName_b164 hQ hF hL h
                · have h := h.2 hc
                  refine ⟨fun hc => ?_, fun hc => ?_⟩
                  · have h := h.1 hc
                    exact mnX12_isName_b164 hQ hF hL h
                  · have h := h.2 hc
                    refine ⟨fun hc => ?_, fun hc => ?_⟩
                    · have h := h.1 hc
                      exact mnX12_isName_b164 hQ hF hL h
                    · have h := h.2 hc
                      refine ⟨fun hc => ?_, fun hc => ?_⟩
                      · have h := h.1 hc
                        exact mnX12_isName_b164 hQ hF hL h
                      · have h := h.2 hc
                        refine ⟨fun hc => ?_, fun hc => ?_⟩
                        · have h := h.1 hc
                          exact mnX12_isName_b164 hQ hF hL h
                        · have h := h.2 hc
                          refine ⟨fun hc => ?_, fun hc => ?_⟩
                          · have h := h.1 hc
                            exact mnX12_isName_b164 hQ hF hL h
                          · have h := h.2 hc
                            refine ⟨fun hc => ?_, fun hc => ?_⟩
                            · have h := h.1 hc
                              exact mnX12_isName_b164 hQ hF hL h
                            · have h := h.2 hc
                              refine ⟨fun hc => ?_, fun hc => ?_⟩
                              · have h := h.1 hc
                                exact mnX12_isName_b169 hQ hF hL h
                              · have h := h.2 hc
                                exact mnX12_isName_b164 hQ hF hL h
  · have h := h.2 hc
    exact hQ _ _ _ hF hL h
abbrev wsI_X12_find (r0 : Nat) : List Nat := []
abbrev wsL_X12_find (r0 : Nat) : List Nat := []
abbrev fsI_X12_find (r0 : Nat) : List (Nat × Nat) := []
abbrev fsL_X12_find (r0 : Nat) : List (Nat × Nat) := []
set_option maxRecDepth 10000 in
theorem mnX12_find_l6 {r0 : Nat} {N0 : Nat} {I0 : Ix} {L0 : Lx} {Q Q' : Int32 → Ix → Lx → Prop} {P6 P6' : Int32 → Int64 → Int32 → Int32 → Ix → Lx → Prop} (hQ : ∀ (r : Int32) (I1 : Ix) (L1 : Lx), FrI (wsI_X12_find r0) (fsI_X12_find r0) I0 I1 → FrL (wsL_X12_find r0) (fsL_X12_find r0) L0 L1 → Q r I1 L1 → Q' r I1 L1) (hP6 : ∀ (v1 : Int32) (v2 : Int64) (v4 : Int32) (v5 : Int32) (I1 : Ix) (L1 : Lx), FrI (wsI_X12_find r0) (fsI_X12_find r0) I0 I1 → FrL (wsL_X12_find r0) (fsL_X12_find r0) L0 L1 → P6 v1 v2 v4 v5 I1 L1 → P6' v1 v2 v4 v5 I1 L1) {v1 : Int32} {v2 : Int64} {v4 : Int32} {v5 : Int32} {I : Ix} {L : Lx} (hF : FrI (wsI_X12_find r0) (fsI_X12_find r0) I0 I) (hL : FrL (wsL_X12_find r0) (fsL_X12_find r0) L0 L) (h : wpX12_find_l6 r0 N0 Q P6 v1 v2 v4 v5 I L) : wpX12_find_l6 r0 N0 Q' P6' v1 v2 v4 v5 I L := by
  unfold wpX12_find_l6 at h ⊢
  refine ⟨fun hc => ?_, fun hc => ?_⟩
  · have h := h.1 hc
    exact hQ _ _ _ hF hL h
  · have h := h.2 hc
    refine ⟨h.1, ?_⟩
    have h := h.2
    refine ⟨fun hc => ?_, fun hc => ?_⟩
    · have h := h.1 hc
      exact hP6 _ _ _ _ _ _ hF hL h
    · have h := h.2 hc
      exact hP6 _ _ _ _ _ _ hF hL h
set_option maxRecDepth 10000 in
theorem mnX12_find_h6 {r0 : Nat} {N0 : Nat} {I0 : Ix} {L0 : Lx} {Q Q' : Int32 → Ix → Lx → Prop} (hQ : ∀ (r : Int32) (I1 : Ix) (L1 : Lx), FrI (wsI_X12_find r0) (fsI_X12_find r0) I0 I1 → FrL (wsL_X12_find r0) (fsL_X12_find r0) L0 L1 → Q r I1 L1 → Q' r I1 L1) {v1 : Int32} {v2 : Int64} {v4 : Int32} {v5 : Int32} {I : Ix} {L : Lx} (hF : FrI (wsI_X12_find r0) (fsI_X12_find r0) I0 I) (hL : FrL (wsL_X12_find r0) (fsL_X12_find r0) L0 L) (h : wpX12_find_h6 r0 N0 Q v1 v2 v4 v5 I L) : wpX12_find_h6 r0 N0 Q' v1 v2 v4 v5 I L := by
  unfold wpX12_find_h6 at h
  refine Lfp.ind (P := fun z => FrI (wsI_X12_find r0) (fsI_X12_find r0) I0 z.2.2.2.2.1 → FrL (wsL_X12_find r0) (fsL_X12_find r0) L0 z.2.2.2.2.2 → wpX12_find_h6 r0 N0 Q' z.1 z.2.1 z.2.2.1 z.2.2.2.1 z.2.2.2.2.1 z.2.2.2.2.2) ?_ h hF hL
  intro z P' hP' h hF hL
  obtain ⟨v1, v2, v4, v5, I, L⟩ := z
  exact wpX12_find_h6_fold (mnX12_find_l6 hQ (fun v1 v2 v4 v5 I L hF hL h9 => hP' (v1, v2, v4, v5, I, L) h9 hF hL) hF hL h)
set_option maxRecDepth 10000 in
theorem mnX12_find {r0 : Nat} {N0 : Nat} {a1 : Int32} {a2 : Int64} {I : Ix} {L : Lx} {Q Q' : Int32 → Ix → Lx → Prop} (hQ : ∀ (r : Int32) (I1 : Ix) (L1 : Lx), FrI (wsI_X12_find r0) (fsI_X12_find r0) I I1 → FrL (wsL_X12_find r0) (fsL_X12_find r0) L L1 → Q r I1 L1 → Q' r I1 L1) (h : wpX12_find r0 N0 a1 a2 I L Q) : wpX12_find r0 N0 a1 a2 I L Q' := by
  have hF : FrI (wsI_X12_find r0) (fsI_X12_find r0) I I := FrI.rf
  have hL : FrL (wsL_X12_find r0) (fsL_X12_find r0) L L := FrL.rf
  unfold wpX12_find at h ⊢
  exact mnX12_find_h6 hQ hF hL h
abbrev wsI_X12_newName (r1 : Nat) : List Nat := []
abbrev wsL_X12_newName (r1 : Nat) : List Nat := []
abbrev fsI_X12_newName (r1 : Nat) : List (Nat × Nat) := [(120, 4), (120, 6), (120, 8), (120, 7), (120, 2), (120, 3)]
abbrev fsL_X12_newName (r1 : Nat) : List (Nat × Nat) := [(120, 9)]
set_option maxRecDepth 10000 in
theorem mnX12_newName_b36 {r1 : Nat} {N1 : Nat} {I0 : Ix} {L0 : Lx} {Q Q' : Int64 → Ix → Lx → Prop} (hQ : ∀ (r : Int64) (I1 : Ix) (L1 : Lx), FrI (wsI_X12_newName r1) (fsI_X12_newName r1) I0 I1 → FrL (wsL_X12_newName r1) (fsL_X12_newName r1) L0 L1 → Q r I1 L1 → Q' r I1 L1) {I : Ix} {L : Lx} (hF : FrI (wsI_X12_newName r1) (fsI_X12_newName r1) I0 I) (hL : FrL (wsL_X12_newName r1) (fsL_X12_newName r1) L0 L) (h : wpX12_newName_b36 r1 N1 Q I L) : wpX12_newName_b36 r1 N1 Q' I L := by
  unfold wpX12_newName_b36 at h ⊢
  refine ⟨fun hc => ?_, fun hc => ?_⟩
  · have h := h.1 hc
    exact hQ _ _ _ hF hL h
  · have h := h.2 hc
    refine mnX12_token (fun I1 L2 hf hl h => ?_) h
    have hF := hF.tr hf (by intro k hk; first | (simp only [List.mem_cons, List.not_mem_nil, or_false] at hk ⊢; omega) | (simp at hk; done) | (simp at hk ⊢; omega)) (by intro q hq; obtain ⟨k, j⟩ := q; first | (simp only [List.mem_cons, List.not_mem_nil, or_false, Prod.mk.injEq] at hq ⊢; omega) | (simp at hq; done))
    have hL := hL.tr hl (by intro k hk; first | (simp only [List.mem_cons, List.not_mem_nil, or_false] at hk ⊢; omega) | (simp at hk; done) | (simp at hk ⊢; omega)) (by intro q hq; obtain ⟨k, j⟩ := q; first | (simp only [List.mem_cons, List.not_mem_nil, or_false, Prod.mk.injEq] at hq ⊢; omega) | (simp at hq; done))
    exact hQ _ _ _ hF hL h
set_option maxRecDepth 10000 in
theorem mnX12_newName {r1 : Nat} {N1 : Nat} {a2 : Int32} {I : Ix} {L : Lx} {Q Q' : Int64 → Ix → Lx → Prop} (hQ : ∀ (r : Int64) (I1 : Ix) (L1 : Lx), FrI (wsI_X12_newName r1) (fsI_X12_newName r1) I I1 → FrL (wsL_X12_newName r1) (fsL_X12_newName r1) L L1 → Q r I1 L1 → Q' r I1 L1) (h : wpX12_newName r1 N1 a2 I L Q) : wpX12_newName r1 N1 a2 I L Q' := by
  have hF : FrI (wsI_X12_newName r1) (fsI_X12_newName r1) I I := FrI.rf
  have hL : FrL (wsL_X12_newName r1) (fsL_X12_newName r1) L L := FrL.rf
  unfold wpX12_newName at h ⊢
  refine mnX12_token (fun I1 L2 hf hl h => ?_) h
  have hF := hF.tr hf (by intro k hk; first | (simp only [List.mem_cons, List.not_mem_nil, or_false] at hk ⊢; omega) | (simp at hk; done) | (simp at hk ⊢; omega)) (by intro q hq; obtain ⟨k, j⟩ := q; first | (simp only [List.mem_cons, List.not_mem_nil, or_false, Prod.mk.injEq] at hq ⊢; omega) | (simp at hq; done))
  have hL := hL.tr hl (by intro k hk; first | (simp only [List.mem_cons, List.not_mem_nil, or_false] at hk ⊢; omega) | (simp at hk; done) | (simp at hk ⊢; omega)) (by intro q hq; obtain ⟨k, j⟩ := q; first | (simp only [List.mem_cons, List.not_mem_nil, or_false, Prod.mk.injEq] at hq ⊢; omega) | (simp at hq; done))
  refine mnX12_isName (fun r5 I3 L4 hf hl h => ?_) h
  have hF := hF.tr hf (by intro k hk; first | (simp only [List.mem_cons, List.not_mem_nil, or_false] at hk ⊢; omega) | (simp at hk; done) | (simp at hk ⊢; omega)) (by intro q hq; obtain ⟨k, j⟩ := q; first | (simp only [List.mem_cons, List.not_mem_nil, or_false, Prod.mk.injEq] at hq ⊢; omega) | (simp at hq; done))
  have hL := hL.tr hl (by intro k hk; first | (simp only [List.mem_cons, List.not_mem_nil, or_false] at hk ⊢; omega) | (simp at hk; done) | (simp at hk ⊢; omega)) (by intro q hq; obtain ⟨k, j⟩ := q; first | (simp only [List.mem_cons, List.not_mem_nil, or_false, Prod.mk.injEq] at hq ⊢; omega) | (simp at hq; done))
  refine ⟨fun hc => ?_, fun hc => ?_⟩
  · have h := h.1 hc
    refine mnX12_find (fun r8 I6 L7 hf hl h => ?_) h
    have hF := hF.tr hf (by intro k hk; first | (simp only [List.mem_cons, List.not_mem_nil, or_false] at hk ⊢; omega) | (simp at hk; done) | (simp at hk ⊢; omega)) (by intro q hq; obtain ⟨k, j⟩ := q; first | (simp only [List.mem_cons, List.not_mem_nil, or_false, Prod.mk.injEq] at hq ⊢; omega) | (simp at hq; done))
    have hL := hL.tr hl (by intro k hk; first | (simp only [List.mem_cons, List.not_mem_nil, or_false] at hk ⊢; omega) | (simp at hk; done) | (simp at hk ⊢; omega)) (by intro q hq; obtain ⟨k, j⟩ := q; first | (simp only [List.mem_cons, List.not_mem_nil, or_false, Prod.mk.injEq] at hq ⊢; omega) | (simp at hq; done))
    refine ⟨fun hc => ?_, fun hc => ?_⟩
    · have h := h.1 hc
      exact mnX12_newName_b36 hQ hF hL h
    · have h := h.2 hc
      refine mnX12_wrong (fun I9 L10 hf hl h => ?_) h
      have hF := hF.tr hf (by intro k hk; first | (simp only [List.mem_cons, List.not_mem_nil, or_false] at hk ⊢; omega) | (simp at hk; done) | (simp at hk ⊢; omega)) (by intro q hq; obtain ⟨k, j⟩ := q; first | (simp only [List.mem_cons, List.not_mem_nil, or_false, Prod.mk.injEq] at hq ⊢; omega) | (simp at hq; done))
      have hL := hL.tr hl (by intro k hk; first | (simp only [List.mem_cons, List.not_mem_nil, or_false] at hk ⊢; omega) | (simp at hk; done) | (simp at hk ⊢; omega)) (by intro q hq; obtain ⟨k, j⟩ := q; first | (simp only [List.mem_cons, List.not_mem_nil, or_false, Prod.mk.injEq] at hq ⊢; omega) | (simp at hq; done))
      exact mnX12_newName_b36 hQ hF hL h
  · have h := h.2 hc
    refine mnX12_wrong (fun I11 L12 hf hl h => ?_) h
    have hF := hF.tr hf (by intro k hk; first | (simp only [List.mem_cons, List.not_mem_nil, or_false] at hk ⊢; omega) | (simp at hk; done) | (simp at hk ⊢; omega)) (by intro q hq; obtain ⟨k, j⟩ := q; first | (simp only [List.mem_cons, List.not_mem_nil, or_false, Prod.mk.injEq] at hq ⊢; omega) | (simp at hq; done))
    have hL := hL.tr hl (by intro k hk; first | (simp only [List.mem_cons, List.not_mem_nil, or_false] at hk ⊢; omega) | (simp at hk; done) | (simp at hk ⊢; omega)) (by intro q hq; obtain ⟨k, j⟩ := q; first | (simp only [List.mem_cons, List.not_mem_nil, or_false, Prod.mk.injEq] at hq ⊢; omega) | (simp at hq; done))
    exact mnX12_newName_b36 hQ hF hL h
abbrev wsI_X12_want : List Nat := []
abbrev wsL_X12_want : List Nat := []
abbrev fsI_X12_want : List (Nat × Nat) := [(120, 4), (120, 6), (120, 8), (120, 7), (120, 2), (120, 3)]
abbrev fsL_X12_want : List (Nat × Nat) := [(120, 9)]
set_option maxRecDepth 10000 in
theorem mnX12_want {a1 : Int64} {I : Ix} {L : Lx} {Q Q' : Ix → Lx → Prop} (hQ : ∀ (I1 : Ix) (L1 : Lx), FrI (wsI_X12_want) (fsI_X12_want) I I1 → FrL (wsL_X12_want) (fsL_X12_want) L L1 → Q I1 L1 → Q' I1 L1) (h : wpX12_want a1 I L Q) : wpX12_want a1 I L Q' := by
  have hF : FrI (wsI_X12_want) (fsI_X12_want) I I := FrI.rf
  have hL : FrL (wsL_X12_want) (fsL_X12_want) L L := FrL.rf
  unfold wpX12_want at h ⊢
  refine ⟨fun hc => ?_, fun hc => ?_⟩
  · have h := h.1 hc
    refine mnX12_isWord (fun r3 I1 L2 hf hl h => ?_) h
    have hF := hF.tr hf (by decide) (by decide)
    have hL := hL.tr hl (by decide) (by decide)
    refine ⟨fun hc => ?_, fun hc => ?_⟩
    · have h := h.1 hc
      refine mnX12_token (fun I4 L5 hf hl h => ?_) h
      have hF := hF.tr hf (by decide) (by decide)
      have hL := hL.tr hl (by decide) (by decide)
      exact hQ _ _ hF hL h
    · have h := h.2 hc
      refine mnX12_wrong (fun I6 L7 hf hl h => ?_) h
      have hF := hF.tr hf (by decide) (by decide)
      have hL := hL.tr hl (by decide) (by decide)
      exact hQ _ _ hF hL h
  · have h := h.2 hc
    exact hQ _ _ hF hL h
abbrev wsI_X12_oldPlace : List Nat := []
abbrev wsL_X12_oldPlace : List Nat := []
abbrev fsI_X12_oldPlace : List (Nat × Nat) := [(120, 4), (120, 6), (120, 8), (120, 7), (120, 2), (120, 3)]
abbrev fsL_X12_oldPlace : List (Nat × Nat) := [(120, 9)]
set_option maxRecDepth 10000 in
theorem mnX12_oldPlace_b49 {I0 : Ix} {L0 : Lx} {Q Q' : Int32 → Ix → Lx → Prop} (hQ : ∀ (r : Int32) (I1 : Ix) (L1 : Lx), FrI (wsI_X12_oldPlace) (fsI_X12_oldPlace) I0 I1 → FrL (wsL_X12_oldPlace) (fsL_X12_oldPlace) L0 L1 → Q r I1 L1 → Q' r I1 L1) {v1 : Int32} {I : Ix} {L : Lx} (hF : FrI (wsI_X12_oldPlace) (fsI_X12_oldPlace) I0 I) (hL : FrL (wsL_X12_oldPlace) (fsL_X12_oldPlace) L0 L) (h : wpX12_oldPlace_b49 Q v1 I L) : wpX12_oldPlace_b49 Q' v1 I L := by
  unfold wpX12_oldPlace_b49 at h ⊢
  refine ⟨fun hc => ?_, fun hc => ?_⟩
  · have h := h.1 hc
    exact hQ _ _ _ hF hL h
  · have h := h.2 hc
    refine mnX12_token (fun I1 L2 hf hl h => ?_) h
    have hF := hF.tr hf (by decide) (by decide)
    have hL := hL.tr hl (by decide) (by decide)
    exact hQ _ _ _ hF hL h
set_option maxRecDepth 10000 in
theorem mnX12_oldPlace {I : Ix} {L : Lx} {Q Q' : Int32 → Ix → Lx → Prop} (hQ : ∀ (r : Int32) (I1 : Ix) (L1 : Lx), FrI (wsI_X12_oldPlace) (fsI_X12_oldPlace) I I1 → FrL (wsL_X12_oldPlace) (fsL_X12_oldPlace) L L1 → Q r I1 L1 → Q' r I1 L1) (h : wpX12_oldPlace I L Q) : wpX12_oldPlace I L Q' := by
  have hF : FrI (wsI_X12_oldPlace) (fsI_X12_oldPlace) I I := FrI.rf
  have hL : FrL (wsL_X12_oldPlace) (fsL_X12_oldPlace) L L := FrL.rf
  unfold wpX12_oldPlace at h ⊢
  refine ⟨fun hc => ?_, fun hc => ?_⟩
  · have h := h.1 hc
    refine mnX12_find (fun r3 I1 L2 hf hl h => ?_) h
    have hF := hF.tr hf (by decide) (by decide)
    have hL := hL.tr hl (by decide) (by decide)
    refine mnX12_isName (fun r6 I4 L5 hf hl h => ?_) h
    have hF := hF.tr hf (by decide) (by decide)
    have hL := hL.tr hl (by decide) (by decide)
    refine ⟨fun hc => ?_, fun hc => ?_⟩
    · have h := h.1 hc
      refine ⟨fun hc => ?_, fun hc => ?_⟩
      · have h := h.1 hc
        exact mnX12_oldPlace_b49 hQ hF hL h
      · have h := h.2 hc
        refine mnX12_wrong (fun I7 L8 hf hl h => ?_) h
        have hF := hF.tr hf (by decide) (by decide)
        have hL := hL.tr hl (by decide) (by decide)
        exact mnX12_oldPlace_b49 hQ hF hL h
    · have h := h.2 hc
      refine mnX12_wrong (fun I9 L10 hf hl h => ?_) h
      have hF := hF.tr hf (by decide) (by decide)
      have hL := hL.tr hl (by decide) (by decide)
      exact mnX12_oldPlace_b49 hQ hF hL h
  · have h := h.2 hc
    exact hQ _ _ _ hF hL h
abbrev wsI_X12_atPlace : List Nat := []
abbrev wsL_X12_atPlace : List Nat := []
abbrev fsI_X12_atPlace : List (Nat × Nat) := [(120, 4), (120, 6), (120, 8), (120, 7), (120, 2), (120, 3)]
abbrev fsL_X12_atPlace : List (Nat × Nat) := [(120, 9)]
set_option maxRecDepth 10000 in
theorem mnX12_atPlace {I : Ix} {L : Lx} {Q Q' : Int32 → Ix → Lx → Prop} (hQ : ∀ (r : Int32) (I1 : Ix) (L1 : Lx), FrI (wsI_X12_atPlace) (fsI_X12_atPlace) I I1 → FrL (wsL_X12_atPlace) (fsL_X12_atPlace) L L1 → Q r I1 L1 → Q' r I1 L1) (h : wpX12_atPlace I L Q) : wpX12_atPlace I L Q' := by
  have hF : FrI (wsI_X12_atPlace) (fsI_X12_atPlace) I I := FrI.rf
  have hL : FrL (wsL_X12_atPlace) (fsL_X12_atPlace) L L := FrL.rf
  unfold wpX12_atPlace at h ⊢
  refine mnX12_want (fun I1 L2 hf hl h => ?_) h
  have hF := hF.tr hf (by decide) (by decide)
  have hL := hL.tr hl (by decide) (by decide)
  refine mnX12_oldPlace (fun r5 I3 L4 hf hl h => ?_) h
  have hF := hF.tr hf (by decide) (by decide)
  have hL := hL.tr hl (by decide) (by decide)
  exact hQ _ _ _ hF hL h
abbrev wsI_X12_told : List Nat := []
abbrev wsL_X12_told : List Nat := []
abbrev fsI_X12_told : List (Nat × Nat) := [(120, 4), (120, 6), (120, 8), (120, 7), (120, 2), (120, 3)]
abbrev fsL_X12_told : List (Nat × Nat) := [(120, 9)]
set_option maxRecDepth 10000 in
theorem mnX12_told {a1 : Int64} {a3 : Int32} {a4 : Int32} {I : Ix} {L : Lx} {Q Q' : Int32 → Ix → Lx → Prop} (hQ : ∀ (r : Int32) (I1 : Ix) (L1 : Lx), FrI (wsI_X12_told) (fsI_X12_told) I I1 → FrL (wsL_X12_told) (fsL_X12_told) L L1 → Q r I1 L1 → Q' r I1 L1) (h : wpX12_told a1 a3 a4 I L Q) : wpX12_told a1 a3 a4 I L Q' := by
  have hF : FrI (wsI_X12_told) (fsI_X12_told) I I := FrI.rf
  have hL : FrL (wsL_X12_told) (fsL_X12_told) L L := FrL.rf
  unfold wpX12_told at h ⊢
  refine mnX12_want (fun I1 L2 hf hl h => ?_) h
  have hF := hF.tr hf (by decide) (by decide)
  have hL := hL.tr hl (by decide) (by decide)
  refine mnX12_toldNumber (fun r5 I3 L4 hf hl h => ?_) h
  have hF := hF.tr hf (by decide) (by decide)
  have hL := hL.tr hl (by decide) (by decide)
  exact hQ _ _ _ hF hL h
abbrev wsI_X12_upper : List Nat := []
abbrev wsL_X12_upper : List Nat := []
abbrev fsI_X12_upper : List (Nat × Nat) := []
abbrev fsL_X12_upper : List (Nat × Nat) := []
set_option maxRecDepth 10000 in
theorem mnX12_upper {I : Ix} {L : Lx} {Q Q' : Int32 → Ix → Lx → Prop} (hQ : ∀ (r : Int32) (I1 : Ix) (L1 : Lx), FrI (wsI_X12_upper) (fsI_X12_upper) I I1 → FrL (wsL_X12_upper) (fsL_X12_upper) L L1 → Q r I1 L1 → Q' r I1 L1) (h : wpX12_upper I L Q) : wpX12_upper I L Q' := by
  have hF : FrI (wsI_X12_upper) (fsI_X12_upper) I I := FrI.rf
  have hL : FrL (wsL_X12_upper) (fsL_X12_upper) L L := FrL.rf
  unfold wpX12_upper at h ⊢
  refine ⟨fun hc => ?_, fun hc => ?_⟩
  · have h := h.1 hc
    refine ⟨h.1, ?_⟩
    have h := h.2
    exact hQ _ _ _ hF hL h
  · have h := h.2 hc
    exact hQ _ _ _ hF hL h
abbrev wsI_X12_rank : List Nat := []
abbrev wsL_X12_rank : List Nat := []
abbrev fsI_X12_rank : List (Nat × Nat) := []
abbrev fsL_X12_rank : List (Nat × Nat) := []
set_option maxRecDepth 10000 in
theorem mnX12_rank_b23 {I0 : Ix} {L0 : Lx} {Q Q' : Int32 → Ix → Lx → Prop} (hQ : ∀ (r : Int32) (I1 : Ix) (L1 : Lx), FrI (wsI_X12_rank) (fsI_X12_rank) I0 I1 → FrL (wsL_X12_rank) (fsL_X12_rank) L0 L1 → Q r I1 L1 → Q' r I1 L1) {I : Ix} {L : Lx} (hF : FrI (wsI_X12_rank) (fsI_X12_rank) I0 I) (hL : FrL (wsL_X12_rank) (fsL_X12_rank) L0 L) (h : wpX12_rank_b23 Q I L) : wpX12_rank_b23 Q' I L := by
  unfold wpX12_rank_b23 at h ⊢
  exact hQ _ _ _ hF hL h
set_option maxRecDepth 10000 in
theorem mnX12_rank {a0 : Int32} {I : Ix} {L : Lx} {Q Q' : Int32 → Ix → Lx → Prop} (hQ : ∀ (r : Int32) (I1 : Ix) (L1 : Lx), FrI (wsI_X12_rank) (fsI_X12_rank) I I1 → FrL (wsL_X12_rank) (fsL_X12_rank) L L1 → Q r I1 L1 → Q' r I1 L1) (h : wpX12_rank a0 I L Q) : wpX12_rank a0 I L Q' := by
  have hF : FrI (wsI_X12_rank) (fsI_X12_rank) I I := FrI.rf
  have hL : FrL (wsL_X12_rank) (fsL_X12_rank) L L := FrL.rf
  unfold wpX12_rank at h ⊢
  refine ⟨fun hc => ?_, fun hc => ?_⟩
  · have h := h.1 hc
    refine ⟨fun hc => ?_, fun hc => ?_⟩
    · have h := h.1 hc
      exact mnX12_rank_b23 hQ hF hL h
    · have h := h.2 hc
      refine ⟨fun hc => ?_, fun hc => ?_⟩
      · have h := h.1 hc
        exact hQ _ _ _ hF hL h
      · have h := h.2 hc
        exact mnX12_rank_b23 hQ hF hL h
  · have h := h.2 hc
    exact hQ _ _ _ hF hL h
abbrev wsI_X12_note : List Nat := [122, 123]
abbrev wsL_X12_note : List Nat := []
abbrev fsI_X12_note : List (Nat × Nat) := [(120, 19)]
abbrev fsL_X12_note : List (Nat × Nat) := []
set_option maxRecDepth 10000 in
theorem mnX12_note {a1 : Int32} {a2 : Int32} {I : Ix} {L : Lx} {Q Q' : Ix → Lx → Prop} (hQ : ∀ (I1 : Ix) (L1 : Lx), FrI (wsI_X12_note) (fsI_X12_note) I I1 → FrL (wsL_X12_note) (fsL_X12_note) L L1 → Q I1 L1 → Q' I1 L1) (h : wpX12_note a1 a2 I L Q) : wpX12_note a1 a2 I L Q' := by
  have hF : FrI (wsI_X12_note) (fsI_X12_note) I I := FrI.rf
  have hL : FrL (wsL_X12_note) (fsL_X12_note) L L := FrL.rf
  unfold wpX12_note at h ⊢
  refine ⟨h.1, ?_⟩
  have h := h.2
  intro I1 eI1
  have h := h I1 eI1
  have hF := hF.pw eI1 (by decide)
  refine ⟨h.1, ?_⟩
  have h := h.2
  intro I2 eI2
  have h := h I2 eI2
  have hF := hF.pw eI2 (by decide)
  intro I3 eI3
  have h := h I3 eI3
  have hF := hF.pf eI3 (by decide)
  exact hQ _ _ hF hL h
abbrev wsI_X12_pop : List Nat := [122, 123]
abbrev wsL_X12_pop : List Nat := []
abbrev fsI_X12_pop : List (Nat × Nat) := [(120, 22), (120, 23), (120, 19)]
abbrev fsL_X12_pop : List (Nat × Nat) := []
set_option maxRecDepth 10000 in
theorem mnX12_pop_b34 {I0 : Ix} {L0 : Lx} {Q Q' : Ix → Lx → Prop} (hQ : ∀ (I1 : Ix) (L1 : Lx), FrI (wsI_X12_pop) (fsI_X12_pop) I0 I1 → FrL (wsL_X12_pop) (fsL_X12_pop) L0 L1 → Q I1 L1 → Q' I1 L1) {I : Ix} {L : Lx} (hF : FrI (wsI_X12_pop) (fsI_X12_pop) I0 I) (hL : FrL (wsL_X12_pop) (fsL_X12_pop) L0 L) (h : wpX12_pop_b34 Q I L) : wpX12_pop_b34 Q' I L := by
  unfold wpX12_pop_b34 at h ⊢
  refine ⟨h.1, ?_⟩
  have h := h.2
  refine mnX12_note (fun I1 L2 hf hl h => ?_) h
  have hF := hF.tr hf (by decide) (by decide)
  have hL := hL.tr hl (by decide) (by decide)
  exact hQ _ _ hF hL h
set_option maxRecDepth 10000 in
theorem mnX12_pop {I : Ix} {L : Lx} {Q Q' : Ix → Lx → Prop} (hQ : ∀ (I1 : Ix) (L1 : Lx), FrI (wsI_X12_pop) (fsI_X12_pop) I I1 → FrL (wsL_X12_pop) (fsL_X12_pop) L L1 → Q I1 L1 → Q' I1 L1) (h : wpX12_pop I L Q) : wpX12_pop I L Q' := by
  have hF : FrI (wsI_X12_pop) (fsI_X12_pop) I I := FrI.rf
  have hL : FrL (wsL_X12_pop) (fsL_X12_pop) L L := FrL.rf
  unfold wpX12_pop at h ⊢
  intro I1 eI1
  have h := h I1 eI1
  have hF := hF.pf eI1 (by decide)
  refine ⟨h.1, ?_⟩
  have h := h.2
  refine ⟨fun hc => ?_, fun hc => ?_⟩
  · have h := h.1 hc
    exact mnX12_pop_b34 hQ hF hL h
  · have h := h.2 hc
    intro I2 eI2
    have h := h I2 eI2
    have hF := hF.pf eI2 (by decide)
    exact mnX12_pop_b34 hQ hF hL h
abbrev wsI_X12_settle : List Nat := [122, 123]
abbrev wsL_X12_settle : List Nat := []
abbrev fsI_X12_settle : List (Nat × Nat) := [(120, 22), (120, 23), (120, 19)]
abbrev fsL_X12_settle : List (Nat × Nat) := []
set_option maxRecDepth 10000 in
theorem mnX12_settle_l0 {I0 : Ix} {L0 : Lx} {Q Q' : Ix → Lx → Prop} {P0 P0' : Int32 → Ix → Lx → Prop} (hQ : ∀ (I1 : Ix) (L1 : Lx), FrI (wsI_X12_settle) (fsI_X12_settle) I0 I1 → FrL (wsL_X12_settle) (fsL_X12_settle) L0 L1 → Q I1 L1 → Q' I1 L1) (hP0 : ∀ (v1 : Int32) (I1 : Ix) (L1 : Lx), FrI (wsI_X12_settle) (fsI_X12_settle) I0 I1 → FrL (wsL_X12_settle) (fsL_X12_settle) L0 L1 → P0 v1 I1 L1 → P0' v1 I1 L1) {v1 : Int32} {I : Ix} {L : Lx} (hF : FrI (wsI_X12_settle) (fsI_X12_settle) I0 I) (hL : FrL (wsL_X12_settle) (fsL_X12_settle) L0 L) (h : wpX12_settle_l0 Q P0 v1 I L) : wpX12_settle_l0 Q' P0' v1 I L := by
  unfold wpX12_settle_l0 at h ⊢
  refine mnX12_upper (fun r3 I1 L2 hf hl h => ?_) h
  have hF := hF.tr hf (by decide) (by decide)
  have hL := hL.tr hl (by decide) (by decide)
  refine ⟨fun hc => ?_, fun hc => ?_⟩
  · have h := h.1 hc
    exact hQ _ _ hF hL h
  · have h := h.2 hc
    refine mnX12_upper (fun r6 I4 L5 hf hl h => ?_) h
    have hF := hF.tr hf (by decide) (by decide)
    have hL := hL.tr hl (by decide) (by decide)
    refine mnX12_rank (fun r9 I7 L8 hf hl h => ?_) h
    have hF := hF.tr hf (by decide) (by decide)
    have hL := hL.tr hl (by decide) (by decide)
    refine ⟨fun hc => ?_, fun hc => ?_⟩
    · have h := h.1 hc
      exact hQ _ _ hF hL h
    · have h := h.2 hc
      refine mnX12_pop (fun I10 L11 hf hl h => ?_) h
      have hF := hF.tr hf (by decide) (by decide)
      have hL := hL.tr hl (by decide) (by decide)
      exact hP0 _ _ _ hF hL h
set_option maxRecDepth 10000 in
theorem mnX12_settle_h0 {I0 : Ix} {L0 : Lx} {Q Q' : Ix → Lx → Prop} (hQ : ∀ (I1 : Ix) (L1 : Lx), FrI (wsI_X12_settle) (fsI_X12_settle) I0 I1 → FrL (wsL_X12_settle) (fsL_X12_settle) L0 L1 → Q I1 L1 → Q' I1 L1) {v1 : Int32} {I : Ix} {L : Lx} (hF : FrI (wsI_X12_settle) (fsI_X12_settle) I0 I) (hL : FrL (wsL_X12_settle) (fsL_X12_settle) L0 L) (h : wpX12_settle_h0 Q v1 I L) : wpX12_settle_h0 Q' v1 I L := by
  unfold wpX12_settle_h0 at h
  refine Lfp.ind (P := fun z => FrI (wsI_X12_settle) (fsI_X12_settle) I0 z.2.1 → FrL (wsL_X12_settle) (fsL_X12_settle) L0 z.2.2 → wpX12_settle_h0 Q' z.1 z.2.1 z.2.2) ?_ h hF hL
  intro z P' hP' h hF hL
  obtain ⟨v1, I, L⟩ := z
  exact wpX12_settle_h0_fold (mnX12_settle_l0 hQ (fun v1 I L hF hL h9 => hP' (v1, I, L) h9 hF hL) hF hL h)
set_option maxRecDepth 10000 in
theorem mnX12_settle {a1 : Int32} {I : Ix} {L : Lx} {Q Q' : Ix → Lx → Prop} (hQ : ∀ (I1 : Ix) (L1 : Lx), FrI (wsI_X12_settle) (fsI_X12_settle) I I1 → FrL (wsL_X12_settle) (fsL_X12_settle) L L1 → Q I1 L1 → Q' I1 L1) (h : wpX12_settle a1 I L Q) : wpX12_settle a1 I L Q' := by
  have hF : FrI (wsI_X12_settle) (fsI_X12_settle) I I := FrI.rf
  have hL : FrL (wsL_X12_settle) (fsL_X12_settle) L L := FrL.rf
  unfold wpX12_settle at h ⊢
  exact mnX12_settle_h0 hQ hF hL h
abbrev wsI_X12_hold : List Nat := [128]
abbrev wsL_X12_hold : List Nat := []
abbrev fsI_X12_hold : List (Nat × Nat) := [(120, 23), (120, 22)]
abbrev fsL_X12_hold : List (Nat × Nat) := []
set_option maxRecDepth 10000 in
theorem mnX12_hold_b32 {I0 : Ix} {L0 : Lx} {Q Q' : Ix → Lx → Prop} (hQ : ∀ (I1 : Ix) (L1 : Lx), FrI (wsI_X12_hold) (fsI_X12_hold) I0 I1 → FrL (wsL_X12_hold) (fsL_X12_hold) L0 L1 → Q I1 L1 → Q' I1 L1) {I : Ix} {L : Lx} (hF : FrI (wsI_X12_hold) (fsI_X12_hold) I0 I) (hL : FrL (wsL_X12_hold) (fsL_X12_hold) L0 L) (h : wpX12_hold_b32 Q I L) : wpX12_hold_b32 Q' I L := by
  unfold wpX12_hold_b32 at h ⊢
  intro I1 eI1
  have h := h I1 eI1
  have hF := hF.pf eI1 (by decide)
  exact hQ _ _ hF hL h
set_option maxRecDepth 10000 in
theorem mnX12_hold {a1 : Int32} {I : Ix} {L : Lx} {Q Q' : Ix → Lx → Prop} (hQ : ∀ (I1 : Ix) (L1 : Lx), FrI (wsI_X12_hold) (fsI_X12_hold) I I1 → FrL (wsL_X12_hold) (fsL_X12_hold) L L1 → Q I1 L1 → Q' I1 L1) (h : wpX12_hold a1 I L Q) : wpX12_hold a1 I L Q' := by
  have hF : FrI (wsI_X12_hold) (fsI_X12_hold) I I := FrI.rf
  have hL : FrL (wsL_X12_hold) (fsL_X12_hold) L L := FrL.rf
  unfold wpX12_hold at h ⊢
  refine ⟨h.1, ?_⟩
  have h := h.2
  intro I1 eI1
  have h := h I1 eI1
  have hF := hF.pw eI1 (by decide)
  intro I2 eI2
  have h := h I2 eI2
  have hF := hF.pf eI2 (by decide)
  refine ⟨fun hc => ?_, fun hc => ?_⟩
  · have h := h.1 hc
    exact mnX12_hold_b32 hQ hF hL h
  · have h := h.2 hc
    refine ⟨fun hc => ?_, fun hc => ?_⟩
    · have h := h.1 hc
      exact hQ _ _ hF hL h
    · have h := h.2 hc
      exact mnX12_hold_b32 hQ hF hL h
abbrev wsI_X12_known : List Nat := []
abbrev wsL_X12_known : List Nat := []
abbrev fsI_X12_known : List (Nat × Nat) := []
abbrev fsL_X12_known : List (Nat × Nat) := []
set_option maxRecDepth 10000 in
theorem mnX12_known_b65 {I0 : Ix} {L0 : Lx} {Q Q' : Int32 → Ix → Lx → Prop} (hQ : ∀ (r : Int32) (I1 : Ix) (L1 : Lx), FrI (wsI_X12_known) (fsI_X12_known) I0 I1 → FrL (wsL_X12_known) (fsL_X12_known) L0 L1 → Q r I1 L1 → Q' r I1 L1) {t0 : Int32} {I : Ix} {L : Lx} (hF : FrI (wsI_X12_known) (fsI_X12_known) I0 I) (hL : FrL (wsL_X12_known) (fsL_X12_known) L0 L) (h : wpX12_known_b65 Q t0 I L) : wpX12_known_b65 Q' t0 I L := by
  unfold wpX12_known_b65 at h ⊢
  refine ⟨fun hc => ?_, fun hc => ?_⟩
  · have h := h.1 hc
    refine mnX12_isWord (fun r3 I1 L2 hf hl h => ?_) h
    have hF := hF.tr hf (by decide) (by decide)
    have hL := hL.tr hl (by decide) (by decide)
    refine ⟨fun hc => ?_, fun hc => ?_⟩
    · have h := h.1 hc
      refine mnX12_isWord (fun r6 I4 L5 hf hl h => ?_) h
      have hF := hF.tr hf (by decide) (by decide)
      have hL := hL.tr hl (by decide) (by decide)
      refine ⟨fun hc => ?_, fun hc => ?_⟩
      · have h := h.1 hc
        refine mnX12_isWord (fun r9 I7 L8 hf hl h => ?_) h
        have hF := hF.tr hf (by decide) (by decide)
        have hL := hL.tr hl (by decide) (by decide)
        refine ⟨fun hc => ?_, fun hc => ?_⟩
        · have h := h.1 hc
          refine mnX12_isWord (fun r12 I10 L11 hf hl h => ?_) h
          have hF := hF.tr hf (by decide) (by decide)
          have hL := hL.tr hl (by decide) (by decide)
          refine ⟨fun hc => ?_, fun hc => ?_⟩
          · have h := h.1 hc
            refine mnX12_isWord (fun r15 I13 L14 hf hl h => ?_) h
            have hF := hF.tr hf (by decide) (by decide)
            have hL := hL.tr hl (by decide) (by decide)
            refine ⟨fun hc => ?_, fun hc => ?_⟩
            · have h := h.1 hc
              exact hQ _ _ _ hF hL h
            · have h := h.2 hc
              exact hQ _ _ _ hF hL h
          · have h := h.2 hc
            exact hQ _ _ _ hF hL h
        · have h := h.2 hc
          exact hQ _ _ _ hF hL h
      · have h := h.2 hc
        exact hQ _ _ _ hF hL h
    · have h := h.2 hc
      exact hQ _ _ _ hF hL h
  · have h := h.2 hc
    refine mnX12_isWord (fun r18 I16 L17 hf hl h => ?_) h
    have hF := hF.tr hf (by decide) (by decide)
    have hL := hL.tr hl (by decide) (by decide)
    refine ⟨fun hc => ?_, fun hc => ?_⟩
    · have h := h.1 hc
      refine mnX12_isWord (fun r21 I19 L20 hf hl h => ?_) h
      have hF := hF.tr hf (by decide) (by decide)
      have hL := hL.tr hl (by decide) (by decide)
      refine ⟨fun hc => ?_, fun hc => ?_⟩
      · have h := h.1 hc
        refine mnX12_isWord (fun r24 I22 L23 hf hl h => ?_) h
        have hF := hF.tr hf (by decide) (by decide)
        have hL := hL.tr hl (by decide) (by decide)
        refine ⟨fun hc => ?_, fun hc => ?_⟩
        · have h := h.1 hc
          refine mnX12_isWord (fun r27 I25 L26 hf hl h => ?_) h
          have hF := hF.tr hf (by decide) (by decide)
          have hL := hL.tr hl (by decide) (by decide)
          refine ⟨fun hc => ?_, fun hc => ?_⟩
          · have h := h.1 hc
            refine mnX12_isWord (fun r30 I28 L29 hf hl h => ?_) h
            have hF := hF.tr hf (by decide) (by decide)
            have hL := hL.tr hl (by decide) (by decide)
            refine ⟨fun hc => ?_, fun hc => ?_⟩
            · have h := h.1 hc
              exact hQ _ _ _ hF hL h
            · have h := h.2 hc
              exact hQ _ _ _ hF hL h
          · have h := h.2 hc
            exact hQ _ _ _ hF hL h
        · have h := h.2 hc
          exact hQ _ _ _ hF hL h
      · have h := h.2 hc
        exact hQ _ _ _ hF hL h
    · have h := h.2 hc
      exact hQ _ _ _ hF hL h
set_option maxRecDepth 10000 in
theorem mnX12_known_b60 {I0 : Ix} {L0 : Lx} {Q Q' : Int32 → Ix → Lx → Prop} (hQ : ∀ (r : Int32) (I1 : Ix) (L1 : Lx), FrI (wsI_X12_known) (fsI_X12_known) I0 I1 → FrL (wsL_X12_known) (fsL_X12_known) L0 L1 → Q r I1 L1 → Q' r I1 L1) {I : Ix} {L : Lx} (hF : FrI (wsI_X12_known) (fsI_X12_known) I0 I) (hL : FrL (wsL_X12_known) (fsL_X12_known) L0 L) (h : wpX12_known_b60 Q I L) : wpX12_known_b60 Q' I L := by
  unfold wpX12_known_b60 at h ⊢
  exact mnX12_known_b65 hQ hF hL h
set_option maxRecDepth 10000 in
theorem mnX12_known {I : Ix} {L : Lx} {Q Q' : Int32 → Ix → Lx → Prop} (hQ : ∀ (r : Int32) (I1 : Ix) (L1 : Lx), FrI (wsI_X12_known) (fsI_X12_known) I I1 → FrL (wsL_X12_known) (fsL_X12_known) L L1 → Q r I1 L1 → Q' r I1 L1) (h : wpX12_known I L Q) : wpX12_known I L Q' := by
  have hF : FrI (wsI_X12_known) (fsI_X12_known) I I := FrI.rf
  have hL : FrL (wsL_X12_known) (fsL_X12_known) L L := FrL.rf
  unfold wpX12_known at h ⊢
  refine mnX12_isWord (fun r3 I1 L2 hf hl h => ?_) h
  have hF := hF.tr hf (by decide) (by decide)
  have hL := hL.tr hl (by decide) (by decide)
  refine ⟨fun hc => ?_, fun hc => ?_⟩
  · have h := h.1 hc
    exact mnX12_known_b60 hQ hF hL h
  · have h := h.2 hc
    refine mnX12_isWord (fun r6 I4 L5 hf hl h => ?_) h
    have hF := hF.tr hf (by decide) (by decide)
    have hL := hL.tr hl (by decide) (by decide)
    refine ⟨fun hc => ?_, fun hc => ?_⟩
    · have h := h.1 hc
      exact mnX12_known_b60 hQ hF hL h
    · have h := h.2 hc
      refine mnX12_isWord (fun r9 I7 L8 hf hl h => ?_) h
      have hF := hF.tr hf (by decide) (by decide)
      have hL := hL.tr hl (by decide) (by decide)
      refine ⟨fun hc => ?_, fun hc => ?_⟩
      · have h := h.1 hc
        exact mnX12_known_b60 hQ hF hL h
      · have h := h.2 hc
        refine mnX12_isWord (fun r12 I10 L11 hf hl h => ?_) h
        have hF := hF.tr hf (by decide) (by decide)
        have hL := hL.tr hl (by decide) (by decide)
        refine ⟨fun hc => ?_, fun hc => ?_⟩
        · have h := h.1 hc
          exact mnX12_known_b60 hQ hF hL h
        · have h := h.2 hc
          refine mnX12_isWord (fun r15 I13 L14 hf hl h => ?_) h
          have hF := hF.tr hf (by decide) (by decide)
          have hL := hL.tr hl (by decide) (by decide)
          refine ⟨fun hc => ?_, fun hc => ?_⟩
          · have h := h.1 hc
            exact mnX12_known_b60 hQ hF hL h
          · have h := h.2 hc
            refine mnX12_isWord (fun r18 I16 L17 hf hl h => ?_) h
            have hF := hF.tr hf (by decide) (by decide)
            have hL := hL.tr hl (by decide) (by decide)
            refine ⟨fun hc => ?_, fun hc => ?_⟩
            · have h := h.1 hc
              exact mnX12_known_b65 hQ hF hL h
            · have h := h.2 hc
              exact mnX12_known_b60 hQ hF hL h
abbrev wsI_X12_operand : List Nat := [122, 123, 128]
abbrev wsL_X12_operand : List Nat := []
abbrev fsI_X12_operand : List (Nat × Nat) := [(120, 20), (120, 19), (120, 4), (120, 6), (120, 8), (120, 7), (120, 23), (120, 22), (120, 2), (120, 3)]
abbrev fsL_X12_operand : List (Nat × Nat) := [(120, 9)]
set_option maxRecDepth 10000 in
theorem mnX12_operand_b169 {I0 : Ix} {L0 : Lx} {Q Q' : Int32 → Ix → Lx → Prop} (hQ : ∀ (r : Int32) (I1 : Ix) (L1 : Lx), FrI (wsI_X12_operand) (fsI_X12_operand) I0 I1 → FrL (wsL_X12_operand) (fsL_X12_operand) L0 L1 → Q r I1 L1 → Q' r I1 L1) {t1 : Int32} {I : Ix} {L : Lx} (hF : FrI (wsI_X12_operand) (fsI_X12_operand) I0 I) (hL : FrL (wsL_X12_operand) (fsL_X12_operand) L0 L) (h : wpX12_operand_b169 Q t1 I L) : wpX12_operand_b169 Q' t1 I L := by
  unfold wpX12_operand_b169 at h ⊢
  refine mnX12_note (fun I1 L2 hf hl h => ?_) h
  have hF := hF.tr hf (by decide) (by decide)
  have hL := hL.tr hl (by decide) (by decide)
  refine mnX12_token (fun I3 L4 hf hl h => ?_) h
  have hF := hF.tr hf (by decide) (by decide)
  have hL := hL.tr hl (by decide) (by decide)
  exact hQ _ _ _ hF hL h
set_option maxRecDepth 10000 in
theorem mnX12_operand_b103 {I0 : Ix} {L0 : Lx} {Q Q' : Int32 → Ix → Lx → Prop} (hQ : ∀ (r : Int32) (I1 : Ix) (L1 : Lx), FrI (wsI_X12_operand) (fsI_X12_operand) I0 I1 → FrL (wsL_X12_operand) (fsL_X12_operand) L0 L1 → Q r I1 L1 → Q' r I1 L1) {v1 : Int32} {v2 : Int32} {v3 : Int32} {I : Ix} {L : Lx} (hF : FrI (wsI_X12_operand) (fsI_X12_operand) I0 I) (hL : FrL (wsL_X12_operand) (fsL_X12_operand) L0 L) (h : wpX12_operand_b103 Q v1 v2 v3 I L) : wpX12_operand_b103 Q' v1 v2 v3 I L := by
  unfold wpX12_operand_b103 at h ⊢
  refine ⟨fun hc => ?_, fun hc => ?_⟩
  · have h := h.1 hc
    refine ⟨fun hc => ?_, fun hc => ?_⟩
    · have h := h.1 hc
      intro I1 eI1
      have h := h I1 eI1
      have hF := hF.pf eI1 (by decide)
      refine ⟨fun hc => ?_, fun hc => ?_⟩
      · have h := h.1 hc
        refine ⟨fun hc => ?_, fun hc => ?_⟩
        · have h := h.1 hc
          exact mnX12_operand_b169 hQ hF hL h
        · have h := h.2 hc
          exact mnX12_operand_b169 hQ hF hL h
      · have h := h.2 hc
        refine mnX12_hold (fun I2 L3 hf hl h => ?_) h
        have hF := hF.tr hf (by decide) (by decide)
        have hL := hL.tr hl (by decide) (by decide)
        refine mnX12_token (fun I4 L5 hf hl h => ?_) h
        have hF := hF.tr hf (by decide) (by decide)
        have hL := hL.tr hl (by decide) (by decide)
        exact hQ _ _ _ hF hL h
    · have h := h.2 hc
      refine mnX12_hold (fun I6 L7 hf hl h => ?_) h
      have hF := hF.tr hf (by decide) (by decide)
      have hL := hL.tr hl (by decide) (by decide)
      refine mnX12_token (fun I8 L9 hf hl h => ?_) h
      have hF := hF.tr hf (by decide) (by decide)
      have hL := hL.tr hl (by decide) (by decide)
      exact hQ _ _ _ hF hL h
  · have h := h.2 hc
    exact hQ _ _ _ hF hL h
set_option maxRecDepth 10000 in
theorem mnX12_operand_b98 {I0 : Ix} {L0 : Lx} {Q Q' : Int32 → Ix → Lx → Prop} (hQ : ∀ (r : Int32) (I1 : Ix) (L1 : Lx), FrI (wsI_X12_operand) (fsI_X12_operand) I0 I1 → FrL (wsL_X12_operand) (fsL_X12_operand) L0 L1 → Q r I1 L1 → Q' r I1 L1) {v1 : Int32} {v2 : Int32} {v3 : Int32} {I : Ix} {L : Lx} (hF : FrI (wsI_X12_operand) (fsI_X12_operand) I0 I) (hL : FrL (wsL_X12_operand) (fsL_X12_operand) L0 L) (h : wpX12_operand_b98 Q v1 v2 v3 I L) : wpX12_operand_b98 Q' v1 v2 v3 I L := by
  unfold wpX12_operand_b98 at h ⊢
  refine mnX12_wrong (fun I1 L2 hf hl h => ?_) h
  have hF := hF.tr hf (by decide) (by decide)
  have hL := hL.tr hl (by decide) (by decide)
  exact mnX12_operand_b103 hQ hF hL h
set_option maxRecDepth 10000 in
theorem mnX12_operand_b89 {I0 : Ix} {L0 : Lx} {Q Q' : Int32 → Ix → Lx → Prop} (hQ : ∀ (r : Int32) (I1 : Ix) (L1 : Lx), FrI (wsI_X12_operand) (fsI_X12_operand) I0 I1 → FrL (wsL_X12_operand) (fsL_X12_operand) L0 L1 → Q r I1 L1 → Q' r I1 L1) {v1 : Int32} {v2 : Int32} {v3 : Int32} {I : Ix} {L : Lx} (hF : FrI (wsI_X12_operand) (fsI_X12_operand) I0 I) (hL : FrL (wsL_X12_operand) (fsL_X12_operand) L0 L) (h : wpX12_operand_b89 Q v1 v2 v3 I L) : wpX12_operand_b89 Q' v1 v2 v3 I L := by
  unfold wpX12_operand_b89 at h ⊢
  refine ⟨fun hc => ?_, fun hc => ?_⟩
  · have h := h.1 hc
    exact mnX12_operand_b103 hQ hF hL h
  · have h := h.2 hc
    exact mnX12_operand_b98 hQ hF hL h
set_option maxRecDepth 10000 in
theorem mnX12_operand_b76 {I0 : Ix} {L0 : Lx} {Q Q' : Int32 → Ix → Lx → Prop} (hQ : ∀ (r : Int32) (I1 : Ix) (L1 : Lx), FrI (wsI_X12_operand) (fsI_X12_operand) I0 I1 → FrL (wsL_X12_operand) (fsL_X12_operand) L0 L1 → Q r I1 L1 → Q' r I1 L1) {v1 : Int32} {v2 : Int32} {v3 : Int32} {I : Ix} {L : Lx} (hF : FrI (wsI_X12_operand) (fsI_X12_operand) I0 I) (hL : FrL (wsL_X12_operand) (fsL_X12_operand) L0 L) (h : wpX12_operand_b76 Q v1 v2 v3 I L) : wpX12_operand_b76 Q' v1 v2 v3 I L := by
  unfold wpX12_operand_b76 at h ⊢
  refine ⟨fun hc => ?_, fun hc => ?_⟩
  · have h := h.1 hc
    exact mnX12_operand_b89 hQ hF hL h
  · have h := h.2 hc
    refine ⟨fun hc => ?_, fun hc => ?_⟩
    · have h := h.1 hc
      exact mnX12_operand_b103 hQ hF hL h
    · have h := h.2 hc
      exact mnX12_operand_b89 hQ hF hL h
set_option maxRecDepth 10000 in
theorem mnX12_operand_b62 {I0 : Ix} {L0 : Lx} {Q Q' : Int32 → Ix → Lx → Prop} (hQ : ∀ (r : Int32) (I1 : Ix) (L1 : Lx), FrI (wsI_X12_operand) (fsI_X12_operand) I0 I1 → FrL (wsL_X12_operand) (fsL_X12_operand) L0 L1 → Q r I1 L1 → Q' r I1 L1) {v1 : Int32} {v2 : Int32} {v3 : Int32} {v4 : Int32} {I : Ix} {L : Lx} (hF : FrI (wsI_X12_operand) (fsI_X12_operand) I0 I) (hL : FrL (wsL_X12_operand) (fsL_X12_operand) L0 L) (h : wpX12_operand_b62 Q v1 v2 v3 v4 I L) : wpX12_operand_b62 Q' v1 v2 v3 v4 I L := by
  unfold wpX12_operand_b62 at h ⊢
  refine ⟨fun hc => ?_, fun hc => ?_⟩
  · have h := h.1 hc
    exact mnX12_operand_b76 hQ hF hL h
  · have h := h.2 hc
    refine ⟨fun hc => ?_, fun hc => ?_⟩
    · have h := h.1 hc
      exact mnX12_operand_b98 hQ hF hL h
    · have h := h.2 hc
      exact mnX12_operand_b76 hQ hF hL h
set_option maxRecDepth 10000 in
theorem mnX12_operand_b51 {I0 : Ix} {L0 : Lx} {Q Q' : Int32 → Ix → Lx → Prop} (hQ : ∀ (r : Int32) (I1 : Ix) (L1 : Lx), FrI (wsI_X12_operand) (fsI_X12_operand) I0 I1 → FrL (wsL_X12_operand) (fsL_X12_operand) L0 L1 → Q r I1 L1 → Q' r I1 L1) {v1 : Int32} {v2 : Int32} {v3 : Int32} {t0 : Int32} {I : Ix} {L : Lx} (hF : FrI (wsI_X12_operand) (fsI_X12_operand) I0 I) (hL : FrL (wsL_X12_operand) (fsL_X12_operand) L0 L) (h : wpX12_operand_b51 Q v1 v2 v3 t0 I L) : wpX12_operand_b51 Q' v1 v2 v3 t0 I L := by
  unfold wpX12_operand_b51 at h ⊢
  refine ⟨fun hc => ?_, fun hc => ?_⟩
  · have h := h.1 hc
    exact mnX12_operand_b62 hQ hF hL h
  · have h := h.2 hc
    refine ⟨fun hc => ?_, fun hc => ?_⟩
    · have h := h.1 hc
      exact mnX12_operand_b98 hQ hF hL h
    · have h := h.2 hc
      exact mnX12_operand_b62 hQ hF hL h
set_option maxRecDepth 10000 in
theorem mnX12_operand_b46 {I0 : Ix} {L0 : Lx} {Q Q' : Int32 → Ix → Lx → Prop} (hQ : ∀ (r : Int32) (I1 : Ix) (L1 : Lx), FrI (wsI_X12_operand) (fsI_X12_operand) I0 I1 → FrL (wsL_X12_operand) (fsL_X12_operand) L0 L1 → Q r I1 L1 → Q' r I1 L1) {v1 : Int32} {v2 : Int32} {v3 : Int32} {I : Ix} {L : Lx} (hF : FrI (wsI_X12_operand) (fsI_X12_operand) I0 I) (hL : FrL (wsL_X12_operand) (fsL_X12_operand) L0 L) (h : wpX12_operand_b46 Q v1 v2 v3 I L) : wpX12_operand_b46 Q' v1 v2 v3 I L := by
  unfold wpX12_operand_b46 at h ⊢
  exact mnX12_operand_b51 hQ hF hL h
set_option maxRecDepth 10000 in
theorem mnX12_operand_b19 {I0 : Ix} {L0 : Lx} {Q Q' : Int32 → Ix → Lx → Prop} (hQ : ∀ (r : Int32) (I1 : Ix) (L1 : Lx), FrI (wsI_X12_operand) (fsI_X12_operand) I0 I1 → FrL (wsL_X12_operand) (fsL_X12_operand) L0 L1 → Q r I1 L1 → Q' r I1 L1) {v1 : Int32} {t0 : Int32} {I : Ix} {L : Lx} (hF : FrI (wsI_X12_operand) (fsI_X12_operand) I0 I) (hL : FrL (wsL_X12_operand) (fsL_X12_operand) L0 L) (h : wpX12_operand_b19 Q v1 t0 I L) : wpX12_operand_b19 Q' v1 t0 I L := by
  unfold wpX12_operand_b19 at h ⊢
  refine mnX12_known (fun r3 I1 L2 hf hl h => ?_) h
  have hF := hF.tr hf (by decide) (by decide)
  have hL := hL.tr hl (by decide) (by decide)
  refine ⟨fun hc => ?_, fun hc => ?_⟩
  · have h := h.1 hc
    exact mnX12_operand_b46 hQ hF hL h
  · have h := h.2 hc
    refine ⟨fun hc => ?_, fun hc => ?_⟩
    · have h := h.1 hc
      exact mnX12_operand_b46 hQ hF hL h
    · have h := h.2 hc
      refine ⟨fun hc => ?_, fun hc => ?_⟩
      · have h := h.1 hc
        exact mnX12_operand_b51 hQ hF hL h
      · have h := h.2 hc
        exact mnX12_operand_b46 hQ hF hL h
set_option maxRecDepth 10000 in
theorem mnX12_operand_b18 {I0 : Ix} {L0 : Lx} {Q Q' : Int32 → Ix → Lx → Prop} (hQ : ∀ (r : Int32) (I1 : Ix) (L1 : Lx), FrI (wsI_X12_operand) (fsI_X12_operand) I0 I1 → FrL (wsL_X12_operand) (fsL_X12_operand) L0 L1 → Q r I1 L1 → Q' r I1 L1) {v1 : Int32} {I : Ix} {L : Lx} (hF : FrI (wsI_X12_operand) (fsI_X12_operand) I0 I) (hL : FrL (wsL_X12_operand) (fsL_X12_operand) L0 L) (h : wpX12_operand_b18 Q v1 I L) : wpX12_operand_b18 Q' v1 I L := by
  unfold wpX12_operand_b18 at h ⊢
  exact mnX12_operand_b19 hQ hF hL h
set_option maxRecDepth 10000 in
theorem mnX12_operand {a1 : Int32} {I : Ix} {L : Lx} {Q Q' : Int32 → Ix → Lx → Prop} (hQ : ∀ (r : Int32) (I1 : Ix) (L1 : Lx), FrI (wsI_X12_operand) (fsI_X12_operand) I I1 → FrL (wsL_X12_operand) (fsL_X12_operand) L L1 → Q r I1 L1 → Q' r I1 L1) (h : wpX12_operand a1 I L Q) : wpX12_operand a1 I L Q' := by
  have hF : FrI (wsI_X12_operand) (fsI_X12_operand) I I := FrI.rf
  have hL : FrL (wsL_X12_operand) (fsL_X12_operand) L L := FrL.rf
  unfold wpX12_operand at h ⊢
  refine ⟨fun hc => ?_, fun hc => ?_⟩
  · have h := h.1 hc
    exact mnX12_operand_b18 hQ hF hL h
  · have h := h.2 hc
    refine mnX12_isWord (fun r3 I1 L2 hf hl h => ?_) h
    have hF := hF.tr hf (by decide) (by decide)
    have hL := hL.tr hl (by decide) (by decide)
    refine ⟨fun hc => ?_, fun hc => ?_⟩
    · have h := h.1 hc
      exact mnX12_operand_b18 hQ hF hL h
    · have h := h.2 hc
      exact mnX12_operand_b19 hQ hF hL h
abbrev wsI_X12_signOf : List Nat := []
abbrev wsL_X12_signOf : List Nat := []
abbrev fsI_X12_signOf : List (Nat × Nat) := []
abbrev fsL_X12_signOf : List (Nat × Nat) := []
set_option maxRecDepth 10000 in
theorem mnX12_signOf {I : Ix} {L : Lx} {Q Q' : Int32 → Ix → Lx → Prop} (hQ : ∀ (r : Int32) (I1 : Ix) (L1 : Lx), FrI (wsI_X12_signOf) (fsI_X12_signOf) I I1 → FrL (wsL_X12_signOf) (fsL_X12_signOf) L L1 → Q r I1 L1 → Q' r I1 L1) (h : wpX12_signOf I L Q) : wpX12_signOf I L Q' := by
  have hF : FrI (wsI_X12_signOf) (fsI_X12_signOf) I I := FrI.rf
  have hL : FrL (wsL_X12_signOf) (fsL_X12_signOf) L L := FrL.rf
  unfold wpX12_signOf at h ⊢
  refine ⟨fun hc => ?_, fun hc => ?_⟩
  · have h := h.1 hc
    refine ⟨fun hc => ?_, fun hc => ?_⟩
    · have h := h.1 hc
      refine ⟨fun hc => ?_, fun hc => ?_⟩
      · have h := h.1 hc
        refine ⟨fun hc => ?_, fun hc => ?_⟩
        · have h := h.1 hc
          refine ⟨fun hc => ?_, fun hc => ?_⟩
          · have h := h.1 hc
            refine ⟨fun hc => ?_, fun hc => ?_⟩
            · have h := h.1 hc
              refine mnX12_isWord (fun r3 I1 L2 hf hl h => ?_) h
              have hF := hF.tr hf (by decide) (by decide)
              have hL := hL.tr hl (by decide) (by decide)
              refine ⟨fun hc => ?_, fun hc => ?_⟩
              · have h := h.1 hc
                refine mnX12_isWord (fun r6 I4 L5 hf hl h => ?_) h
                have hF := hF.tr hf (by decide) (by decide)
                have hL := hL.tr hl (by decide) (by decide)
                refine ⟨fun hc => ?_, fun hc => ?_⟩
                · have h := h.1 hc
                  exact hQ _ _ _ hF hL h
                · have h := h.2 hc
                  exact hQ _ _ _ hF hL h
              · have h := h.2 hc
                exact hQ _ _ _ hF hL h
            · have h := h.2 hc
              exact hQ _ _ _ hF hL h
          · have h := h.2 hc
            exact hQ _ _ _ hF hL h
        · have h := h.2 hc
          exact hQ _ _ _ hF hL h
      · have h := h.2 hc
        exact hQ _ _ _ hF hL h
    · have h := h.2 hc
      exact hQ _ _ _ hF hL h
  · have h := h.2 hc
    exact hQ _ _ _ hF hL h
abbrev wsI_X12_isOpen : List Nat := []
abbrev wsL_X12_isOpen : List Nat := []
abbrev fsI_X12_isOpen : List (Nat × Nat) := []
abbrev fsL_X12_isOpen : List (Nat × Nat) := []
set_option maxRecDepth 10000 in
theorem mnX12_isOpen_b27 {I0 : Ix} {L0 : Lx} {Q Q' : Bool → Ix → Lx → Prop} {P4 P4' : Int32 → Int32 → Ix → Lx → Prop} (hQ : ∀ (r : Bool) (I1 : Ix) (L1 : Lx), FrI (wsI_X12_isOpen) (fsI_X12_isOpen) I0 I1 → FrL (wsL_X12_isOpen) (fsL_X12_isOpen) L0 L1 → Q r I1 L1 → Q' r I1 L1) (hP4 : ∀ (v1 : Int32) (v2 : Int32) (I1 : Ix) (L1 : Lx), FrI (wsI_X12_isOpen) (fsI_X12_isOpen) I0 I1 → FrL (wsL_X12_isOpen) (fsL_X12_isOpen) L0 L1 → P4 v1 v2 I1 L1 → P4' v1 v2 I1 L1) {v2 : Int32} {I : Ix} {L : Lx} (hF : FrI (wsI_X12_isOpen) (fsI_X12_isOpen) I0 I) (hL : FrL (wsL_X12_isOpen) (fsL_X12_isOpen) L0 L) (h : wpX12_isOpen_b27 Q P4 v2 I L) : wpX12_isOpen_b27 Q' P4' v2 I L := by
  unfold wpX12_isOpen_b27 at h ⊢
  exact hP4 _ _ _ _ hF hL h
set_option maxRecDepth 10000 in
theorem mnX12_isOpen_l4 {I0 : Ix} {L0 : Lx} {Q Q' : Bool → Ix → Lx → Prop} {P4 P4' : Int32 → Int32 → Ix → Lx → Prop} (hQ : ∀ (r : Bool) (I1 : Ix) (L1 : Lx), FrI (wsI_X12_isOpen) (fsI_X12_isOpen) I0 I1 → FrL (wsL_X12_isOpen) (fsL_X12_isOpen) L0 L1 → Q r I1 L1 → Q' r I1 L1) (hP4 : ∀ (v1 : Int32) (v2 : Int32) (I1 : Ix) (L1 : Lx), FrI (wsI_X12_isOpen) (fsI_X12_isOpen) I0 I1 → FrL (wsL_X12_isOpen) (fsL_X12_isOpen) L0 L1 → P4 v1 v2 I1 L1 → P4' v1 v2 I1 L1) {v1 : Int32} {v2 : Int32} {I : Ix} {L : Lx} (hF : FrI (wsI_X12_isOpen) (fsI_X12_isOpen) I0 I) (hL : FrL (wsL_X12_isOpen) (fsL_X12_isOpen) L0 L) (h : wpX12_isOpen_l4 Q P4 v1 v2 I L) : wpX12_isOpen_l4 Q' P4' v1 v2 I L := by
  unfold wpX12_isOpen_l4 at h ⊢
  refine ⟨fun hc => ?_, fun hc => ?_⟩
  · have h := h.1 hc
    obtain ⟨b, e, h⟩ := h
    exact ⟨b, e, hQ _ _ _ hF hL h⟩
  · have h := h.2 hc
    refine ⟨fun hc => ?_, fun hc => ?_⟩
    · have h := h.1 hc
      exact mnX12_isOpen_b27 hQ hP4 hF hL h
    · have h := h.2 hc
      refine ⟨h.1, ?_⟩
      have h := h.2
      refine ⟨fun hc => ?_, fun hc => ?_⟩
      · have h := h.1 hc
        exact hP4 _ _ _ _ hF hL h
      · have h := h.2 hc
        exact mnX12_isOpen_b27 hQ hP4 hF hL h
set_option maxRecDepth 10000 in
theorem mnX12_isOpen_h4 {I0 : Ix} {L0 : Lx} {Q Q' : Bool → Ix → Lx → Prop} (hQ : ∀ (r : Bool) (I1 : Ix) (L1 : Lx), FrI (wsI_X12_isOpen) (fsI_X12_isOpen) I0 I1 → FrL (wsL_X12_isOpen) (fsL_X12_isOpen) L0 L1 → Q r I1 L1 → Q' r I1 L1) {v1 : Int32} {v2 : Int32} {I : Ix} {L : Lx} (hF : FrI (wsI_X12_isOpen) (fsI_X12_isOpen) I0 I) (hL : FrL (wsL_X12_isOpen) (fsL_X12_isOpen) L0 L) (h : wpX12_isOpen_h4 Q v1 v2 I L) : wpX12_isOpen_h4 Q' v1 v2 I L := by
  unfold wpX12_isOpen_h4 at h
  refine Lfp.ind (P := fun z => FrI (wsI_X12_isOpen) (fsI_X12_isOpen) I0 z.2.2.1 → FrL (wsL_X12_isOpen) (fsL_X12_isOpen) L0 z.2.2.2 → wpX12_isOpen_h4 Q' z.1 z.2.1 z.2.2.1 z.2.2.2) ?_ h hF hL
  intro z P' hP' h hF hL
  obtain ⟨v1, v2, I, L⟩ := z
  exact wpX12_isOpen_h4_fold (mnX12_isOpen_l4 hQ (fun v1 v2 I L hF hL h9 => hP' (v1, v2, I, L) h9 hF hL) hF hL h)
set_option maxRecDepth 10000 in
theorem mnX12_isOpen {I : Ix} {L : Lx} {Q Q' : Bool → Ix → Lx → Prop} (hQ : ∀ (r : Bool) (I1 : Ix) (L1 : Lx), FrI (wsI_X12_isOpen) (fsI_X12_isOpen) I I1 → FrL (wsL_X12_isOpen) (fsL_X12_isOpen) L L1 → Q r I1 L1 → Q' r I1 L1) (h : wpX12_isOpen I L Q) : wpX12_isOpen I L Q' := by
  have hF : FrI (wsI_X12_isOpen) (fsI_X12_isOpen) I I := FrI.rf
  have hL : FrL (wsL_X12_isOpen) (fsL_X12_isOpen) L L := FrL.rf
  unfold wpX12_isOpen at h ⊢
  exact mnX12_isOpen_h4 hQ hF hL h
abbrev wsI_X12_sign : List Nat := [128, 122, 123]
abbrev wsL_X12_sign : List Nat := []
abbrev fsI_X12_sign : List (Nat × Nat) := [(120, 22), (120, 23), (120, 4), (120, 6), (120, 8), (120, 7), (120, 19), (120, 2), (120, 3)]
abbrev fsL_X12_sign : List (Nat × Nat) := [(120, 9)]
set_option maxRecDepth 10000 in
theorem mnX12_sign_b136 {I0 : Ix} {L0 : Lx} {Q Q' : Int32 → Ix → Lx → Prop} (hQ : ∀ (r : Int32) (I1 : Ix) (L1 : Lx), FrI (wsI_X12_sign) (fsI_X12_sign) I0 I1 → FrL (wsL_X12_sign) (fsL_X12_sign) L0 L1 → Q r I1 L1 → Q' r I1 L1) {I : Ix} {L : Lx} (hF : FrI (wsI_X12_sign) (fsI_X12_sign) I0 I) (hL : FrL (wsL_X12_sign) (fsL_X12_sign) L0 L) (h : wpX12_sign_b136 Q I L) : wpX12_sign_b136 Q' I L := by
  unfold wpX12_sign_b136 at h ⊢
  exact hQ _ _ _ hF hL h
set_option maxRecDepth 10000 in
theorem mnX12_sign_b106 {I0 : Ix} {L0 : Lx} {Q Q' : Int32 → Ix → Lx → Prop} (hQ : ∀ (r : Int32) (I1 : Ix) (L1 : Lx), FrI (wsI_X12_sign) (fsI_X12_sign) I0 I1 → FrL (wsL_X12_sign) (fsL_X12_sign) L0 L1 → Q r I1 L1 → Q' r I1 L1) {v1 : Int32} {I : Ix} {L : Lx} (hF : FrI (wsI_X12_sign) (fsI_X12_sign) I0 I) (hL : FrL (wsL_X12_sign) (fsL_X12_sign) L0 L) (h : wpX12_sign_b106 Q v1 I L) : wpX12_sign_b106 Q' v1 I L := by
  unfold wpX12_sign_b106 at h ⊢
  refine ⟨fun hc => ?_, fun hc => ?_⟩
  · have h := h.1 hc
    refine mnX12_hold (fun I1 L2 hf hl h => ?_) h
    have hF := hF.tr hf (by decide) (by decide)
    have hL := hL.tr hl (by decide) (by decide)
    refine mnX12_token (fun I3 L4 hf hl h => ?_) h
    have hF := hF.tr hf (by decide) (by decide)
    have hL := hL.tr hl (by decide) (by decide)
    refine ⟨fun hc => ?_, fun hc => ?_⟩
    · have h := h.1 hc
      exact mnX12_sign_b136 hQ hF hL h
    · have h := h.2 hc
      refine ⟨fun hc => ?_, fun hc => ?_⟩
      · have h := h.1 hc
        exact hQ _ _ _ hF hL h
      · have h := h.2 hc
        exact mnX12_sign_b136 hQ hF hL h
  · have h := h.2 hc
    exact hQ _ _ _ hF hL h
set_option maxRecDepth 10000 in
theorem mnX12_sign_b52 {I0 : Ix} {L0 : Lx} {Q Q' : Int32 → Ix → Lx → Prop} (hQ : ∀ (r : Int32) (I1 : Ix) (L1 : Lx), FrI (wsI_X12_sign) (fsI_X12_sign) I0 I1 → FrL (wsL_X12_sign) (fsL_X12_sign) L0 L1 → Q r I1 L1 → Q' r I1 L1) {v1 : Int32} {I : Ix} {L : Lx} (hF : FrI (wsI_X12_sign) (fsI_X12_sign) I0 I) (hL : FrL (wsL_X12_sign) (fsL_X12_sign) L0 L) (h : wpX12_sign_b52 Q v1 I L) : wpX12_sign_b52 Q' v1 I L := by
  unfold wpX12_sign_b52 at h ⊢
  refine ⟨fun hc => ?_, fun hc => ?_⟩
  · have h := h.1 hc
    refine mnX12_rank (fun r3 I1 L2 hf hl h => ?_) h
    have hF := hF.tr hf (by decide) (by decide)
    have hL := hL.tr hl (by decide) (by decide)
    refine ⟨fun hc => ?_, fun hc => ?_⟩
    · have h := h.1 hc
      refine mnX12_rank (fun r6 I4 L5 hf hl h => ?_) h
      have hF := hF.tr hf (by decide) (by decide)
      have hL := hL.tr hl (by decide) (by decide)
      refine mnX12_settle (fun I7 L8 hf hl h => ?_) h
      have hF := hF.tr hf (by decide) (by decide)
      have hL := hL.tr hl (by decide) (by decide)
      exact mnX12_sign_b106 hQ hF hL h
    · have h := h.2 hc
      refine mnX12_settle (fun I9 L10 hf hl h => ?_) h
      have hF := hF.tr hf (by decide) (by decide)
      have hL := hL.tr hl (by decide) (by decide)
      refine mnX12_upper (fun r13 I11 L12 hf hl h => ?_) h
      have hF := hF.tr hf (by decide) (by decide)
      have hL := hL.tr hl (by decide) (by decide)
      refine mnX12_rank (fun r16 I14 L15 hf hl h => ?_) h
      have hF := hF.tr hf (by decide) (by decide)
      have hL := hL.tr hl (by decide) (by decide)
      refine ⟨fun hc => ?_, fun hc => ?_⟩
      · have h := h.1 hc
        exact mnX12_sign_b106 hQ hF hL h
      · have h := h.2 hc
        refine mnX12_wrong (fun I17 L18 hf hl h => ?_) h
        have hF := hF.tr hf (by decide) (by decide)
        have hL := hL.tr hl (by decide) (by decide)
        exact mnX12_sign_b106 hQ hF hL h
  · have h := h.2 hc
    refine mnX12_wrong (fun I19 L20 hf hl h => ?_) h
    have hF := hF.tr hf (by decide) (by decide)
    have hL := hL.tr hl (by decide) (by decide)
    exact hQ _ _ _ hF hL h
set_option maxRecDepth 10000 in
theorem mnX12_sign {I : Ix} {L : Lx} {Q Q' : Int32 → Ix → Lx → Prop} (hQ : ∀ (r : Int32) (I1 : Ix) (L1 : Lx), FrI (wsI_X12_sign) (fsI_X12_sign) I I1 → FrL (wsL_X12_sign) (fsL_X12_sign) L L1 → Q r I1 L1 → Q' r I1 L1) (h : wpX12_sign I L Q) : wpX12_sign I L Q' := by
  have hF : FrI (wsI_X12_sign) (fsI_X12_sign) I I := FrI.rf
  have hL : FrL (wsL_X12_sign) (fsL_X12_sign) L L := FrL.rf
  unfold wpX12_sign at h ⊢
  refine mnX12_signOf (fun r3 I1 L2 hf hl h => ?_) h
  have hF := hF.tr hf (by decide) (by decide)
  have hL := hL.tr hl (by decide) (by decide)
  refine ⟨fun hc => ?_, fun hc => ?_⟩
  · have h := h.1 hc
    exact mnX12_sign_b52 hQ hF hL h
  · have h := h.2 hc
    refine mnX12_isOpen (fun r6 I4 L5 hf hl h => ?_) h
    have hF := hF.tr hf (by decide) (by decide)
    have hL := hL.tr hl (by decide) (by decide)
    refine ⟨fun hc => ?_, fun hc => ?_⟩
    · have h := h.1 hc
      exact mnX12_sign_b52 hQ hF hL h
    · have h := h.2 hc
      refine mnX12_settle (fun I7 L8 hf hl h => ?_) h
      have hF := hF.tr hf (by decide) (by decide)
      have hL := hL.tr hl (by decide) (by decide)
      intro I9 eI9
      have h := h I9 eI9
      have hF := hF.pf eI9 (by decide)
      intro I10 eI10
      have h := h I10 eI10
      have hF := hF.pf eI10 (by decide)
      refine mnX12_token (fun I11 L12 hf hl h => ?_) h
      have hF := hF.tr hf (by decide) (by decide)
      have hL := hL.tr hl (by decide) (by decide)
      exact hQ _ _ _ hF hL h
abbrev wsI_X12_readStands : List Nat := [124, 122, 123, 128]
abbrev wsL_X12_readStands : List Nat := []
abbrev fsI_X12_readStands : List (Nat × Nat) := [(120, 22), (120, 23), (120, 19), (120, 20), (120, 4), (120, 6), (120, 8), (120, 7), (120, 2), (120, 3)]
abbrev fsL_X12_readStands : List (Nat × Nat) := [(120, 9)]
set_option maxRecDepth 10000 in
theorem mnX12_readStands_b89 {I0 : Ix} {L0 : Lx} {Q Q' : Ix → Lx → Prop} (hQ : ∀ (I1 : Ix) (L1 : Lx), FrI (wsI_X12_readStands) (fsI_X12_readStands) I0 I1 → FrL (wsL_X12_readStands) (fsL_X12_readStands) L0 L1 → Q I1 L1 → Q' I1 L1) {I : Ix} {L : Lx} (hF : FrI (wsI_X12_readStands) (fsI_X12_readStands) I0 I) (hL : FrL (wsL_X12_readStands) (fsL_X12_readStands) L0 L) (h : wpX12_readStands_b89 Q I L) : wpX12_readStands_b89 Q' I L := by
  unfold wpX12_readStands_b89 at h ⊢
  refine ⟨fun hc => ?_, fun hc => ?_⟩
  · have h := h.1 hc
    exact hQ _ _ hF hL h
  · have h := h.2 hc
    refine mnX12_settle (fun I1 L2 hf hl h => ?_) h
    have hF := hF.tr hf (by decide) (by decide)
    have hL := hL.tr hl (by decide) (by decide)
    exact hQ _ _ hF hL h
set_option maxRecDepth 10000 in
theorem mnX12_readStands_b68 {I0 : Ix} {L0 : Lx} {Q Q' : Ix → Lx → Prop} {P40 P40' : Int32 → Ix → Lx → Prop} (hQ : ∀ (I1 : Ix) (L1 : Lx), FrI (wsI_X12_readStands) (fsI_X12_readStands) I0 I1 → FrL (wsL_X12_readStands) (fsL_X12_readStands) L0 L1 → Q I1 L1 → Q' I1 L1) (hP40 : ∀ (v1 : Int32) (I1 : Ix) (L1 : Lx), FrI (wsI_X12_readStands) (fsI_X12_readStands) I0 I1 → FrL (wsL_X12_readStands) (fsL_X12_readStands) L0 L1 → P40 v1 I1 L1 → P40' v1 I1 L1) {v1 : Int32} {I : Ix} {L : Lx} (hF : FrI (wsI_X12_readStands) (fsI_X12_readStands) I0 I) (hL : FrL (wsL_X12_readStands) (fsL_X12_readStands) L0 L) (h : wpX12_readStands_b68 Q P40 v1 I L) : wpX12_readStands_b68 Q' P40' v1 I L := by
  unfold wpX12_readStands_b68 at h ⊢
  refine ⟨fun hc => ?_, fun hc => ?_⟩
  · have h := h.1 hc
    refine mnX12_operand (fun r3 I1 L2 hf hl h => ?_) h
    have hF := hF.tr hf (by decide) (by decide)
    have hL := hL.tr hl (by decide) (by decide)
    exact hP40 _ _ _ hF hL h
  · have h := h.2 hc
    refine mnX12_sign (fun r6 I4 L5 hf hl h => ?_) h
    have hF := hF.tr hf (by decide) (by decide)
    have hL := hL.tr hl (by decide) (by decide)
    exact hP40 _ _ _ hF hL h
set_option maxRecDepth 10000 in
theorem mnX12_readStands_l40 {I0 : Ix} {L0 : Lx} {Q Q' : Ix → Lx → Prop} {P40 P40' : Int32 → Ix → Lx → Prop} (hQ : ∀ (I1 : Ix) (L1 : Lx), FrI (wsI_X12_readStands) (fsI_X12_readStands) I0 I1 → FrL (wsL_X12_readStands) (fsL_X12_readStands) L0 L1 → Q I1 L1 → Q' I1 L1) (hP40 : ∀ (v1 : Int32) (I1 : Ix) (L1 : Lx), FrI (wsI_X12_readStands) (fsI_X12_readStands) I0 I1 → FrL (wsL_X12_readStands) (fsL_X12_readStands) L0 L1 → P40 v1 I1 L1 → P40' v1 I1 L1) {v1 : Int32} {I : Ix} {L : Lx} (hF : FrI (wsI_X12_readStands) (fsI_X12_readStands) I0 I) (hL : FrL (wsL_X12_readStands) (fsL_X12_readStands) L0 L) (h : wpX12_readStands_l40 Q P40 v1 I L) : wpX12_readStands_l40 Q' P40' v1 I L := by
  unfold wpX12_readStands_l40 at h ⊢
  refine ⟨fun hc => ?_, fun hc => ?_⟩
  · have h := h.1 hc
    exact mnX12_readStands_b89 hQ hF hL h
  · have h := h.2 hc
    refine ⟨fun hc => ?_, fun hc => ?_⟩
    · have h := h.1 hc
      exact mnX12_readStands_b68 hQ hP40 hF hL h
    · have h := h.2 hc
      refine mnX12_isOpen (fun r3 I1 L2 hf hl h => ?_) h
      have hF := hF.tr hf (by decide) (by decide)
      have hL := hL.tr hl (by decide) (by decide)
      refine ⟨fun hc => ?_, fun hc => ?_⟩
      · have h := h.1 hc
        exact mnX12_readStands_b68 hQ hP40 hF hL h
      · have h := h.2 hc
        refine ⟨fun hc => ?_, fun hc => ?_⟩
        · have h := h.1 hc
          exact mnX12_readStands_b89 hQ hF hL h
        · have h := h.2 hc
          exact mnX12_readStands_b68 hQ hP40 hF hL h
set_option maxRecDepth 10000 in
theorem mnX12_readStands_h40 {I0 : Ix} {L0 : Lx} {Q Q' : Ix → Lx → Prop} (hQ : ∀ (I1 : Ix) (L1 : Lx), FrI (wsI_X12_readStands) (fsI_X12_readStands) I0 I1 → FrL (wsL_X12_readStands) (fsL_X12_readStands) L0 L1 → Q I1 L1 → Q' I1 L1) {v1 : Int32} {I : Ix} {L : Lx} (hF : FrI (wsI_X12_readStands) (fsI_X12_readStands) I0 I) (hL : FrL (wsL_X12_readStands) (fsL_X12_readStands) L0 L) (h : wpX12_readStands_h40 Q v1 I L) : wpX12_readStands_h40 Q' v1 I L := by
  unfold wpX12_readStands_h40 at h
  refine Lfp.ind (P := fun z => FrI (wsI_X12_readStands) (fsI_X12_readStands) I0 z.2.1 → FrL (wsL_X12_readStands) (fsL_X12_readStands) L0 z.2.2 → wpX12_readStands_h40 Q' z.1 z.2.1 z.2.2) ?_ h hF hL
  intro z P' hP' h hF hL
  obtain ⟨v1, I, L⟩ := z
  exact wpX12_readStands_h40_fold (mnX12_readStands_l40 hQ (fun v1 I L hF hL h9 => hP' (v1, I, L) h9 hF hL) hF hL h)
set_option maxRecDepth 10000 in
theorem mnX12_readStands {I : Ix} {L : Lx} {Q Q' : Ix → Lx → Prop} (hQ : ∀ (I1 : Ix) (L1 : Lx), FrI (wsI_X12_readStands) (fsI_X12_readStands) I I1 → FrL (wsL_X12_readStands) (fsL_X12_readStands) L L1 → Q I1 L1 → Q' I1 L1) (h : wpX12_readStands I L Q) : wpX12_readStands I L Q' := by
  have hF : FrI (wsI_X12_readStands) (fsI_X12_readStands) I I := FrI.rf
  have hL : FrL (wsL_X12_readStands) (fsL_X12_readStands) L L := FrL.rf
  unfold wpX12_readStands at h ⊢
  refine mnX12_want (fun I1 L2 hf hl h => ?_) h
  have hF := hF.tr hf (by decide) (by decide)
  have hL := hL.tr hl (by decide) (by decide)
  refine ⟨fun hc => ?_, fun hc => ?_⟩
  · have h := h.1 hc
    refine ⟨h.1, ?_⟩
    have h := h.2
    intro I3 eI3
    have h := h I3 eI3
    have hF := hF.pw eI3 (by decide)
    intro I4 eI4
    have h := h I4 eI4
    have hF := hF.pf eI4 (by decide)
    intro I5 eI5
    have h := h I5 eI5
    have hF := hF.pf eI5 (by decide)
    exact mnX12_readStands_h40 hQ hF hL h
  · have h := h.2 hc
    exact hQ _ _ hF hL h
abbrev wsI_X12_readPerson : List Nat := [137, 124, 122, 123, 128]
abbrev wsL_X12_readPerson : List Nat := [133]
abbrev fsI_X12_readPerson : List (Nat × Nat) := [(120, 39), (120, 4), (120, 6), (120, 8), (120, 7), (120, 2), (120, 3), (120, 22), (120, 23), (120, 19), (120, 20)]
abbrev fsL_X12_readPerson : List (Nat × Nat) := [(120, 9)]
set_option maxRecDepth 10000 in
theorem mnX12_readPerson {I : Ix} {L : Lx} {Q Q' : Ix → Lx → Prop} (hQ : ∀ (I1 : Ix) (L1 : Lx), FrI (wsI_X12_readPerson) (fsI_X12_readPerson) I I1 → FrL (wsL_X12_readPerson) (fsL_X12_readPerson) L L1 → Q I1 L1 → Q' I1 L1) (h : wpX12_readPerson I L Q) : wpX12_readPerson I L Q' := by
  have hF : FrI (wsI_X12_readPerson) (fsI_X12_readPerson) I I := FrI.rf
  have hL : FrL (wsL_X12_readPerson) (fsL_X12_readPerson) L L := FrL.rf
  unfold wpX12_readPerson at h ⊢
  refine mnX12_newName (fun r3 I1 L2 hf hl h => ?_) h
  have hF := hF.tr hf (by decide) (by decide)
  have hL := hL.tr hl (by decide) (by decide)
  refine mnX12_atPlace (fun r6 I4 L5 hf hl h => ?_) h
  have hF := hF.tr hf (by decide) (by decide)
  have hL := hL.tr hl (by decide) (by decide)
  refine mnX12_told (fun r9 I7 L8 hf hl h => ?_) h
  have hF := hF.tr hf (by decide) (by decide)
  have hL := hL.tr hl (by decide) (by decide)
  refine mnX12_told (fun r12 I10 L11 hf hl h => ?_) h
  have hF := hF.tr hf (by decide) (by decide)
  have hL := hL.tr hl (by decide) (by decide)
  refine mnX12_told (fun r15 I13 L14 hf hl h => ?_) h
  have hF := hF.tr hf (by decide) (by decide)
  have hL := hL.tr hl (by decide) (by decide)
  refine mnX12_readStands (fun I16 L17 hf hl h => ?_) h
  have hF := hF.tr hf (by decide) (by decide)
  have hL := hL.tr hl (by decide) (by decide)
  refine ⟨fun hc => ?_, fun hc => ?_⟩
  · have h := h.1 hc
    refine ⟨h.1, ?_⟩
    have h := h.2
    intro I18 eI18
    have h := h I18 eI18
    have hF := hF.pw eI18 (by decide)
    refine ⟨h.1, ?_⟩
    have h := h.2
    intro I19 eI19
    have h := h I19 eI19
    have hF := hF.pw eI19 (by decide)
    refine ⟨h.1, ?_⟩
    have h := h.2
    intro I20 eI20
    have h := h I20 eI20
    have hF := hF.pw eI20 (by decide)
    refine ⟨h.1, ?_⟩
    have h := h.2
    intro I21 eI21
    have h := h I21 eI21
    have hF := hF.pw eI21 (by decide)
    refine ⟨h.1, ?_⟩
    have h := h.2
    intro L22 eL22
    have h := h L22 eL22
    have hL := hL.pw eL22 (by decide)
    intro I23 eI23
    have h := h I23 eI23
    have hF := hF.pf eI23 (by decide)
    refine ⟨h.1, ?_⟩
    have h := h.2
    intro I24 eI24
    have h := h I24 eI24
    have hF := hF.pw eI24 (by decide)
    exact hQ _ _ hF hL h
  · have h := h.2 hc
    exact hQ _ _ hF hL h
abbrev wsI_X12_readThing : List Nat := [136]
abbrev wsL_X12_readThing : List Nat := [132]
abbrev fsI_X12_readThing : List (Nat × Nat) := [(120, 38), (120, 4), (120, 6), (120, 8), (120, 7), (120, 2), (120, 3)]
abbrev fsL_X12_readThing : List (Nat × Nat) := [(120, 9)]
set_option maxRecDepth 10000 in
theorem mnX12_readThing_b107 {I0 : Ix} {L0 : Lx} {Q Q' : Ix → Lx → Prop} (hQ : ∀ (I1 : Ix) (L1 : Lx), FrI (wsI_X12_readThing) (fsI_X12_readThing) I0 I1 → FrL (wsL_X12_readThing) (fsL_X12_readThing) L0 L1 → Q I1 L1 → Q' I1 L1) {v1 : Int32} {v2 : Int64} {v4 : Int32} {v5 : Int32} {v6 : Int32} {v7 : Int32} {I : Ix} {L : Lx} (hF : FrI (wsI_X12_readThing) (fsI_X12_readThing) I0 I) (hL : FrL (wsL_X12_readThing) (fsL_X12_readThing) L0 L) (h : wpX12_readThing_b107 Q v1 v2 v4 v5 v6 v7 I L) : wpX12_readThing_b107 Q' v1 v2 v4 v5 v6 v7 I L := by
  unfold wpX12_readThing_b107 at h ⊢
  refine ⟨h.1, ?_⟩
  have h := h.2
  intro I1 eI1
  have h := h I1 eI1
  have hF := hF.pw eI1 (by decide)
  refine ⟨h.1, ?_⟩
  have h := h.2
  intro I2 eI2
  have h := h I2 eI2
  have hF := hF.pw eI2 (by decide)
  refine ⟨h.1, ?_⟩
  have h := h.2
  intro I3 eI3
  have h := h I3 eI3
  have hF := hF.pw eI3 (by decide)
  refine ⟨h.1, ?_⟩
  have h := h.2
  intro I4 eI4
  have h := h I4 eI4
  have hF := hF.pw eI4 (by decide)
  refine ⟨h.1, ?_⟩
  have h := h.2
  intro L5 eL5
  have h := h L5 eL5
  have hL := hL.pw eL5 (by decide)
  intro I6 eI6
  have h := h I6 eI6
  have hF := hF.pf eI6 (by decide)
  exact hQ _ _ hF hL h
set_option maxRecDepth 10000 in
theorem mnX12_readThing_b92 {I0 : Ix} {L0 : Lx} {Q Q' : Ix → Lx → Prop} (hQ : ∀ (I1 : Ix) (L1 : Lx), FrI (wsI_X12_readThing) (fsI_X12_readThing) I0 I1 → FrL (wsL_X12_readThing) (fsL_X12_readThing) L0 L1 → Q I1 L1 → Q' I1 L1) {v1 : Int32} {v2 : Int64} {v4 : Int32} {v5 : Int32} {v6 : Int32} {v7 : Int32} {t1 : Int32} {t2 : Int32} {I : Ix} {L : Lx} (hF : FrI (wsI_X12_readThing) (fsI_X12_readThing) I0 I) (hL : FrL (wsL_X12_readThing) (fsL_X12_readThing) L0 L) (h : wpX12_readThing_b92 Q v1 v2 v4 v5 v6 v7 t1 t2 I L) : wpX12_readThing_b92 Q' v1 v2 v4 v5 v6 v7 t1 t2 I L := by
  unfold wpX12_readThing_b92 at h ⊢
  refine ⟨h.1, ?_⟩
  have h := h.2
  intro I1 eI1
  have h := h I1 eI1
  have hF := hF.pw eI1 (by decide)
  refine mnX12_isWord (fun r4 I2 L3 hf hl h => ?_) h
  have hF := hF.tr hf (by decide) (by decide)
  have hL := hL.tr hl (by decide) (by decide)
  refine ⟨fun hc => ?_, fun hc => ?_⟩
  · have h := h.1 hc
    exact mnX12_readThing_b107 hQ hF hL h
  · have h := h.2 hc
    refine mnX12_token (fun I5 L6 hf hl h => ?_) h
    have hF := hF.tr hf (by decide) (by decide)
    have hL := hL.tr hl (by decide) (by decide)
    exact mnX12_readThing_b107 hQ hF hL h
set_option maxRecDepth 10000 in
theorem mnX12_readThing {I : Ix} {L : Lx} {Q Q' : Ix → Lx → Prop} (hQ : ∀ (I1 : Ix) (L1 : Lx), FrI (wsI_X12_readThing) (fsI_X12_readThing) I I1 → FrL (wsL_X12_readThing) (fsL_X12_readThing) L L1 → Q I1 L1 → Q' I1 L1) (h : wpX12_readThing I L Q) : wpX12_readThing I L Q' := by
  have hF : FrI (wsI_X12_readThing) (fsI_X12_readThing) I I := FrI.rf
  have hL : FrL (wsL_X12_readThing) (fsL_X12_readThing) L L := FrL.rf
  unfold wpX12_readThing at h ⊢
  refine mnX12_newName (fun r3 I1 L2 hf hl h => ?_) h
  have hF := hF.tr hf (by decide) (by decide)
  have hL := hL.tr hl (by decide) (by decide)
  refine mnX12_atPlace (fun r6 I4 L5 hf hl h => ?_) h
  have hF := hF.tr hf (by decide) (by decide)
  have hL := hL.tr hl (by decide) (by decide)
  refine mnX12_told (fun r9 I7 L8 hf hl h => ?_) h
  have hF := hF.tr hf (by decide) (by decide)
  have hL := hL.tr hl (by decide) (by decide)
  refine mnX12_told (fun r12 I10 L11 hf hl h => ?_) h
  have hF := hF.tr hf (by decide) (by decide)
  have hL := hL.tr hl (by decide) (by decide)
  refine mnX12_told (fun r15 I13 L14 hf hl h => ?_) h
  have hF := hF.tr hf (by decide) (by decide)
  have hL := hL.tr hl (by decide) (by decide)
  refine ⟨fun hc => ?_, fun hc => ?_⟩
  · have h := h.1 hc
    refine mnX12_isWord (fun r18 I16 L17 hf hl h => ?_) h
    have hF := hF.tr hf (by decide) (by decide)
    have hL := hL.tr hl (by decide) (by decide)
    refine ⟨fun hc => ?_, fun hc => ?_⟩
    · have h := h.1 hc
      exact mnX12_readThing_b92 hQ hF hL h
    · have h := h.2 hc
      exact mnX12_readThing_b92 hQ hF hL h
  · have h := h.2 hc
    exact hQ _ _ hF hL h
abbrev wsI_X12_readRoad : List Nat := [135]
abbrev wsL_X12_readRoad : List Nat := []
abbrev fsI_X12_readRoad : List (Nat × Nat) := [(120, 37), (120, 4), (120, 6), (120, 8), (120, 7), (120, 2), (120, 3)]
abbrev fsL_X12_readRoad : List (Nat × Nat) := [(120, 9)]
set_option maxRecDepth 10000 in
theorem mnX12_readRoad_b71 {I0 : Ix} {L0 : Lx} {Q Q' : Ix → Lx → Prop} (hQ : ∀ (I1 : Ix) (L1 : Lx), FrI (wsI_X12_readRoad) (fsI_X12_readRoad) I0 I1 → FrL (wsL_X12_readRoad) (fsL_X12_readRoad) L0 L1 → Q I1 L1 → Q' I1 L1) {v1 : Int32} {I : Ix} {L : Lx} (hF : FrI (wsI_X12_readRoad) (fsI_X12_readRoad) I0 I) (hL : FrL (wsL_X12_readRoad) (fsL_X12_readRoad) L0 L) (h : wpX12_readRoad_b71 Q v1 I L) : wpX12_readRoad_b71 Q' v1 I L := by
  unfold wpX12_readRoad_b71 at h ⊢
  refine mnX12_oldPlace (fun r3 I1 L2 hf hl h => ?_) h
  have hF := hF.tr hf (by decide) (by decide)
  have hL := hL.tr hl (by decide) (by decide)
  refine mnX12_told (fun r6 I4 L5 hf hl h => ?_) h
  have hF := hF.tr hf (by decide) (by decide)
  have hL := hL.tr hl (by decide) (by decide)
  refine ⟨fun hc => ?_, fun hc => ?_⟩
  · have h := h.1 hc
    refine ⟨h.1, ?_⟩
    have h := h.2
    intro I7 eI7
    have h := h I7 eI7
    have hF := hF.pw eI7 (by decide)
    refine ⟨h.1, ?_⟩
    have h := h.2
    intro I8 eI8
    have h := h I8 eI8
    have hF := hF.pw eI8 (by decide)
    intro I9 eI9
    have h := h I9 eI9
    have hF := hF.pf eI9 (by decide)
    exact hQ _ _ hF hL h
  · have h := h.2 hc
    exact hQ _ _ hF hL h
set_option maxRecDepth 10000 in
theorem mnX12_readRoad_b66 {I0 : Ix} {L0 : Lx} {Q Q' : Ix → Lx → Prop} (hQ : ∀ (I1 : Ix) (L1 : Lx), FrI (wsI_X12_readRoad) (fsI_X12_readRoad) I0 I1 → FrL (wsL_X12_readRoad) (fsL_X12_readRoad) L0 L1 → Q I1 L1 → Q' I1 L1) {v1 : Int32} {I : Ix} {L : Lx} (hF : FrI (wsI_X12_readRoad) (fsI_X12_readRoad) I0 I) (hL : FrL (wsL_X12_readRoad) (fsL_X12_readRoad) L0 L) (h : wpX12_readRoad_b66 Q v1 I L) : wpX12_readRoad_b66 Q' v1 I L := by
  unfold wpX12_readRoad_b66 at h ⊢
  refine mnX12_wrong (fun I1 L2 hf hl h => ?_) h
  have hF := hF.tr hf (by decide) (by decide)
  have hL := hL.tr hl (by decide) (by decide)
  exact mnX12_readRoad_b71 hQ hF hL h
set_option maxRecDepth 10000 in
theorem mnX12_readRoad {I : Ix} {L : Lx} {Q Q' : Ix → Lx → Prop} (hQ : ∀ (I1 : Ix) (L1 : Lx), FrI (wsI_X12_readRoad) (fsI_X12_readRoad) I I1 → FrL (wsL_X12_readRoad) (fsL_X12_readRoad) L L1 → Q I1 L1 → Q' I1 L1) (h : wpX12_readRoad I L Q) : wpX12_readRoad I L Q' := by
  have hF : FrI (wsI_X12_readRoad) (fsI_X12_readRoad) I I := FrI.rf
  have hL : FrL (wsL_X12_readRoad) (fsL_X12_readRoad) L L := FrL.rf
  unfold wpX12_readRoad at h ⊢
  refine mnX12_token (fun I1 L2 hf hl h => ?_) h
  have hF := hF.tr hf (by decide) (by decide)
  have hL := hL.tr hl (by decide) (by decide)
  refine mnX12_oldPlace (fun r5 I3 L4 hf hl h => ?_) h
  have hF := hF.tr hf (by decide) (by decide)
  have hL := hL.tr hl (by decide) (by decide)
  refine ⟨fun hc => ?_, fun hc => ?_⟩
  · have h := h.1 hc
    refine mnX12_find (fun r8 I6 L7 hf hl h => ?_) h
    have hF := hF.tr hf (by decide) (by decide)
    have hL := hL.tr hl (by decide) (by decide)
    refine mnX12_isName (fun r11 I9 L10 hf hl h => ?_) h
    have hF := hF.tr hf (by decide) (by decide)
    have hL := hL.tr hl (by decide) (by decide)
    refine ⟨fun hc => ?_, fun hc => ?_⟩
    · have h := h.1 hc
      exact mnX12_readRoad_b71 hQ hF hL h
    · have h := h.2 hc
      refine ⟨fun hc => ?_, fun hc => ?_⟩
      · have h := h.1 hc
        exact mnX12_readRoad_b71 hQ hF hL h
      · have h := h.2 hc
        refine ⟨fun hc => ?_, fun hc => ?_⟩
        · have h := h.1 hc
          exact mnX12_readRoad_b66 hQ hF hL h
        · have h := h.2 hc
          refine ⟨h.1, ?_⟩
          have h := h.2
          refine ⟨fun hc => ?_, fun hc => ?_⟩
          · have h := h.1 hc
            exact mnX12_readRoad_b71 hQ hF hL h
          · have h := h.2 hc
            exact mnX12_readRoad_b66 hQ hF hL h
  · have h := h.2 hc
    exact hQ _ _ hF hL h
abbrev wsI_X12_readPlace : List Nat := [134]
abbrev wsL_X12_readPlace : List Nat := [131]
abbrev fsI_X12_readPlace : List (Nat × Nat) := [(120, 36), (120, 4), (120, 6), (120, 8), (120, 7), (120, 2), (120, 3)]
abbrev fsL_X12_readPlace : List (Nat × Nat) := [(120, 9)]
set_option maxRecDepth 10000 in
theorem mnX12_readPlace {I : Ix} {L : Lx} {Q Q' : Ix → Lx → Prop} (hQ : ∀ (I1 : Ix) (L1 : Lx), FrI (wsI_X12_readPlace) (fsI_X12_readPlace) I I1 → FrL (wsL_X12_readPlace) (fsL_X12_readPlace) L L1 → Q I1 L1 → Q' I1 L1) (h : wpX12_readPlace I L Q) : wpX12_readPlace I L Q' := by
  have hF : FrI (wsI_X12_readPlace) (fsI_X12_readPlace) I I := FrI.rf
  have hL : FrL (wsL_X12_readPlace) (fsL_X12_readPlace) L L := FrL.rf
  unfold wpX12_readPlace at h ⊢
  refine mnX12_newName (fun r3 I1 L2 hf hl h => ?_) h
  have hF := hF.tr hf (by decide) (by decide)
  have hL := hL.tr hl (by decide) (by decide)
  refine mnX12_told (fun r6 I4 L5 hf hl h => ?_) h
  have hF := hF.tr hf (by decide) (by decide)
  have hL := hL.tr hl (by decide) (by decide)
  refine ⟨fun hc => ?_, fun hc => ?_⟩
  · have h := h.1 hc
    refine ⟨h.1, ?_⟩
    have h := h.2
    intro L7 eL7
    have h := h L7 eL7
    have hL := hL.pw eL7 (by decide)
    refine ⟨h.1, ?_⟩
    have h := h.2
    intro I8 eI8
    have h := h I8 eI8
    have hF := hF.pw eI8 (by decide)
    intro I9 eI9
    have h := h I9 eI9
    have hF := hF.pf eI9 (by decide)
    exact hQ _ _ hF hL h
  · have h := h.2 hc
    exact hQ _ _ hF hL h
abbrev wsI_X12_readLine : List Nat := [137, 124, 122, 123, 128, 136, 135, 134]
abbrev wsL_X12_readLine : List Nat := [133, 132, 131]
abbrev fsI_X12_readLine : List (Nat × Nat) := [(120, 4), (120, 6), (120, 8), (120, 7), (120, 2), (120, 3), (120, 49), (120, 41), (120, 40), (120, 48), (120, 39), (120, 22), (120, 23), (120, 19), (120, 20), (120, 38), (120, 37), (120, 36)]
abbrev fsL_X12_readLine : List (Nat × Nat) := [(120, 9)]
set_option maxRecDepth 10000 in
theorem mnX12_readLine_b178 {I0 : Ix} {L0 : Lx} {Q Q' : Ix → Lx → Prop} (hQ : ∀ (I1 : Ix) (L1 : Lx), FrI (wsI_X12_readLine) (fsI_X12_readLine) I0 I1 → FrL (wsL_X12_readLine) (fsL_X12_readLine) L0 L1 → Q I1 L1 → Q' I1 L1) {I : Ix} {L : Lx} (hF : FrI (wsI_X12_readLine) (fsI_X12_readLine) I0 I) (hL : FrL (wsL_X12_readLine) (fsL_X12_readLine) L0 L) (h : wpX12_readLine_b178 Q I L) : wpX12_readLine_b178 Q' I L := by
  unfold wpX12_readLine_b178 at h ⊢
  refine ⟨fun hc => ?_, fun hc => ?_⟩
  · have h := h.1 hc
    exact hQ _ _ hF hL h
  · have h := h.2 hc
    refine mnX12_token (fun I1 L2 hf hl h => ?_) h
    have hF := hF.tr hf (by decide) (by decide)
    have hL := hL.tr hl (by decide) (by decide)
    exact hQ _ _ hF hL h
set_option maxRecDepth 10000 in
theorem mnX12_readLine_b157 {I0 : Ix} {L0 : Lx} {Q Q' : Ix → Lx → Prop} (hQ : ∀ (I1 : Ix) (L1 : Lx), FrI (wsI_X12_readLine) (fsI_X12_readLine) I0 I1 → FrL (wsL_X12_readLine) (fsL_X12_readLine) L0 L1 → Q I1 L1 → Q' I1 L1) {I : Ix} {L : Lx} (hF : FrI (wsI_X12_readLine) (fsI_X12_readLine) I0 I) (hL : FrL (wsL_X12_readLine) (fsL_X12_readLine) L0 L) (h : wpX12_readLine_b157 Q I L) : wpX12_readLine_b157 Q' I L := by
  unfold wpX12_readLine_b157 at h ⊢
  refine ⟨fun hc => ?_, fun hc => ?_⟩
  · have h := h.1 hc
    exact mnX12_readLine_b178 hQ hF hL h
  · have h := h.2 hc
    refine ⟨fun hc => ?_, fun hc => ?_⟩
    · have h := h.1 hc
      exact mnX12_readLine_b178 hQ hF hL h
    · have h := h.2 hc
      refine mnX12_wrong (fun I1 L2 hf hl h => ?_) h
      have hF := hF.tr hf (by decide) (by decide)
      have hL := hL.tr hl (by decide) (by decide)
      exact mnX12_readLine_b178 hQ hF hL h
set_option maxRecDepth 10000 in
theorem mnX12_readLine_b152 {I0 : Ix} {L0 : Lx} {Q Q' : Ix → Lx → Prop} (hQ : ∀ (I1 : Ix) (L1 : Lx), FrI (wsI_X12_readLine) (fsI_X12_readLine) I0 I1 → FrL (wsL_X12_readLine) (fsL_X12_readLine) L0 L1 → Q I1 L1 → Q' I1 L1) {I : Ix} {L : Lx} (hF : FrI (wsI_X12_readLine) (fsI_X12_readLine) I0 I) (hL : FrL (wsL_X12_readLine) (fsL_X12_readLine) L0 L) (h : wpX12_readLine_b152 Q I L) : wpX12_readLine_b152 Q' I L := by
  unfold wpX12_readLine_b152 at h ⊢
  refine mnX12_wrong (fun I1 L2 hf hl h => ?_) h
  have hF := hF.tr hf (by decide) (by decide)
  have hL := hL.tr hl (by decide) (by decide)
  exact mnX12_readLine_b157 hQ hF hL h
set_option maxRecDepth 10000 in
theorem mnX12_readLine_b128 {I0 : Ix} {L0 : Lx} {Q Q' : Ix → Lx → Prop} (hQ : ∀ (I1 : Ix) (L1 : Lx), FrI (wsI_X12_readLine) (fsI_X12_readLine) I0 I1 → FrL (wsL_X12_readLine) (fsL_X12_readLine) L0 L1 → Q I1 L1 → Q' I1 L1) {I : Ix} {L : Lx} (hF : FrI (wsI_X12_readLine) (fsI_X12_readLine) I0 I) (hL : FrL (wsL_X12_readLine) (fsL_X12_readLine) L0 L) (h : wpX12_readLine_b128 Q I L) : wpX12_readLine_b128 Q' I L := by
  unfold wpX12_readLine_b128 at h ⊢
  refine mnX12_isWord (fun r3 I1 L2 hf hl h => ?_) h
  have hF := hF.tr hf (by decide) (by decide)
  have hL := hL.tr hl (by decide) (by decide)
  refine ⟨fun hc => ?_, fun hc => ?_⟩
  · have h := h.1 hc
    exact mnX12_readLine_b152 hQ hF hL h
  · have h := h.2 hc
    refine ⟨fun hc => ?_, fun hc => ?_⟩
    · have h := h.1 hc
      exact mnX12_readLine_b152 hQ hF hL h
    · have h := h.2 hc
      refine mnX12_readLate (fun I4 L5 hf hl h => ?_) h
      have hF := hF.tr hf (by decide) (by decide)
      have hL := hL.tr hl (by decide) (by decide)
      exact mnX12_readLine_b157 hQ hF hL h
set_option maxRecDepth 10000 in
theorem mnX12_readLine_b104 {I0 : Ix} {L0 : Lx} {Q Q' : Ix → Lx → Prop} (hQ : ∀ (I1 : Ix) (L1 : Lx), FrI (wsI_X12_readLine) (fsI_X12_readLine) I0 I1 → FrL (wsL_X12_readLine) (fsL_X12_readLine) L0 L1 → Q I1 L1 → Q' I1 L1) {I : Ix} {L : Lx} (hF : FrI (wsI_X12_readLine) (fsI_X12_readLine) I0 I) (hL : FrL (wsL_X12_readLine) (fsL_X12_readLine) L0 L) (h : wpX12_readLine_b104 Q I L) : wpX12_readLine_b104 Q' I L := by
  unfold wpX12_readLine_b104 at h ⊢
  refine mnX12_isWord (fun r3 I1 L2 hf hl h => ?_) h
  have hF := hF.tr hf (by decide) (by decide)
  have hL := hL.tr hl (by decide) (by decide)
  refine ⟨fun hc => ?_, fun hc => ?_⟩
  · have h := h.1 hc
    exact mnX12_readLine_b128 hQ hF hL h
  · have h := h.2 hc
    refine ⟨fun hc => ?_, fun hc => ?_⟩
    · have h := h.1 hc
      exact mnX12_readLine_b128 hQ hF hL h
    · have h := h.2 hc
      refine mnX12_readLaw (fun I4 L5 hf hl h => ?_) h
      have hF := hF.tr hf (by decide) (by decide)
      have hL := hL.tr hl (by decide) (by decide)
      exact mnX12_readLine_b157 hQ hF hL h
set_option maxRecDepth 10000 in
theorem mnX12_readLine_b78 {I0 : Ix} {L0 : Lx} {Q Q' : Ix → Lx → Prop} (hQ : ∀ (I1 : Ix) (L1 : Lx), FrI (wsI_X12_readLine) (fsI_X12_readLine) I0 I1 → FrL (wsL_X12_readLine) (fsL_X12_readLine) L0 L1 → Q I1 L1 → Q' I1 L1) {I : Ix} {L : Lx} (hF : FrI (wsI_X12_readLine) (fsI_X12_readLine) I0 I) (hL : FrL (wsL_X12_readLine) (fsL_X12_readLine) L0 L) (h : wpX12_readLine_b78 Q I L) : wpX12_readLine_b78 Q' I L := by
  unfold wpX12_readLine_b78 at h ⊢
  refine mnX12_isWord (fun r3 I1 L2 hf hl h => ?_) h
  have hF := hF.tr hf (by decide) (by decide)
  have hL := hL.tr hl (by decide) (by decide)
  refine ⟨fun hc => ?_, fun hc => ?_⟩
  · have h := h.1 hc
    exact mnX12_readLine_b104 hQ hF hL h
  · have h := h.2 hc
    refine ⟨fun hc => ?_, fun hc => ?_⟩
    · have h := h.1 hc
      exact mnX12_readLine_b104 hQ hF hL h
    · have h := h.2 hc
      refine mnX12_readPerson (fun I4 L5 hf hl h => ?_) h
      have hF := hF.tr hf (by decide) (by decide)
      have hL := hL.tr hl (by decide) (by decide)
      exact mnX12_readLine_b157 hQ hF hL h
set_option maxRecDepth 10000 in
theorem mnX12_readLine_b52 {I0 : Ix} {L0 : Lx} {Q Q' : Ix → Lx → Prop} (hQ : ∀ (I1 : Ix) (L1 : Lx), FrI (wsI_X12_readLine) (fsI_X12_readLine) I0 I1 → FrL (wsL_X12_readLine) (fsL_X12_readLine) L0 L1 → Q I1 L1 → Q' I1 L1) {I : Ix} {L : Lx} (hF : FrI (wsI_X12_readLine) (fsI_X12_readLine) I0 I) (hL : FrL (wsL_X12_readLine) (fsL_X12_readLine) L0 L) (h : wpX12_readLine_b52 Q I L) : wpX12_readLine_b52 Q' I L := by
  unfold wpX12_readLine_b52 at h ⊢
  refine mnX12_isWord (fun r3 I1 L2 hf hl h => ?_) h
  have hF := hF.tr hf (by decide) (by decide)
  have hL := hL.tr hl (by decide) (by decide)
  refine ⟨fun hc => ?_, fun hc => ?_⟩
  · have h := h.1 hc
    exact mnX12_readLine_b78 hQ hF hL h
  · have h := h.2 hc
    refine ⟨fun hc => ?_, fun hc => ?_⟩
    · have h := h.1 hc
      exact mnX12_readLine_b78 hQ hF hL h
    · have h := h.2 hc
      refine mnX12_readThing (fun I4 L5 hf hl h => ?_) h
      have hF := hF.tr hf (by decide) (by decide)
      have hL := hL.tr hl (by decide) (by decide)
      exact mnX12_readLine_b157 hQ hF hL h
set_option maxRecDepth 10000 in
theorem mnX12_readLine_b26 {I0 : Ix} {L0 : Lx} {Q Q' : Ix → Lx → Prop} (hQ : ∀ (I1 : Ix) (L1 : Lx), FrI (wsI_X12_readLine) (fsI_X12_readLine) I0 I1 → FrL (wsL_X12_readLine) (fsL_X12_readLine) L0 L1 → Q I1 L1 → Q' I1 L1) {I : Ix} {L : Lx} (hF : FrI (wsI_X12_readLine) (fsI_X12_readLine) I0 I) (hL : FrL (wsL_X12_readLine) (fsL_X12_readLine) L0 L) (h : wpX12_readLine_b26 Q I L) : wpX12_readLine_b26 Q' I L := by
  unfold wpX12_readLine_b26 at h ⊢
  refine mnX12_isWord (fun r3 I1 L2 hf hl h => ?_) h
  have hF := hF.tr hf (by decide) (by decide)
  have hL := hL.tr hl (by decide) (by decide)
  refine ⟨fun hc => ?_, fun hc => ?_⟩
  · have h := h.1 hc
    exact mnX12_readLine_b52 hQ hF hL h
  · have h := h.2 hc
    refine ⟨fun hc => ?_, fun hc => ?_⟩
    · have h := h.1 hc
      exact mnX12_readLine_b52 hQ hF hL h
    · have h := h.2 hc
      refine mnX12_readRoad (fun I4 L5 hf hl h => ?_) h
      have hF := hF.tr hf (by decide) (by decide)
      have hL := hL.tr hl (by decide) (by decide)
      exact mnX12_readLine_b157 hQ hF hL h
set_option maxRecDepth 10000 in
theorem mnX12_readLine {I : Ix} {L : Lx} {Q Q' : Ix → Lx → Prop} (hQ : ∀ (I1 : Ix) (L1 : Lx), FrI (wsI_X12_readLine) (fsI_X12_readLine) I I1 → FrL (wsL_X12_readLine) (fsL_X12_readLine) L L1 → Q I1 L1 → Q' I1 L1) (h : wpX12_readLine I L Q) : wpX12_readLine I L Q' := by
  have hF : FrI (wsI_X12_readLine) (fsI_X12_readLine) I I := FrI.rf
  have hL : FrL (wsL_X12_readLine) (fsL_X12_readLine) L L := FrL.rf
  unfold wpX12_readLine at h ⊢
  refine mnX12_isWord (fun r3 I1 L2 hf hl h => ?_) h
  have hF := hF.tr hf (by decide) (by decide)
  have hL := hL.tr hl (by decide) (by decide)
  refine ⟨fun hc => ?_, fun hc => ?_⟩
  · have h := h.1 hc
    exact mnX12_readLine_b26 hQ hF hL h
  · have h := h.2 hc
    refine ⟨fun hc => ?_, fun hc => ?_⟩
    · have h := h.1 hc
      exact mnX12_readLine_b26 hQ hF hL h
    · have h := h.2 hc
      refine mnX12_readPlace (fun I4 L5 hf hl h => ?_) h
      have hF := hF.tr hf (by decide) (by decide)
      have hL := hL.tr hl (by decide) (by decide)
      exact mnX12_readLine_b157 hQ hF hL h
abbrev wsI_X12_valley : List Nat := [169, 127, 125, 126, 142, 141, 139, 138, 135, 140, 147, 148, 143, 144, 145, 149, 146, 137, 124, 122, 123, 128, 136, 134]
abbrev wsL_X12_valley : List Nat := [133, 132, 131]
abbrev fsI_X12_valley : List (Nat × Nat) := [(120, 93), (120, 42), (120, 43), (120, 44), (120, 45), (120, 46), (120, 47), (120, 21), (120, 5), (120, 1), (120, 4), (120, 2), (120, 3), (120, 19), (120, 20), (120, 36), (120, 37), (120, 38), (120, 39), (120, 40), (120, 41), (120, 48), (120, 49), (120, 57), (120, 59), (120, 6), (120, 8), (120, 7), (120, 22), (120, 23)]
abbrev fsL_X12_valley : List (Nat × Nat) := [(120, 9)]
set_option maxRecDepth 10000 in
theorem mnX12_valley_l393 {I0 : Ix} {L0 : Lx} {Q Q' : Int32 → Ix → Lx → Prop} {P393 P393' : Int32 → Ix → Lx → Prop} (hQ : ∀ (r : Int32) (I1 : Ix) (L1 : Lx), FrI (wsI_X12_valley) (fsI_X12_valley) I0 I1 → FrL (wsL_X12_valley) (fsL_X12_valley) L0 L1 → Q r I1 L1 → Q' r I1 L1) (hP393 : ∀ (v1 : Int32) (I1 : Ix) (L1 : Lx), FrI (wsI_X12_valley) (fsI_X12_valley) I0 I1 → FrL (wsL_X12_valley) (fsL_X12_valley) L0 L1 → P393 v1 I1 L1 → P393' v1 I1 L1) {v1 : Int32} {I : Ix} {L : Lx} (hF : FrI (wsI_X12_valley) (fsI_X12_valley) I0 I) (hL : FrL (wsL_X12_valley) (fsL_X12_valley) L0 L) (h : wpX12_valley_l393 Q P393 v1 I L) : wpX12_valley_l393 Q' P393' v1 I L := by
  unfold wpX12_valley_l393 at h ⊢
  refine ⟨fun hc => ?_, fun hc => ?_⟩
  · have h := h.1 hc
    exact hQ _ _ _ hF hL h
  · have h := h.2 hc
    refine ⟨h.1, ?_⟩
    have h := h.2
    intro I1 eI1
    have h := h I1 eI1
    have hF := hF.pw eI1 (by decide)
    exact hP393 _ _ _ hF hL h
set_option maxRecDepth 10000 in
theorem mnX12_valley_h393 {I0 : Ix} {L0 : Lx} {Q Q' : Int32 → Ix → Lx → Prop} (hQ : ∀ (r : Int32) (I1 : Ix) (L1 : Lx), FrI (wsI_X12_valley) (fsI_X12_valley) I0 I1 → FrL (wsL_X12_valley) (fsL_X12_valley) L0 L1 → Q r I1 L1 → Q' r I1 L1) {v1 : Int32} {I : Ix} {L : Lx} (hF : FrI (wsI_X12_valley) (fsI_X12_valley) I0 I) (hL : FrL (wsL_X12_valley) (fsL_X12_valley) L0 L) (h : wpX12_valley_h393 Q v1 I L) : wpX12_valley_h393 Q' v1 I L := by
  unfold wpX12_valley_h393 at h
  refine Lfp.ind (P := fun z => FrI (wsI_X12_valley) (fsI_X12_valley) I0 z.2.1 → FrL (wsL_X12_valley) (fsL_X12_valley) L0 z.2.2 → wpX12_valley_h393 Q' z.1 z.2.1 z.2.2) ?_ h hF hL
  intro z P' hP' h hF hL
  obtain ⟨v1, I, L⟩ := z
  exact wpX12_valley_h393_fold (mnX12_valley_l393 hQ (fun v1 I L hF hL h9 => hP' (v1, I, L) h9 hF hL) hF hL h)
set_option maxRecDepth 10000 in
theorem mnX12_valley_l352 {I0 : Ix} {L0 : Lx} {Q Q' : Int32 → Ix → Lx → Prop} {P352 P352' : Int32 → Ix → Lx → Prop} (hQ : ∀ (r : Int32) (I1 : Ix) (L1 : Lx), FrI (wsI_X12_valley) (fsI_X12_valley) I0 I1 → FrL (wsL_X12_valley) (fsL_X12_valley) L0 L1 → Q r I1 L1 → Q' r I1 L1) (hP352 : ∀ (v1 : Int32) (I1 : Ix) (L1 : Lx), FrI (wsI_X12_valley) (fsI_X12_valley) I0 I1 → FrL (wsL_X12_valley) (fsL_X12_valley) L0 L1 → P352 v1 I1 L1 → P352' v1 I1 L1) {v1 : Int32} {I : Ix} {L : Lx} (hF : FrI (wsI_X12_valley) (fsI_X12_valley) I0 I) (hL : FrL (wsL_X12_valley) (fsL_X12_valley) L0 L) (h : wpX12_valley_l352 Q P352 v1 I L) : wpX12_valley_l352 Q' P352' v1 I L := by
  unfold wpX12_valley_l352 at h ⊢
  refine ⟨fun hc => ?_, fun hc => ?_⟩
  · have h := h.1 hc
    refine mnX12_layFar (fun I1 L2 hf hl h => ?_) h
    have hF := hF.tr hf (by decide) (by decide)
    have hL := hL.tr hl (by decide) (by decide)
    refine mnX12_fresh (fun I3 L4 hf hl h => ?_) h
    have hF := hF.tr hf (by decide) (by decide)
    have hL := hL.tr hl (by decide) (by decide)
    intro I5 eI5
    have h := h I5 eI5
    have hF := hF.pf eI5 (by decide)
    exact mnX12_valley_h393 hQ hF hL h
  · have h := h.2 hc
    refine ⟨h.1, ?_⟩
    have h := h.2
    refine ⟨h.1, ?_⟩
    have h := h.2
    intro I6 eI6
    have h := h I6 eI6
    have hF := hF.pw eI6 (by decide)
    exact hP352 _ _ _ hF hL h
set_option maxRecDepth 10000 in
theorem mnX12_valley_h352 {I0 : Ix} {L0 : Lx} {Q Q' : Int32 → Ix → Lx → Prop} (hQ : ∀ (r : Int32) (I1 : Ix) (L1 : Lx), FrI (wsI_X12_valley) (fsI_X12_valley) I0 I1 → FrL (wsL_X12_valley) (fsL_X12_valley) L0 L1 → Q r I1 L1 → Q' r I1 L1) {v1 : Int32} {I : Ix} {L : Lx} (hF : FrI (wsI_X12_valley) (fsI_X12_valley) I0 I) (hL : FrL (wsL_X12_valley) (fsL_X12_valley) L0 L) (h : wpX12_valley_h352 Q v1 I L) : wpX12_valley_h352 Q' v1 I L := by
  unfold wpX12_valley_h352 at h
  refine Lfp.ind (P := fun z => FrI (wsI_X12_valley) (fsI_X12_valley) I0 z.2.1 → FrL (wsL_X12_valley) (fsL_X12_valley) L0 z.2.2 → wpX12_valley_h352 Q' z.1 z.2.1 z.2.2) ?_ h hF hL
  intro z P' hP' h hF hL
  obtain ⟨v1, I, L⟩ := z
  exact wpX12_valley_h352_fold (mnX12_valley_l352 hQ (fun v1 I L hF hL h9 => hP' (v1, I, L) h9 hF hL) hF hL h)
set_option maxRecDepth 10000 in
theorem mnX12_valley_l312 {I0 : Ix} {L0 : Lx} {Q Q' : Int32 → Ix → Lx → Prop} {P312 P312' : Int32 → Ix → Lx → Prop} (hQ : ∀ (r : Int32) (I1 : Ix) (L1 : Lx), FrI (wsI_X12_valley) (fsI_X12_valley) I0 I1 → FrL (wsL_X12_valley) (fsL_X12_valley) L0 L1 → Q r I1 L1 → Q' r I1 L1) (hP312 : ∀ (v1 : Int32) (I1 : Ix) (L1 : Lx), FrI (wsI_X12_valley) (fsI_X12_valley) I0 I1 → FrL (wsL_X12_valley) (fsL_X12_valley) L0 L1 → P312 v1 I1 L1 → P312' v1 I1 L1) {v1 : Int32} {I : Ix} {L : Lx} (hF : FrI (wsI_X12_valley) (fsI_X12_valley) I0 I) (hL : FrL (wsL_X12_valley) (fsL_X12_valley) L0 L) (h : wpX12_valley_l312 Q P312 v1 I L) : wpX12_valley_l312 Q' P312' v1 I L := by
  unfold wpX12_valley_l312 at h ⊢
  refine ⟨fun hc => ?_, fun hc => ?_⟩
  · have h := h.1 hc
    exact mnX12_valley_h352 hQ hF hL h
  · have h := h.2 hc
    refine ⟨h.1, ?_⟩
    have h := h.2
    refine ⟨h.1, ?_⟩
    have h := h.2
    intro I1 eI1
    have h := h I1 eI1
    have hF := hF.pw eI1 (by decide)
    refine ⟨h.1, ?_⟩
    have h := h.2
    refine ⟨h.1, ?_⟩
    have h := h.2
    intro I2 eI2
    have h := h I2 eI2
    have hF := hF.pw eI2 (by decide)
    exact hP312 _ _ _ hF hL h
set_option maxRecDepth 10000 in
theorem mnX12_valley_h312 {I0 : Ix} {L0 : Lx} {Q Q' : Int32 → Ix → Lx → Prop} (hQ : ∀ (r : Int32) (I1 : Ix) (L1 : Lx), FrI (wsI_X12_valley) (fsI_X12_valley) I0 I1 → FrL (wsL_X12_valley) (fsL_X12_valley) L0 L1 → Q r I1 L1 → Q' r I1 L1) {v1 : Int32} {I : Ix} {L : Lx} (hF : FrI (wsI_X12_valley) (fsI_X12_valley) I0 I) (hL : FrL (wsL_X12_valley) (fsL_X12_valley) L0 L) (h : wpX12_valley_h312 Q v1 I L) : wpX12_valley_h312 Q' v1 I L := by
  unfold wpX12_valley_h312 at h
  refine Lfp.ind (P := fun z => FrI (wsI_X12_valley) (fsI_X12_valley) I0 z.2.1 → FrL (wsL_X12_valley) (fsL_X12_valley) L0 z.2.2 → wpX12_valley_h312 Q' z.1 z.2.1 z.2.2) ?_ h hF hL
  intro z P' hP' h hF hL
  obtain ⟨v1, I, L⟩ := z
  exact wpX12_valley_h312_fold (mnX12_valley_l312 hQ (fun v1 I L hF hL h9 => hP' (v1, I, L) h9 hF hL) hF hL h)
set_option maxRecDepth 10000 in
theorem mnX12_valley_l286 {I0 : Ix} {L0 : Lx} {Q Q' : Int32 → Ix → Lx → Prop} {P286 P286' : Int32 → Ix → Lx → Prop} (hQ : ∀ (r : Int32) (I1 : Ix) (L1 : Lx), FrI (wsI_X12_valley) (fsI_X12_valley) I0 I1 → FrL (wsL_X12_valley) (fsL_X12_valley) L0 L1 → Q r I1 L1 → Q' r I1 L1) (hP286 : ∀ (v1 : Int32) (I1 : Ix) (L1 : Lx), FrI (wsI_X12_valley) (fsI_X12_valley) I0 I1 → FrL (wsL_X12_valley) (fsL_X12_valley) L0 L1 → P286 v1 I1 L1 → P286' v1 I1 L1) {v1 : Int32} {I : Ix} {L : Lx} (hF : FrI (wsI_X12_valley) (fsI_X12_valley) I0 I) (hL : FrL (wsL_X12_valley) (fsL_X12_valley) L0 L) (h : wpX12_valley_l286 Q P286 v1 I L) : wpX12_valley_l286 Q' P286' v1 I L := by
  unfold wpX12_valley_l286 at h ⊢
  refine ⟨fun hc => ?_, fun hc => ?_⟩
  · have h := h.1 hc
    exact mnX12_valley_h312 hQ hF hL h
  · have h := h.2 hc
    refine ⟨h.1, ?_⟩
    have h := h.2
    refine ⟨h.1, ?_⟩
    have h := h.2
    intro I1 eI1
    have h := h I1 eI1
    have hF := hF.pw eI1 (by decide)
    exact hP286 _ _ _ hF hL h
set_option maxRecDepth 10000 in
theorem mnX12_valley_h286 {I0 : Ix} {L0 : Lx} {Q Q' : Int32 → Ix → Lx → Prop} (hQ : ∀ (r : Int32) (I1 : Ix) (L1 : Lx), FrI (wsI_X12_valley) (fsI_X12_valley) I0 I1 → FrL (wsL_X12_valley) (fsL_X12_valley) L0 L1 → Q r I1 L1 → Q' r I1 L1) {v1 : Int32} {I : Ix} {L : Lx} (hF : FrI (wsI_X12_valley) (fsI_X12_valley) I0 I) (hL : FrL (wsL_X12_valley) (fsL_X12_valley) L0 L) (h : wpX12_valley_h286 Q v1 I L) : wpX12_valley_h286 Q' v1 I L := by
  unfold wpX12_valley_h286 at h
  refine Lfp.ind (P := fun z => FrI (wsI_X12_valley) (fsI_X12_valley) I0 z.2.1 → FrL (wsL_X12_valley) (fsL_X12_valley) L0 z.2.2 → wpX12_valley_h286 Q' z.1 z.2.1 z.2.2) ?_ h hF hL
  intro z P' hP' h hF hL
  obtain ⟨v1, I, L⟩ := z
  exact wpX12_valley_h286_fold (mnX12_valley_l286 hQ (fun v1 I L hF hL h9 => hP' (v1, I, L) h9 hF hL) hF hL h)
set_option maxRecDepth 10000 in
theorem mnX12_valley_l260 {I0 : Ix} {L0 : Lx} {Q Q' : Int32 → Ix → Lx → Prop} {P260 P260' : Int32 → Ix → Lx → Prop} (hQ : ∀ (r : Int32) (I1 : Ix) (L1 : Lx), FrI (wsI_X12_valley) (fsI_X12_valley) I0 I1 → FrL (wsL_X12_valley) (fsL_X12_valley) L0 L1 → Q r I1 L1 → Q' r I1 L1) (hP260 : ∀ (v1 : Int32) (I1 : Ix) (L1 : Lx), FrI (wsI_X12_valley) (fsI_X12_valley) I0 I1 → FrL (wsL_X12_valley) (fsL_X12_valley) L0 L1 → P260 v1 I1 L1 → P260' v1 I1 L1) {v1 : Int32} {I : Ix} {L : Lx} (hF : FrI (wsI_X12_valley) (fsI_X12_valley) I0 I) (hL : FrL (wsL_X12_valley) (fsL_X12_valley) L0 L) (h : wpX12_valley_l260 Q P260 v1 I L) : wpX12_valley_l260 Q' P260' v1 I L := by
  unfold wpX12_valley_l260 at h ⊢
  refine ⟨fun hc => ?_, fun hc => ?_⟩
  · have h := h.1 hc
    exact mnX12_valley_h286 hQ hF hL h
  · have h := h.2 hc
    refine ⟨h.1, ?_⟩
    have h := h.2
    refine ⟨h.1, ?_⟩
    have h := h.2
    intro I1 eI1
    have h := h I1 eI1
    have hF := hF.pw eI1 (by decide)
    exact hP260 _ _ _ hF hL h
set_option maxRecDepth 10000 in
theorem mnX12_valley_h260 {I0 : Ix} {L0 : Lx} {Q Q' : Int32 → Ix → Lx → Prop} (hQ : ∀ (r : Int32) (I1 : Ix) (L1 : Lx), FrI (wsI_X12_valley) (fsI_X12_valley) I0 I1 → FrL (wsL_X12_valley) (fsL_X12_valley) L0 L1 → Q r I1 L1 → Q' r I1 L1) {v1 : Int32} {I : Ix} {L : Lx} (hF : FrI (wsI_X12_valley) (fsI_X12_valley) I0 I) (hL : FrL (wsL_X12_valley) (fsL_X12_valley) L0 L) (h : wpX12_valley_h260 Q v1 I L) : wpX12_valley_h260 Q' v1 I L := by
  unfold wpX12_valley_h260 at h
  refine Lfp.ind (P := fun z => FrI (wsI_X12_valley) (fsI_X12_valley) I0 z.2.1 → FrL (wsL_X12_valley) (fsL_X12_valley) L0 z.2.2 → wpX12_valley_h260 Q' z.1 z.2.1 z.2.2) ?_ h hF hL
  intro z P' hP' h hF hL
  obtain ⟨v1, I, L⟩ := z
  exact wpX12_valley_h260_fold (mnX12_valley_l260 hQ (fun v1 I L hF hL h9 => hP' (v1, I, L) h9 hF hL) hF hL h)
set_option maxRecDepth 10000 in
theorem mnX12_valley_l234 {I0 : Ix} {L0 : Lx} {Q Q' : Int32 → Ix → Lx → Prop} {P234 P234' : Int32 → Ix → Lx → Prop} (hQ : ∀ (r : Int32) (I1 : Ix) (L1 : Lx), FrI (wsI_X12_valley) (fsI_X12_valley) I0 I1 → FrL (wsL_X12_valley) (fsL_X12_valley) L0 L1 → Q r I1 L1 → Q' r I1 L1) (hP234 : ∀ (v1 : Int32) (I1 : Ix) (L1 : Lx), FrI (wsI_X12_valley) (fsI_X12_valley) I0 I1 → FrL (wsL_X12_valley) (fsL_X12_valley) L0 L1 → P234 v1 I1 L1 → P234' v1 I1 L1) {v1 : Int32} {I : Ix} {L : Lx} (hF : FrI (wsI_X12_valley) (fsI_X12_valley) I0 I) (hL : FrL (wsL_X12_valley) (fsL_X12_valley) L0 L) (h : wpX12_valley_l234 Q P234 v1 I L) : wpX12_valley_l234 Q' P234' v1 I L := by
  unfold wpX12_valley_l234 at h ⊢
  refine ⟨fun hc => ?_, fun hc => ?_⟩
  · have h := h.1 hc
    exact mnX12_valley_h260 hQ hF hL h
  · have h := h.2 hc
    refine ⟨h.1, ?_⟩
    have h := h.2
    refine ⟨h.1, ?_⟩
    have h := h.2
    intro I1 eI1
    have h := h I1 eI1
    have hF := hF.pw eI1 (by decide)
    exact hP234 _ _ _ hF hL h
set_option maxRecDepth 10000 in
theorem mnX12_valley_h234 {I0 : Ix} {L0 : Lx} {Q Q' : Int32 → Ix → Lx → Prop} (hQ : ∀ (r : Int32) (I1 : Ix) (L1 : Lx), FrI (wsI_X12_valley) (fsI_X12_valley) I0 I1 → FrL (wsL_X12_valley) (fsL_X12_valley) L0 L1 → Q r I1 L1 → Q' r I1 L1) {v1 : Int32} {I : Ix} {L : Lx} (hF : FrI (wsI_X12_valley) (fsI_X12_valley) I0 I) (hL : FrL (wsL_X12_valley) (fsL_X12_valley) L0 L) (h : wpX12_valley_h234 Q v1 I L) : wpX12_valley_h234 Q' v1 I L := by
  unfold wpX12_valley_h234 at h
  refine Lfp.ind (P := fun z => FrI (wsI_X12_valley) (fsI_X12_valley) I0 z.2.1 → FrL (wsL_X12_valley) (fsL_X12_valley) L0 z.2.2 → wpX12_valley_h234 Q' z.1 z.2.1 z.2.2) ?_ h hF hL
  intro z P' hP' h hF hL
  obtain ⟨v1, I, L⟩ := z
  exact wpX12_valley_h234_fold (mnX12_valley_l234 hQ (fun v1 I L hF hL h9 => hP' (v1, I, L) h9 hF hL) hF hL h)
set_option maxRecDepth 10000 in
theorem mnX12_valley_l208 {I0 : Ix} {L0 : Lx} {Q Q' : Int32 → Ix → Lx → Prop} {P208 P208' : Int32 → Ix → Lx → Prop} (hQ : ∀ (r : Int32) (I1 : Ix) (L1 : Lx), FrI (wsI_X12_valley) (fsI_X12_valley) I0 I1 → FrL (wsL_X12_valley) (fsL_X12_valley) L0 L1 → Q r I1 L1 → Q' r I1 L1) (hP208 : ∀ (v1 : Int32) (I1 : Ix) (L1 : Lx), FrI (wsI_X12_valley) (fsI_X12_valley) I0 I1 → FrL (wsL_X12_valley) (fsL_X12_valley) L0 L1 → P208 v1 I1 L1 → P208' v1 I1 L1) {v1 : Int32} {I : Ix} {L : Lx} (hF : FrI (wsI_X12_valley) (fsI_X12_valley) I0 I) (hL : FrL (wsL_X12_valley) (fsL_X12_valley) L0 L) (h : wpX12_valley_l208 Q P208 v1 I L) : wpX12_valley_l208 Q' P208' v1 I L := by
  unfold wpX12_valley_l208 at h ⊢
  refine ⟨fun hc => ?_, fun hc => ?_⟩
  · have h := h.1 hc
    exact mnX12_valley_h234 hQ hF hL h
  · have h := h.2 hc
    refine ⟨h.1, ?_⟩
    have h := h.2
    refine ⟨h.1, ?_⟩
    have h := h.2
    intro I1 eI1
    have h := h I1 eI1
    have hF := hF.pw eI1 (by decide)
    exact hP208 _ _ _ hF hL h
set_option maxRecDepth 10000 in
theorem mnX12_valley_h208 {I0 : Ix} {L0 : Lx} {Q Q' : Int32 → Ix → Lx → Prop} (hQ : ∀ (r : Int32) (I1 : Ix) (L1 : Lx), FrI (wsI_X12_valley) (fsI_X12_valley) I0 I1 → FrL (wsL_X12_valley) (fsL_X12_valley) L0 L1 → Q r I1 L1 → Q' r I1 L1) {v1 : Int32} {I : Ix} {L : Lx} (hF : FrI (wsI_X12_valley) (fsI_X12_valley) I0 I) (hL : FrL (wsL_X12_valley) (fsL_X12_valley) L0 L) (h : wpX12_valley_h208 Q v1 I L) : wpX12_valley_h208 Q' v1 I L := by
  unfold wpX12_valley_h208 at h
  refine Lfp.ind (P := fun z => FrI (wsI_X12_valley) (fsI_X12_valley) I0 z.2.1 → FrL (wsL_X12_valley) (fsL_X12_valley) L0 z.2.2 → wpX12_valley_h208 Q' z.1 z.2.1 z.2.2) ?_ h hF hL
  intro z P' hP' h hF hL
  obtain ⟨v1, I, L⟩ := z
  exact wpX12_valley_h208_fold (mnX12_valley_l208 hQ (fun v1 I L hF hL h9 => hP' (v1, I, L) h9 hF hL) hF hL h)
set_option maxRecDepth 10000 in
theorem mnX12_valley_b141 {I0 : Ix} {L0 : Lx} {Q Q' : Int32 → Ix → Lx → Prop} (hQ : ∀ (r : Int32) (I1 : Ix) (L1 : Lx), FrI (wsI_X12_valley) (fsI_X12_valley) I0 I1 → FrL (wsL_X12_valley) (fsL_X12_valley) L0 L1 → Q r I1 L1 → Q' r I1 L1) {I : Ix} {L : Lx} (hF : FrI (wsI_X12_valley) (fsI_X12_valley) I0 I) (hL : FrL (wsL_X12_valley) (fsL_X12_valley) L0 L) (h : wpX12_valley_b141 Q I L) : wpX12_valley_b141 Q' I L := by
  unfold wpX12_valley_b141 at h ⊢
  refine ⟨fun hc => ?_, fun hc => ?_⟩
  · have h := h.1 hc
    intro I1 eI1
    have h := h I1 eI1
    have hF := hF.pf eI1 (by decide)
    intro I2 eI2
    have h := h I2 eI2
    have hF := hF.pf eI2 (by decide)
    intro I3 eI3
    have h := h I3 eI3
    have hF := hF.pf eI3 (by decide)
    intro I4 eI4
    have h := h I4 eI4
    have hF := hF.pf eI4 (by decide)
    intro I5 eI5
    have h := h I5 eI5
    have hF := hF.pf eI5 (by decide)
    intro I6 eI6
    have h := h I6 eI6
    have hF := hF.pf eI6 (by decide)
    intro I7 eI7
    have h := h I7 eI7
    have hF := hF.pf eI7 (by decide)
    exact mnX12_valley_h208 hQ hF hL h
  · have h := h.2 hc
    exact hQ _ _ _ hF hL h
set_option maxRecDepth 10000 in
theorem mnX12_valley_l120 {I0 : Ix} {L0 : Lx} {Q Q' : Int32 → Ix → Lx → Prop} {P120 P120' : Ix → Lx → Prop} (hQ : ∀ (r : Int32) (I1 : Ix) (L1 : Lx), FrI (wsI_X12_valley) (fsI_X12_valley) I0 I1 → FrL (wsL_X12_valley) (fsL_X12_valley) L0 L1 → Q r I1 L1 → Q' r I1 L1) (hP120 : ∀ (I1 : Ix) (L1 : Lx), FrI (wsI_X12_valley) (fsI_X12_valley) I0 I1 → FrL (wsL_X12_valley) (fsL_X12_valley) L0 L1 → P120 I1 L1 → P120' I1 L1) {I : Ix} {L : Lx} (hF : FrI (wsI_X12_valley) (fsI_X12_valley) I0 I) (hL : FrL (wsL_X12_valley) (fsL_X12_valley) L0 L) (h : wpX12_valley_l120 Q P120 I L) : wpX12_valley_l120 Q' P120' I L := by
  unfold wpX12_valley_l120 at h ⊢
  refine ⟨fun hc => ?_, fun hc => ?_⟩
  · have h := h.1 hc
    exact mnX12_valley_b141 hQ hF hL h
  · have h := h.2 hc
    refine ⟨fun hc => ?_, fun hc => ?_⟩
    · have h := h.1 hc
      exact mnX12_valley_b141 hQ hF hL h
    · have h := h.2 hc
      refine mnX12_readLine (fun I1 L2 hf hl h => ?_) h
      have hF := hF.tr hf (by decide) (by decide)
      have hL := hL.tr hl (by decide) (by decide)
      exact hP120 _ _ hF hL h
set_option maxRecDepth 10000 in
theorem mnX12_valley_h120 {I0 : Ix} {L0 : Lx} {Q Q' : Int32 → Ix → Lx → Prop} (hQ : ∀ (r : Int32) (I1 : Ix) (L1 : Lx), FrI (wsI_X12_valley) (fsI_X12_valley) I0 I1 → FrL (wsL_X12_valley) (fsL_X12_valley) L0 L1 → Q r I1 L1 → Q' r I1 L1) {I : Ix} {L : Lx} (hF : FrI (wsI_X12_valley) (fsI_X12_valley) I0 I) (hL : FrL (wsL_X12_valley) (fsL_X12_valley) L0 L) (h : wpX12_valley_h120 Q I L) : wpX12_valley_h120 Q' I L := by
  unfold wpX12_valley_h120 at h
  refine Lfp.ind (P := fun z => FrI (wsI_X12_valley) (fsI_X12_valley) I0 z.1 → FrL (wsL_X12_valley) (fsL_X12_valley) L0 z.2 → wpX12_valley_h120 Q' z.1 z.2) ?_ h hF hL
  intro z P' hP' h hF hL
  obtain ⟨I, L⟩ := z
  exact wpX12_valley_h120_fold (mnX12_valley_l120 hQ (fun I L hF hL h9 => hP' (I, L) h9 hF hL) hF hL h)
set_option maxRecDepth 10000 in
theorem mnX12_valley_b109 {I0 : Ix} {L0 : Lx} {Q Q' : Int32 → Ix → Lx → Prop} {P80 P80' : Int32 → Ix → Lx → Prop} (hQ : ∀ (r : Int32) (I1 : Ix) (L1 : Lx), FrI (wsI_X12_valley) (fsI_X12_valley) I0 I1 → FrL (wsL_X12_valley) (fsL_X12_valley) L0 L1 → Q r I1 L1 → Q' r I1 L1) (hP80 : ∀ (v1 : Int32) (I1 : Ix) (L1 : Lx), FrI (wsI_X12_valley) (fsI_X12_valley) I0 I1 → FrL (wsL_X12_valley) (fsL_X12_valley) L0 L1 → P80 v1 I1 L1 → P80' v1 I1 L1) {v1 : Int32} {t1 : Int32} {t2 : Int32} {I : Ix} {L : Lx} (hF : FrI (wsI_X12_valley) (fsI_X12_valley) I0 I) (hL : FrL (wsL_X12_valley) (fsL_X12_valley) L0 L) (h : wpX12_valley_b109 Q P80 v1 t1 t2 I L) : wpX12_valley_b109 Q' P80' v1 t1 t2 I L := by
  unfold wpX12_valley_b109 at h ⊢
  refine ⟨h.1, ?_⟩
  have h := h.2
  intro I1 eI1
  have h := h I1 eI1
  have hF := hF.pw eI1 (by decide)
  exact hP80 _ _ _ hF hL h
set_option maxRecDepth 10000 in
theorem mnX12_valley_l80 {I0 : Ix} {L0 : Lx} {Q Q' : Int32 → Ix → Lx → Prop} {P80 P80' : Int32 → Ix → Lx → Prop} (hQ : ∀ (r : Int32) (I1 : Ix) (L1 : Lx), FrI (wsI_X12_valley) (fsI_X12_valley) I0 I1 → FrL (wsL_X12_valley) (fsL_X12_valley) L0 L1 → Q r I1 L1 → Q' r I1 L1) (hP80 : ∀ (v1 : Int32) (I1 : Ix) (L1 : Lx), FrI (wsI_X12_valley) (fsI_X12_valley) I0 I1 → FrL (wsL_X12_valley) (fsL_X12_valley) L0 L1 → P80 v1 I1 L1 → P80' v1 I1 L1) {v1 : Int32} {I : Ix} {L : Lx} (hF : FrI (wsI_X12_valley) (fsI_X12_valley) I0 I) (hL : FrL (wsL_X12_valley) (fsL_X12_valley) L0 L) (h : wpX12_valley_l80 Q P80 v1 I L) : wpX12_valley_l80 Q' P80' v1 I L := by
  unfold wpX12_valley_l80 at h ⊢
  refine ⟨fun hc => ?_, fun hc => ?_⟩
  · have h := h.1 hc
    refine mnX12_token (fun I1 L2 hf hl h => ?_) h
    have hF := hF.tr hf (by decide) (by decide)
    have hL := hL.tr hl (by decide) (by decide)
    exact mnX12_valley_h120 hQ hF hL h
  · have h := h.2 hc
    refine ⟨fun hc => ?_, fun hc => ?_⟩
    · have h := h.1 hc
      exact mnX12_valley_b109 hQ hP80 hF hL h
    · have h := h.2 hc
      exact mnX12_valley_b109 hQ hP80 hF hL h
set_option maxRecDepth 10000 in
theorem mnX12_valley_h80 {I0 : Ix} {L0 : Lx} {Q Q' : Int32 → Ix → Lx → Prop} (hQ : ∀ (r : Int32) (I1 : Ix) (L1 : Lx), FrI (wsI_X12_valley) (fsI_X12_valley) I0 I1 → FrL (wsL_X12_valley) (fsL_X12_valley) L0 L1 → Q r I1 L1 → Q' r I1 L1) {v1 : Int32} {I : Ix} {L : Lx} (hF : FrI (wsI_X12_valley) (fsI_X12_valley) I0 I) (hL : FrL (wsL_X12_valley) (fsL_X12_valley) L0 L) (h : wpX12_valley_h80 Q v1 I L) : wpX12_valley_h80 Q' v1 I L := by
  unfold wpX12_valley_h80 at h
  refine Lfp.ind (P := fun z => FrI (wsI_X12_valley) (fsI_X12_valley) I0 z.2.1 → FrL (wsL_X12_valley) (fsL_X12_valley) L0 z.2.2 → wpX12_valley_h80 Q' z.1 z.2.1 z.2.2) ?_ h hF hL
  intro z P' hP' h hF hL
  obtain ⟨v1, I, L⟩ := z
  exact wpX12_valley_h80_fold (mnX12_valley_l80 hQ (fun v1 I L hF hL h9 => hP' (v1, I, L) h9 hF hL) hF hL h)
set_option maxRecDepth 10000 in
theorem mnX12_valley {I : Ix} {L : Lx} {Q Q' : Int32 → Ix → Lx → Prop} (hQ : ∀ (r : Int32) (I1 : Ix) (L1 : Lx), FrI (wsI_X12_valley) (fsI_X12_valley) I I1 → FrL (wsL_X12_valley) (fsL_X12_valley) L L1 → Q r I1 L1 → Q' r I1 L1) (h : wpX12_valley I L Q) : wpX12_valley I L Q' := by
  have hF : FrI (wsI_X12_valley) (fsI_X12_valley) I I := FrI.rf
  have hL : FrL (wsL_X12_valley) (fsL_X12_valley) L L := FrL.rf
  unfold wpX12_valley at h ⊢
  intro I1 eI1
  have h := h I1 eI1
  have hF := hF.pf eI1 (by decide)
  intro I2 eI2
  have h := h I2 eI2
  have hF := hF.pf eI2 (by decide)
  intro I3 eI3
  have h := h I3 eI3
  have hF := hF.pf eI3 (by decide)
  intro I4 eI4
  have h := h I4 eI4
  have hF := hF.pf eI4 (by decide)
  intro I5 eI5
  have h := h I5 eI5
  have hF := hF.pf eI5 (by decide)
  intro I6 eI6
  have h := h I6 eI6
  have hF := hF.pf eI6 (by decide)
  intro I7 eI7
  have h := h I7 eI7
  have hF := hF.pf eI7 (by decide)
  intro I8 eI8
  have h := h I8 eI8
  have hF := hF.pf eI8 (by decide)
  intro I9 eI9
  have h := h I9 eI9
  have hF := hF.pf eI9 (by decide)
  intro I10 eI10
  have h := h I10 eI10
  have hF := hF.pf eI10 (by decide)
  intro I11 eI11
  have h := h I11 eI11
  have hF := hF.pf eI11 (by decide)
  intro I12 eI12
  have h := h I12 eI12
  have hF := hF.pf eI12 (by decide)
  intro I13 eI13
  have h := h I13 eI13
  have hF := hF.pf eI13 (by decide)
  intro I14 eI14
  have h := h I14 eI14
  have hF := hF.pf eI14 (by decide)
  intro I15 eI15
  have h := h I15 eI15
  have hF := hF.pf eI15 (by decide)
  exact mnX12_valley_h80 hQ hF hL h
abbrev wsI_X12_fault : List Nat := []
abbrev wsL_X12_fault : List Nat := []
abbrev fsI_X12_fault : List (Nat × Nat) := []
abbrev fsL_X12_fault : List (Nat × Nat) := []
set_option maxRecDepth 10000 in
theorem mnX12_fault {a1 : Int32} {I : Ix} {L : Lx} {Q Q' : Int32 → Ix → Lx → Prop} (hQ : ∀ (r : Int32) (I1 : Ix) (L1 : Lx), FrI (wsI_X12_fault) (fsI_X12_fault) I I1 → FrL (wsL_X12_fault) (fsL_X12_fault) L L1 → Q r I1 L1 → Q' r I1 L1) (h : wpX12_fault a1 I L Q) : wpX12_fault a1 I L Q' := by
  have hF : FrI (wsI_X12_fault) (fsI_X12_fault) I I := FrI.rf
  have hL : FrL (wsL_X12_fault) (fsL_X12_fault) L L := FrL.rf
  unfold wpX12_fault at h ⊢
  refine ⟨fun hc => ?_, fun hc => ?_⟩
  · have h := h.1 hc
    refine ⟨fun hc => ?_, fun hc => ?_⟩
    · have h := h.1 hc
      exact hQ _ _ _ hF hL h
    · have h := h.2 hc
      exact hQ _ _ _ hF hL h
  · have h := h.2 hc
    exact hQ _ _ _ hF hL h
abbrev wsI_X12_isPlace : List Nat := []
abbrev wsL_X12_isPlace : List Nat := []
abbrev fsI_X12_isPlace : List (Nat × Nat) := []
abbrev fsL_X12_isPlace : List (Nat × Nat) := []
set_option maxRecDepth 10000 in
theorem mnX12_isPlace {a1 : Int32} {I : Ix} {L : Lx} {Q Q' : Bool → Ix → Lx → Prop} (hQ : ∀ (r : Bool) (I1 : Ix) (L1 : Lx), FrI (wsI_X12_isPlace) (fsI_X12_isPlace) I I1 → FrL (wsL_X12_isPlace) (fsL_X12_isPlace) L L1 → Q r I1 L1 → Q' r I1 L1) (h : wpX12_isPlace a1 I L Q) : wpX12_isPlace a1 I L Q' := by
  have hF : FrI (wsI_X12_isPlace) (fsI_X12_isPlace) I I := FrI.rf
  have hL : FrL (wsL_X12_isPlace) (fsL_X12_isPlace) L L := FrL.rf
  unfold wpX12_isPlace at h ⊢
  refine ⟨fun hc => ?_, fun hc => ?_⟩
  · have h := h.1 hc
    exact hQ _ _ _ hF hL h
  · have h := h.2 hc
    refine ⟨fun hc => ?_, fun hc => ?_⟩
    · have h := h.1 hc
      exact hQ _ _ _ hF hL h
    · have h := h.2 hc
      exact hQ _ _ _ hF hL h
abbrev wsI_X12_farOf : List Nat := []
abbrev wsL_X12_farOf : List Nat := []
abbrev fsI_X12_farOf : List (Nat × Nat) := []
abbrev fsL_X12_farOf : List (Nat × Nat) := []
set_option maxRecDepth 10000 in
theorem mnX12_farOf {a1 : Int32} {a2 : Int32} {I : Ix} {L : Lx} {Q Q' : Int32 → Ix → Lx → Prop} (hQ : ∀ (r : Int32) (I1 : Ix) (L1 : Lx), FrI (wsI_X12_farOf) (fsI_X12_farOf) I I1 → FrL (wsL_X12_farOf) (fsL_X12_farOf) L L1 → Q r I1 L1 → Q' r I1 L1) (h : wpX12_farOf a1 a2 I L Q) : wpX12_farOf a1 a2 I L Q' := by
  have hF : FrI (wsI_X12_farOf) (fsI_X12_farOf) I I := FrI.rf
  have hL : FrL (wsL_X12_farOf) (fsL_X12_farOf) L L := FrL.rf
  unfold wpX12_farOf at h ⊢
  refine ⟨h.1, ?_⟩
  have h := h.2
  exact hQ _ _ _ hF hL h
abbrev wsI_X12_far : List Nat := []
abbrev wsL_X12_far : List Nat := []
abbrev fsI_X12_far : List (Nat × Nat) := []
abbrev fsL_X12_far : List (Nat × Nat) := []
set_option maxRecDepth 10000 in
theorem mnX12_far {a1 : Int32} {a2 : Int32} {I : Ix} {L : Lx} {Q Q' : Int32 → Ix → Lx → Prop} (hQ : ∀ (r : Int32) (I1 : Ix) (L1 : Lx), FrI (wsI_X12_far) (fsI_X12_far) I I1 → FrL (wsL_X12_far) (fsL_X12_far) L L1 → Q r I1 L1 → Q' r I1 L1) (h : wpX12_far a1 a2 I L Q) : wpX12_far a1 a2 I L Q' := by
  have hF : FrI (wsI_X12_far) (fsI_X12_far) I I := FrI.rf
  have hL : FrL (wsL_X12_far) (fsL_X12_far) L L := FrL.rf
  unfold wpX12_far at h ⊢
  refine mnX12_isPlace (fun r3 I1 L2 hf hl h => ?_) h
  have hF := hF.tr hf (by decide) (by decide)
  have hL := hL.tr hl (by decide) (by decide)
  refine ⟨fun hc => ?_, fun hc => ?_⟩
  · have h := h.1 hc
    exact hQ _ _ _ hF hL h
  · have h := h.2 hc
    refine mnX12_isPlace (fun r6 I4 L5 hf hl h => ?_) h
    have hF := hF.tr hf (by decide) (by decide)
    have hL := hL.tr hl (by decide) (by decide)
    refine ⟨fun hc => ?_, fun hc => ?_⟩
    · have h := h.1 hc
      exact hQ _ _ _ hF hL h
    · have h := h.2 hc
      refine mnX12_farOf (fun r9 I7 L8 hf hl h => ?_) h
      have hF := hF.tr hf (by decide) (by decide)
      have hL := hL.tr hl (by decide) (by decide)
      exact hQ _ _ _ hF hL h
abbrev wsI_X12_allMade : List Nat := []
abbrev wsL_X12_allMade : List Nat := []
abbrev fsI_X12_allMade : List (Nat × Nat) := []
abbrev fsL_X12_allMade : List (Nat × Nat) := []
set_option maxRecDepth 10000 in
theorem mnX12_allMade_l4 {I0 : Ix} {L0 : Lx} {Q Q' : Int32 → Ix → Lx → Prop} {P4 P4' : Int32 → Int32 → Ix → Lx → Prop} (hQ : ∀ (r : Int32) (I1 : Ix) (L1 : Lx), FrI (wsI_X12_allMade) (fsI_X12_allMade) I0 I1 → FrL (wsL_X12_allMade) (fsL_X12_allMade) L0 L1 → Q r I1 L1 → Q' r I1 L1) (hP4 : ∀ (v1 : Int32) (v2 : Int32) (I1 : Ix) (L1 : Lx), FrI (wsI_X12_allMade) (fsI_X12_allMade) I0 I1 → FrL (wsL_X12_allMade) (fsL_X12_allMade) L0 L1 → P4 v1 v2 I1 L1 → P4' v1 v2 I1 L1) {v1 : Int32} {v2 : Int32} {I : Ix} {L : Lx} (hF : FrI (wsI_X12_allMade) (fsI_X12_allMade) I0 I) (hL : FrL (wsL_X12_allMade) (fsL_X12_allMade) L0 L) (h : wpX12_allMade_l4 Q P4 v1 v2 I L) : wpX12_allMade_l4 Q' P4' v1 v2 I L := by
  unfold wpX12_allMade_l4 at h ⊢
  refine ⟨fun hc => ?_, fun hc => ?_⟩
  · have h := h.1 hc
    exact hQ _ _ _ hF hL h
  · have h := h.2 hc
    refine ⟨h.1, ?_⟩
    have h := h.2
    exact hP4 _ _ _ _ hF hL h
set_option maxRecDepth 10000 in
theorem mnX12_allMade_h4 {I0 : Ix} {L0 : Lx} {Q Q' : Int32 → Ix → Lx → Prop} (hQ : ∀ (r : Int32) (I1 : Ix) (L1 : Lx), FrI (wsI_X12_allMade) (fsI_X12_allMade) I0 I1 → FrL (wsL_X12_allMade) (fsL_X12_allMade) L0 L1 → Q r I1 L1 → Q' r I1 L1) {v1 : Int32} {v2 : Int32} {I : Ix} {L : Lx} (hF : FrI (wsI_X12_allMade) (fsI_X12_allMade) I0 I) (hL : FrL (wsL_X12_allMade) (fsL_X12_allMade) L0 L) (h : wpX12_allMade_h4 Q v1 v2 I L) : wpX12_allMade_h4 Q' v1 v2 I L := by
  unfold wpX12_allMade_h4 at h
  refine Lfp.ind (P := fun z => FrI (wsI_X12_allMade) (fsI_X12_allMade) I0 z.2.2.1 → FrL (wsL_X12_allMade) (fsL_X12_allMade) L0 z.2.2.2 → wpX12_allMade_h4 Q' z.1 z.2.1 z.2.2.1 z.2.2.2) ?_ h hF hL
  intro z P' hP' h hF hL
  obtain ⟨v1, v2, I, L⟩ := z
  exact wpX12_allMade_h4_fold (mnX12_allMade_l4 hQ (fun v1 v2 I L hF hL h9 => hP' (v1, v2, I, L) h9 hF hL) hF hL h)
set_option maxRecDepth 10000 in
theorem mnX12_allMade {I : Ix} {L : Lx} {Q Q' : Int32 → Ix → Lx → Prop} (hQ : ∀ (r : Int32) (I1 : Ix) (L1 : Lx), FrI (wsI_X12_allMade) (fsI_X12_allMade) I I1 → FrL (wsL_X12_allMade) (fsL_X12_allMade) L L1 → Q r I1 L1 → Q' r I1 L1) (h : wpX12_allMade I L Q) : wpX12_allMade I L Q' := by
  have hF : FrI (wsI_X12_allMade) (fsI_X12_allMade) I I := FrI.rf
  have hL : FrL (wsL_X12_allMade) (fsL_X12_allMade) L L := FrL.rf
  unfold wpX12_allMade at h ⊢
  exact mnX12_allMade_h4 hQ hF hL h
abbrev wsI_X12_placeOf : List Nat := []
abbrev wsL_X12_placeOf : List Nat := []
abbrev fsI_X12_placeOf : List (Nat × Nat) := []
abbrev fsL_X12_placeOf : List (Nat × Nat) := []
set_option maxRecDepth 10000 in
theorem mnX12_placeOf {a1 : Int32} {I : Ix} {L : Lx} {Q Q' : Int32 → Ix → Lx → Prop} (hQ : ∀ (r : Int32) (I1 : Ix) (L1 : Lx), FrI (wsI_X12_placeOf) (fsI_X12_placeOf) I I1 → FrL (wsL_X12_placeOf) (fsL_X12_placeOf) L L1 → Q r I1 L1 → Q' r I1 L1) (h : wpX12_placeOf a1 I L Q) : wpX12_placeOf a1 I L Q' := by
  have hF : FrI (wsI_X12_placeOf) (fsI_X12_placeOf) I I := FrI.rf
  have hL : FrL (wsL_X12_placeOf) (fsL_X12_placeOf) L L := FrL.rf
  unfold wpX12_placeOf at h ⊢
  refine ⟨h.1, ?_⟩
  have h := h.2
  exact hQ _ _ _ hF hL h
abbrev wsI_X12_worked : List Nat := []
abbrev wsL_X12_worked : List Nat := []
abbrev fsI_X12_worked : List (Nat × Nat) := []
abbrev fsL_X12_worked : List (Nat × Nat) := []
set_option maxRecDepth 10000 in
theorem mnX12_worked_b56 {I0 : Ix} {L0 : Lx} {Q Q' : Int32 → Ix → Lx → Prop} (hQ : ∀ (r : Int32) (I1 : Ix) (L1 : Lx), FrI (wsI_X12_worked) (fsI_X12_worked) I0 I1 → FrL (wsL_X12_worked) (fsL_X12_worked) L0 L1 → Q r I1 L1 → Q' r I1 L1) {I : Ix} {L : Lx} (hF : FrI (wsI_X12_worked) (fsI_X12_worked) I0 I) (hL : FrL (wsL_X12_worked) (fsL_X12_worked) L0 L) (h : wpX12_worked_b56 Q I L) : wpX12_worked_b56 Q' I L := by
  unfold wpX12_worked_b56 at h ⊢
  exact hQ _ _ _ hF hL h
set_option maxRecDepth 10000 in
theorem mnX12_worked {a0 : Int32} {a1 : Int32} {a2 : Int32} {I : Ix} {L : Lx} {Q Q' : Int32 → Ix → Lx → Prop} (hQ : ∀ (r : Int32) (I1 : Ix) (L1 : Lx), FrI (wsI_X12_worked) (fsI_X12_worked) I I1 → FrL (wsL_X12_worked) (fsL_X12_worked) L L1 → Q r I1 L1 → Q' r I1 L1) (h : wpX12_worked a0 a1 a2 I L Q) : wpX12_worked a0 a1 a2 I L Q' := by
  have hF : FrI (wsI_X12_worked) (fsI_X12_worked) I I := FrI.rf
  have hL : FrL (wsL_X12_worked) (fsL_X12_worked) L L := FrL.rf
  unfold wpX12_worked at h ⊢
  refine ⟨fun hc => ?_, fun hc => ?_, fun hc => ?_, fun hc => ?_, fun hc => ?_, fun hc => ?_, fun hc => ?_, ?_⟩
  · have h := h.1 hc
    refine ⟨fun hc => ?_, fun hc => ?_⟩
    · have h := h.1 hc
      exact mnX12_worked_b56 hQ hF hL h
    · have h := h.2 hc
      refine ⟨fun hc => ?_, fun hc => ?_⟩
      · have h := h.1 hc
        exact hQ _ _ _ hF hL h
      · have h := h.2 hc
        exact mnX12_worked_b56 hQ hF hL h
  · have h := h.2.1 hc
    refine ⟨fun hc => ?_, fun hc => ?_⟩
    · have h := h.1 hc
      exact hQ _ _ _ hF hL h
    · have h := h.2 hc
      refine ⟨fun hc => ?_, fun hc => ?_⟩
      · have h := h.1 hc
        exact hQ _ _ _ hF hL h
      · have h := h.2 hc
        exact hQ _ _ _ hF hL h
  · have h := h.2.2.1 hc
    refine ⟨fun hc => ?_, fun hc => ?_⟩
    · have h := h.1 hc
      exact hQ _ _ _ hF hL h
    · have h := h.2 hc
      exact hQ _ _ _ hF hL h
  · have h := h.2.2.2.1 hc
    refine ⟨fun hc => ?_, fun hc => ?_⟩
    · have h := h.1 hc
      exact hQ _ _ _ hF hL h
    · have h := h.2 hc
      exact hQ _ _ _ hF hL h
  · have h := h.2.2.2.2.1 hc
    refine ⟨fun hc => ?_, fun hc => ?_⟩
    · have h := h.1 hc
      exact hQ _ _ _ hF hL h
    · have h := h.2 hc
      exact hQ _ _ _ hF hL h
  · have h := h.2.2.2.2.2.1 hc
    exact hQ _ _ _ hF hL h
  · have h := h.2.2.2.2.2.2.1 hc
    exact hQ _ _ _ hF hL h
  · intro e0 e1 e2 e3 e4 e5 e6
    have h := h.2.2.2.2.2.2.2 e0 e1 e2 e3 e4 e5 e6
    exact hQ _ _ _ hF hL h
abbrev wsI_X12_forceOf : List Nat := []
abbrev wsL_X12_forceOf : List Nat := []
abbrev fsI_X12_forceOf : List (Nat × Nat) := []
abbrev fsL_X12_forceOf : List (Nat × Nat) := []
set_option maxRecDepth 10000 in
theorem mnX12_forceOf {a1 : Int32} {I : Ix} {L : Lx} {Q Q' : Int32 → Ix → Lx → Prop} (hQ : ∀ (r : Int32) (I1 : Ix) (L1 : Lx), FrI (wsI_X12_forceOf) (fsI_X12_forceOf) I I1 → FrL (wsL_X12_forceOf) (fsL_X12_forceOf) L L1 → Q r I1 L1 → Q' r I1 L1) (h : wpX12_forceOf a1 I L Q) : wpX12_forceOf a1 I L Q' := by
  have hF : FrI (wsI_X12_forceOf) (fsI_X12_forceOf) I I := FrI.rf
  have hL : FrL (wsL_X12_forceOf) (fsL_X12_forceOf) L L := FrL.rf
  unfold wpX12_forceOf at h ⊢
  refine ⟨h.1, ?_⟩
  have h := h.2
  exact hQ _ _ _ hF hL h
abbrev wsI_X12_heavyOf : List Nat := []
abbrev wsL_X12_heavyOf : List Nat := []
abbrev fsI_X12_heavyOf : List (Nat × Nat) := []
abbrev fsL_X12_heavyOf : List (Nat × Nat) := []
set_option maxRecDepth 10000 in
theorem mnX12_heavyOf {a1 : Int32} {I : Ix} {L : Lx} {Q Q' : Int32 → Ix → Lx → Prop} (hQ : ∀ (r : Int32) (I1 : Ix) (L1 : Lx), FrI (wsI_X12_heavyOf) (fsI_X12_heavyOf) I I1 → FrL (wsL_X12_heavyOf) (fsL_X12_heavyOf) L L1 → Q r I1 L1 → Q' r I1 L1) (h : wpX12_heavyOf a1 I L Q) : wpX12_heavyOf a1 I L Q' := by
  have hF : FrI (wsI_X12_heavyOf) (fsI_X12_heavyOf) I I := FrI.rf
  have hL : FrL (wsL_X12_heavyOf) (fsL_X12_heavyOf) L L := FrL.rf
  unfold wpX12_heavyOf at h ⊢
  refine ⟨h.1, ?_⟩
  have h := h.2
  exact hQ _ _ _ hF hL h
abbrev wsI_X12_asksOf : List Nat := [129, 130]
abbrev wsL_X12_asksOf : List Nat := []
abbrev fsI_X12_asksOf : List (Nat × Nat) := []
abbrev fsL_X12_asksOf : List (Nat × Nat) := []
set_option maxRecDepth 10000 in
theorem mnX12_asksOf_b281 {I0 : Ix} {L0 : Lx} {Q Q' : Int32 → Ix → Lx → Prop} {P174 P174' : Int32 → Int32 → Int32 → Ix → Lx → Prop} (hQ : ∀ (r : Int32) (I1 : Ix) (L1 : Lx), FrI (wsI_X12_asksOf) (fsI_X12_asksOf) I0 I1 → FrL (wsL_X12_asksOf) (fsL_X12_asksOf) L0 L1 → Q r I1 L1 → Q' r I1 L1) (hP174 : ∀ (v1 : Int32) (v4 : Int32) (v5 : Int32) (I1 : Ix) (L1 : Lx), FrI (wsI_X12_asksOf) (fsI_X12_asksOf) I0 I1 → FrL (wsL_X12_asksOf) (fsL_X12_asksOf) L0 L1 → P174 v1 v4 v5 I1 L1 → P174' v1 v4 v5 I1 L1) {v1 : Int32} {v4 : Int32} {v5 : Int32} {t1 : Int32} {t2 : Int32} {I : Ix} {L : Lx} (hF : FrI (wsI_X12_asksOf) (fsI_X12_asksOf) I0 I) (hL : FrL (wsL_X12_asksOf) (fsL_X12_asksOf) L0 L) (h : wpX12_asksOf_b281 Q P174 v1 v4 v5 t1 t2 I L) : wpX12_asksOf_b281 Q' P174' v1 v4 v5 t1 t2 I L := by
  unfold wpX12_asksOf_b281 at h ⊢
  refine ⟨h.1, ?_⟩
  have h := h.2
  intro I1 eI1
  have h := h I1 eI1
  have hF := hF.pw eI1 (by decide)
  exact hP174 _ _ _ _ _ hF hL h
set_option maxRecDepth 10000 in
theorem mnX12_asksOf_b237 {I0 : Ix} {L0 : Lx} {Q Q' : Int32 → Ix → Lx → Prop} {P174 P174' : Int32 → Int32 → Int32 → Ix → Lx → Prop} (hQ : ∀ (r : Int32) (I1 : Ix) (L1 : Lx), FrI (wsI_X12_asksOf) (fsI_X12_asksOf) I0 I1 → FrL (wsL_X12_asksOf) (fsL_X12_asksOf) L0 L1 → Q r I1 L1 → Q' r I1 L1) (hP174 : ∀ (v1 : Int32) (v4 : Int32) (v5 : Int32) (I1 : Ix) (L1 : Lx), FrI (wsI_X12_asksOf) (fsI_X12_asksOf) I0 I1 → FrL (wsL_X12_asksOf) (fsL_X12_asksOf) L0 L1 → P174 v1 v4 v5 I1 L1 → P174' v1 v4 v5 I1 L1) {v1 : Int32} {v4 : Int32} {v5 : Int32} {t1 : Int32} {t2 : Int32} {I : Ix} {L : Lx} (hF : FrI (wsI_X12_asksOf) (fsI_X12_asksOf) I0 I) (hL : FrL (wsL_X12_asksOf) (fsL_X12_asksOf) L0 L) (h : wpX12_asksOf_b237 Q P174 v1 v4 v5 t1 t2 I L) : wpX12_asksOf_b237 Q' P174' v1 v4 v5 t1 t2 I L := by
  unfold wpX12_asksOf_b237 at h ⊢
  refine ⟨h.1, ?_⟩
  have h := h.2
  intro I1 eI1
  have h := h I1 eI1
  have hF := hF.pw eI1 (by decide)
  exact hP174 _ _ _ _ _ hF hL h
set_option maxRecDepth 10000 in
theorem mnX12_asksOf_l174 {I0 : Ix} {L0 : Lx} {Q Q' : Int32 → Ix → Lx → Prop} {P174 P174' : Int32 → Int32 → Int32 → Ix → Lx → Prop} (hQ : ∀ (r : Int32) (I1 : Ix) (L1 : Lx), FrI (wsI_X12_asksOf) (fsI_X12_asksOf) I0 I1 → FrL (wsL_X12_asksOf) (fsL_X12_asksOf) L0 L1 → Q r I1 L1 → Q' r I1 L1) (hP174 : ∀ (v1 : Int32) (v4 : Int32) (v5 : Int32) (I1 : Ix) (L1 : Lx), FrI (wsI_X12_asksOf) (fsI_X12_asksOf) I0 I1 → FrL (wsL_X12_asksOf) (fsL_X12_asksOf) L0 L1 → P174 v1 v4 v5 I1 L1 → P174' v1 v4 v5 I1 L1) {v1 : Int32} {v4 : Int32} {v5 : Int32} {I : Ix} {L : Lx} (hF : FrI (wsI_X12_asksOf) (fsI_X12_asksOf) I0 I) (hL : FrL (wsL_X12_asksOf) (fsL_X12_asksOf) L0 L) (h : wpX12_asksOf_l174 Q P174 v1 v4 v5 I L) : wpX12_asksOf_l174 Q' P174' v1 v4 v5 I L := by
  unfold wpX12_asksOf_l174 at h ⊢
  refine ⟨h.1, ?_⟩
  have h := h.2
  refine ⟨fun hc => ?_, fun hc => ?_⟩
  · have h := h.1 hc
    exact hQ _ _ _ hF hL h
  · have h := h.2 hc
    refine ⟨h.1, ?_⟩
    have h := h.2
    refine ⟨fun hc => ?_, fun hc => ?_⟩
    · have h := h.1 hc
      refine ⟨h.1, ?_⟩
      have h := h.2
      refine ⟨fun hc => ?_, fun hc => ?_⟩
      · have h := h.1 hc
        refine ⟨h.1, ?_⟩
        have h := h.2
        refine ⟨h.1, ?_⟩
        have h := h.2
        refine ⟨h.1, ?_⟩
        have h := h.2
        refine mnX12_worked (fun r3 I1 L2 hf hl h => ?_) h
        have hF := hF.tr hf (by decide) (by decide)
        have hL := hL.tr hl (by decide) (by decide)
        refine ⟨h.1, ?_⟩
        have h := h.2
        intro I4 eI4
        have h := h I4 eI4
        have hF := hF.pw eI4 (by decide)
        exact hP174 _ _ _ _ _ hF hL h
      · have h := h.2 hc
        refine ⟨h.1, ?_⟩
        have h := h.2
        refine ⟨fun hc => ?_, fun hc => ?_⟩
        · have h := h.1 hc
          exact mnX12_asksOf_b281 hQ hP174 hF hL h
        · have h := h.2 hc
          exact mnX12_asksOf_b281 hQ hP174 hF hL h
    · have h := h.2 hc
      refine ⟨h.1, ?_⟩
      have h := h.2
      refine ⟨fun hc => ?_, fun hc => ?_⟩
      · have h := h.1 hc
        refine ⟨h.1, ?_⟩
        have h := h.2
        refine ⟨h.1, ?_⟩
        have h := h.2
        exact mnX12_asksOf_b237 hQ hP174 hF hL h
      · have h := h.2 hc
        refine ⟨h.1, ?_⟩
        have h := h.2
        exact mnX12_asksOf_b237 hQ hP174 hF hL h
set_option maxRecDepth 10000 in
theorem mnX12_asksOf_h174 {I0 : Ix} {L0 : Lx} {Q Q' : Int32 → Ix → Lx → Prop} (hQ : ∀ (r : Int32) (I1 : Ix) (L1 : Lx), FrI (wsI_X12_asksOf) (fsI_X12_asksOf) I0 I1 → FrL (wsL_X12_asksOf) (fsL_X12_asksOf) L0 L1 → Q r I1 L1 → Q' r I1 L1) {v1 : Int32} {v4 : Int32} {v5 : Int32} {I : Ix} {L : Lx} (hF : FrI (wsI_X12_asksOf) (fsI_X12_asksOf) I0 I) (hL : FrL (wsL_X12_asksOf) (fsL_X12_asksOf) L0 L) (h : wpX12_asksOf_h174 Q v1 v4 v5 I L) : wpX12_asksOf_h174 Q' v1 v4 v5 I L := by
  unfold wpX12_asksOf_h174 at h
  refine Lfp.ind (P := fun z => FrI (wsI_X12_asksOf) (fsI_X12_asksOf) I0 z.2.2.2.1 → FrL (wsL_X12_asksOf) (fsL_X12_asksOf) L0 z.2.2.2.2 → wpX12_asksOf_h174 Q' z.1 z.2.1 z.2.2.1 z.2.2.2.1 z.2.2.2.2) ?_ h hF hL
  intro z P' hP' h hF hL
  obtain ⟨v1, v4, v5, I, L⟩ := z
  exact wpX12_asksOf_h174_fold (mnX12_asksOf_l174 hQ (fun v1 v4 v5 I L hF hL h9 => hP' (v1, v4, v5, I, L) h9 hF hL) hF hL h)
set_option maxRecDepth 10000 in
theorem mnX12_asksOf_b92 {I0 : Ix} {L0 : Lx} {Q Q' : Int32 → Ix → Lx → Prop} (hQ : ∀ (r : Int32) (I1 : Ix) (L1 : Lx), FrI (wsI_X12_asksOf) (fsI_X12_asksOf) I0 I1 → FrL (wsL_X12_asksOf) (fsL_X12_asksOf) L0 L1 → Q r I1 L1 → Q' r I1 L1) {v1 : Int32} {v2 : Int32} {t1 : Int32} {t2 : Int32} {I : Ix} {L : Lx} (hF : FrI (wsI_X12_asksOf) (fsI_X12_asksOf) I0 I) (hL : FrL (wsL_X12_asksOf) (fsL_X12_asksOf) L0 L) (h : wpX12_asksOf_b92 Q v1 v2 t1 t2 I L) : wpX12_asksOf_b92 Q' v1 v2 t1 t2 I L := by
  unfold wpX12_asksOf_b92 at h ⊢
  refine ⟨h.1, ?_⟩
  have h := h.2
  intro I1 eI1
  have h := h I1 eI1
  have hF := hF.pw eI1 (by decide)
  refine ⟨h.1, ?_⟩
  have h := h.2
  intro I2 eI2
  have h := h I2 eI2
  have hF := hF.pw eI2 (by decide)
  intro I3 eI3
  have h := h I3 eI3
  have hF := hF.pw eI3 (by decide)
  refine ⟨h.1, ?_⟩
  have h := h.2
  intro I4 eI4
  have h := h I4 eI4
  have hF := hF.pw eI4 (by decide)
  refine mnX12_forceOf (fun r7 I5 L6 hf hl h => ?_) h
  have hF := hF.tr hf (by decide) (by decide)
  have hL := hL.tr hl (by decide) (by decide)
  intro I8 eI8
  have h := h I8 eI8
  have hF := hF.pw eI8 (by decide)
  refine mnX12_placeOf (fun r11 I9 L10 hf hl h => ?_) h
  have hF := hF.tr hf (by decide) (by decide)
  have hL := hL.tr hl (by decide) (by decide)
  refine ⟨h.1, ?_⟩
  have h := h.2
  intro I12 eI12
  have h := h I12 eI12
  have hF := hF.pw eI12 (by decide)
  refine ⟨h.1, ?_⟩
  have h := h.2
  exact mnX12_asksOf_h174 hQ hF hL h
set_option maxRecDepth 10000 in
theorem mnX12_asksOf_b71 {I0 : Ix} {L0 : Lx} {Q Q' : Int32 → Ix → Lx → Prop} (hQ : ∀ (r : Int32) (I1 : Ix) (L1 : Lx), FrI (wsI_X12_asksOf) (fsI_X12_asksOf) I0 I1 → FrL (wsL_X12_asksOf) (fsL_X12_asksOf) L0 L1 → Q r I1 L1 → Q' r I1 L1) {v1 : Int32} {v2 : Int32} {t1 : Int32} {t2 : Int32} {I : Ix} {L : Lx} (hF : FrI (wsI_X12_asksOf) (fsI_X12_asksOf) I0 I) (hL : FrL (wsL_X12_asksOf) (fsL_X12_asksOf) L0 L) (h : wpX12_asksOf_b71 Q v1 v2 t1 t2 I L) : wpX12_asksOf_b71 Q' v1 v2 t1 t2 I L := by
  unfold wpX12_asksOf_b71 at h ⊢
  refine ⟨h.1, ?_⟩
  have h := h.2
  intro I1 eI1
  have h := h I1 eI1
  have hF := hF.pw eI1 (by decide)
  refine ⟨h.1, ?_⟩
  have h := h.2
  refine ⟨fun hc => ?_, fun hc => ?_⟩
  · have h := h.1 hc
    exact mnX12_asksOf_b92 hQ hF hL h
  · have h := h.2 hc
    exact mnX12_asksOf_b92 hQ hF hL h
set_option maxRecDepth 10000 in
theorem mnX12_asksOf {a1 : Int32} {a2 : Int32} {a3 : Int32} {I : Ix} {L : Lx} {Q Q' : Int32 → Ix → Lx → Prop} (hQ : ∀ (r : Int32) (I1 : Ix) (L1 : Lx), FrI (wsI_X12_asksOf) (fsI_X12_asksOf) I I1 → FrL (wsL_X12_asksOf) (fsL_X12_asksOf) L L1 → Q r I1 L1 → Q' r I1 L1) (h : wpX12_asksOf a1 a2 a3 I L Q) : wpX12_asksOf a1 a2 a3 I L Q' := by
  have hF : FrI (wsI_X12_asksOf) (fsI_X12_asksOf) I I := FrI.rf
  have hL : FrL (wsL_X12_asksOf) (fsL_X12_asksOf) L L := FrL.rf
  unfold wpX12_asksOf at h ⊢
  refine ⟨h.1, ?_⟩
  have h := h.2
  intro I1 eI1
  have h := h I1 eI1
  have hF := hF.pw eI1 (by decide)
  refine ⟨h.1, ?_⟩
  have h := h.2
  intro I2 eI2
  have h := h I2 eI2
  have hF := hF.pw eI2 (by decide)
  refine mnX12_heavyOf (fun r5 I3 L4 hf hl h => ?_) h
  have hF := hF.tr hf (by decide) (by decide)
  have hL := hL.tr hl (by decide) (by decide)
  intro I6 eI6
  have h := h I6 eI6
  have hF := hF.pw eI6 (by decide)
  refine mnX12_placeOf (fun r9 I7 L8 hf hl h => ?_) h
  have hF := hF.tr hf (by decide) (by decide)
  have hL := hL.tr hl (by decide) (by decide)
  refine mnX12_farOf (fun r12 I10 L11 hf hl h => ?_) h
  have hF := hF.tr hf (by decide) (by decide)
  have hL := hL.tr hl (by decide) (by decide)
  intro I13 eI13
  have h := h I13 eI13
  have hF := hF.pw eI13 (by decide)
  refine ⟨h.1, ?_⟩
  have h := h.2
  refine ⟨fun hc => ?_, fun hc => ?_⟩
  · have h := h.1 hc
    exact mnX12_asksOf_b71 hQ hF hL h
  · have h := h.2 hc
    exact mnX12_asksOf_b71 hQ hF hL h
abbrev wsI_X12_aimOf : List Nat := [129, 130]
abbrev wsL_X12_aimOf : List Nat := []
abbrev fsI_X12_aimOf : List (Nat × Nat) := []
abbrev fsL_X12_aimOf : List (Nat × Nat) := []
set_option maxRecDepth 10000 in
theorem mnX12_aimOf_b118 {I0 : Ix} {L0 : Lx} {Q Q' : Int32 → Ix → Lx → Prop} {P9 P9' : Int32 → Int32 → Int32 → Int32 → Int32 → Int32 → Int32 → Ix → Lx → Prop} (hQ : ∀ (r : Int32) (I1 : Ix) (L1 : Lx), FrI (wsI_X12_aimOf) (fsI_X12_aimOf) I0 I1 → FrL (wsL_X12_aimOf) (fsL_X12_aimOf) L0 L1 → Q r I1 L1 → Q' r I1 L1) (hP9 : ∀ (v1 : Int32) (v2 : Int32) (v3 : Int32) (v4 : Int32) (v5 : Int32) (v6 : Int32) (v7 : Int32) (I1 : Ix) (L1 : Lx), FrI (wsI_X12_aimOf) (fsI_X12_aimOf) I0 I1 → FrL (wsL_X12_aimOf) (fsL_X12_aimOf) L0 L1 → P9 v1 v2 v3 v4 v5 v6 v7 I1 L1 → P9' v1 v2 v3 v4 v5 v6 v7 I1 L1) {v1 : Int32} {v2 : Int32} {v3 : Int32} {v4 : Int32} {v5 : Int32} {v6 : Int32} {v7 : Int32} {t0 : Int32} {I : Ix} {L : Lx} (hF : FrI (wsI_X12_aimOf) (fsI_X12_aimOf) I0 I) (hL : FrL (wsL_X12_aimOf) (fsL_X12_aimOf) L0 L) (h : wpX12_aimOf_b118 Q P9 v1 v2 v3 v4 v5 v6 v7 t0 I L) : wpX12_aimOf_b118 Q' P9' v1 v2 v3 v4 v5 v6 v7 t0 I L := by
  unfold wpX12_aimOf_b118 at h ⊢
  refine ⟨fun hc => ?_, fun hc => ?_⟩
  · have h := h.1 hc
    exact hP9 _ _ _ _ _ _ _ _ _ hF hL h
  · have h := h.2 hc
    exact hP9 _ _ _ _ _ _ _ _ _ hF hL h
set_option maxRecDepth 10000 in
theorem mnX12_aimOf_b99 {I0 : Ix} {L0 : Lx} {Q Q' : Int32 → Ix → Lx → Prop} {P9 P9' : Int32 → Int32 → Int32 → Int32 → Int32 → Int32 → Int32 → Ix → Lx → Prop} (hQ : ∀ (r : Int32) (I1 : Ix) (L1 : Lx), FrI (wsI_X12_aimOf) (fsI_X12_aimOf) I0 I1 → FrL (wsL_X12_aimOf) (fsL_X12_aimOf) L0 L1 → Q r I1 L1 → Q' r I1 L1) (hP9 : ∀ (v1 : Int32) (v2 : Int32) (v3 : Int32) (v4 : Int32) (v5 : Int32) (v6 : Int32) (v7 : Int32) (I1 : Ix) (L1 : Lx), FrI (wsI_X12_aimOf) (fsI_X12_aimOf) I0 I1 → FrL (wsL_X12_aimOf) (fsL_X12_aimOf) L0 L1 → P9 v1 v2 v3 v4 v5 v6 v7 I1 L1 → P9' v1 v2 v3 v4 v5 v6 v7 I1 L1) {v1 : Int32} {v2 : Int32} {v3 : Int32} {v4 : Int32} {v5 : Int32} {v6 : Int32} {v7 : Int32} {t0 : Int32} {I : Ix} {L : Lx} (hF : FrI (wsI_X12_aimOf) (fsI_X12_aimOf) I0 I) (hL : FrL (wsL_X12_aimOf) (fsL_X12_aimOf) L0 L) (h : wpX12_aimOf_b99 Q P9 v1 v2 v3 v4 v5 v6 v7 t0 I L) : wpX12_aimOf_b99 Q' P9' v1 v2 v3 v4 v5 v6 v7 t0 I L := by
  unfold wpX12_aimOf_b99 at h ⊢
  refine ⟨fun hc => ?_, fun hc => ?_⟩
  · have h := h.1 hc
    exact mnX12_aimOf_b118 hQ hP9 hF hL h
  · have h := h.2 hc
    refine mnX12_asksOf (fun r3 I1 L2 hf hl h => ?_) h
    have hF := hF.tr hf (by decide) (by decide)
    have hL := hL.tr hl (by decide) (by decide)
    exact mnX12_aimOf_b118 hQ hP9 hF hL h
set_option maxRecDepth 10000 in
theorem mnX12_aimOf_b98 {I0 : Ix} {L0 : Lx} {Q Q' : Int32 → Ix → Lx → Prop} {P9 P9' : Int32 → Int32 → Int32 → Int32 → Int32 → Int32 → Int32 → Ix → Lx → Prop} (hQ : ∀ (r : Int32) (I1 : Ix) (L1 : Lx), FrI (wsI_X12_aimOf) (fsI_X12_aimOf) I0 I1 → FrL (wsL_X12_aimOf) (fsL_X12_aimOf) L0 L1 → Q r I1 L1 → Q' r I1 L1) (hP9 : ∀ (v1 : Int32) (v2 : Int32) (v3 : Int32) (v4 : Int32) (v5 : Int32) (v6 : Int32) (v7 : Int32) (I1 : Ix) (L1 : Lx), FrI (wsI_X12_aimOf) (fsI_X12_aimOf) I0 I1 → FrL (wsL_X12_aimOf) (fsL_X12_aimOf) L0 L1 → P9 v1 v2 v3 v4 v5 v6 v7 I1 L1 → P9' v1 v2 v3 v4 v5 v6 v7 I1 L1) {v1 : Int32} {v2 : Int32} {v3 : Int32} {v4 : Int32} {v5 : Int32} {v6 : Int32} {v7 : Int32} {I : Ix} {L : Lx} (hF : FrI (wsI_X12_aimOf) (fsI_X12_aimOf) I0 I) (hL : FrL (wsL_X12_aimOf) (fsL_X12_aimOf) L0 L) (h : wpX12_aimOf_b98 Q P9 v1 v2 v3 v4 v5 v6 v7 I L) : wpX12_aimOf_b98 Q' P9' v1 v2 v3 v4 v5 v6 v7 I L := by
  unfold wpX12_aimOf_b98 at h ⊢
  exact mnX12_aimOf_b99 hQ hP9 hF hL h
set_option maxRecDepth 10000 in
theorem mnX12_aimOf_b94 {I0 : Ix} {L0 : Lx} {Q Q' : Int32 → Ix → Lx → Prop} {P9 P9' : Int32 → Int32 → Int32 → Int32 → Int32 → Int32 → Int32 → Ix → Lx → Prop} (hQ : ∀ (r : Int32) (I1 : Ix) (L1 : Lx), FrI (wsI_X12_aimOf) (fsI_X12_aimOf) I0 I1 → FrL (wsL_X12_aimOf) (fsL_X12_aimOf) L0 L1 → Q r I1 L1 → Q' r I1 L1) (hP9 : ∀ (v1 : Int32) (v2 : Int32) (v3 : Int32) (v4 : Int32) (v5 : Int32) (v6 : Int32) (v7 : Int32) (I1 : Ix) (L1 : Lx), FrI (wsI_X12_aimOf) (fsI_X12_aimOf) I0 I1 → FrL (wsL_X12_aimOf) (fsL_X12_aimOf) L0 L1 → P9 v1 v2 v3 v4 v5 v6 v7 I1 L1 → P9' v1 v2 v3 v4 v5 v6 v7 I1 L1) {v1 : Int32} {v2 : Int32} {v3 : Int32} {v4 : Int32} {v5 : Int32} {v6 : Int32} {v7 : Int32} {I : Ix} {L : Lx} (hF : FrI (wsI_X12_aimOf) (fsI_X12_aimOf) I0 I) (hL : FrL (wsL_X12_aimOf) (fsL_X12_aimOf) L0 L) (h : wpX12_aimOf_b94 Q P9 v1 v2 v3 v4 v5 v6 v7 I L) : wpX12_aimOf_b94 Q' P9' v1 v2 v3 v4 v5 v6 v7 I L := by
  unfold wpX12_aimOf_b94 at h ⊢
  exact mnX12_aimOf_b99 hQ hP9 hF hL h
set_option maxRecDepth 10000 in
theorem mnX12_aimOf_l9 {I0 : Ix} {L0 : Lx} {Q Q' : Int32 → Ix → Lx → Prop} {P9 P9' : Int32 → Int32 → Int32 → Int32 → Int32 → Int32 → Int32 → Ix → Lx → Prop} (hQ : ∀ (r : Int32) (I1 : Ix) (L1 : Lx), FrI (wsI_X12_aimOf) (fsI_X12_aimOf) I0 I1 → FrL (wsL_X12_aimOf) (fsL_X12_aimOf) L0 L1 → Q r I1 L1 → Q' r I1 L1) (hP9 : ∀ (v1 : Int32) (v2 : Int32) (v3 : Int32) (v4 : Int32) (v5 : Int32) (v6 : Int32) (v7 : Int32) (I1 : Ix) (L1 : Lx), FrI (wsI_X12_aimOf) (fsI_X12_aimOf) I0 I1 → FrL (wsL_X12_aimOf) (fsL_X12_aimOf) L0 L1 → P9 v1 v2 v3 v4 v5 v6 v7 I1 L1 → P9' v1 v2 v3 v4 v5 v6 v7 I1 L1) {v1 : Int32} {v2 : Int32} {v3 : Int32} {v4 : Int32} {v5 : Int32} {v6 : Int32} {v7 : Int32} {I : Ix} {L : Lx} (hF : FrI (wsI_X12_aimOf) (fsI_X12_aimOf) I0 I) (hL : FrL (wsL_X12_aimOf) (fsL_X12_aimOf) L0 L) (h : wpX12_aimOf_l9 Q P9 v1 v2 v3 v4 v5 v6 v7 I L) : wpX12_aimOf_l9 Q' P9' v1 v2 v3 v4 v5 v6 v7 I L := by
  unfold wpX12_aimOf_l9 at h ⊢
  refine ⟨fun hc => ?_, fun hc => ?_⟩
  · have h := h.1 hc
    exact hQ _ _ _ hF hL h
  · have h := h.2 hc
    refine mnX12_placeOf (fun r3 I1 L2 hf hl h => ?_) h
    have hF := hF.tr hf (by decide) (by decide)
    have hL := hL.tr hl (by decide) (by decide)
    refine ⟨h.1, ?_⟩
    have h := h.2
    refine ⟨h.1, ?_⟩
    have h := h.2
    refine ⟨fun hc => ?_, fun hc => ?_⟩
    · have h := h.1 hc
      exact mnX12_aimOf_b98 hQ hP9 hF hL h
    · have h := h.2 hc
      refine ⟨fun hc => ?_, fun hc => ?_⟩
      · have h := h.1 hc
        refine ⟨fun hc => ?_, fun hc => ?_⟩
        · have h := h.1 hc
          exact mnX12_aimOf_b98 hQ hP9 hF hL h
        · have h := h.2 hc
          refine mnX12_placeOf (fun r6 I4 L5 hf hl h => ?_) h
          have hF := hF.tr hf (by decide) (by decide)
          have hL := hL.tr hl (by decide) (by decide)
          refine mnX12_farOf (fun r9 I7 L8 hf hl h => ?_) h
          have hF := hF.tr hf (by decide) (by decide)
          have hL := hL.tr hl (by decide) (by decide)
          refine ⟨fun hc => ?_, fun hc => ?_⟩
          · have h := h.1 hc
            exact mnX12_aimOf_b98 hQ hP9 hF hL h
          · have h := h.2 hc
            exact mnX12_aimOf_b94 hQ hP9 hF hL h
      · have h := h.2 hc
        refine mnX12_placeOf (fun r12 I10 L11 hf hl h => ?_) h
        have hF := hF.tr hf (by decide) (by decide)
        have hL := hL.tr hl (by decide) (by decide)
        refine mnX12_farOf (fun r15 I13 L14 hf hl h => ?_) h
        have hF := hF.tr hf (by decide) (by decide)
        have hL := hL.tr hl (by decide) (by decide)
        refine ⟨fun hc => ?_, fun hc => ?_⟩
        · have h := h.1 hc
          exact mnX12_aimOf_b98 hQ hP9 hF hL h
        · have h := h.2 hc
          exact mnX12_aimOf_b94 hQ hP9 hF hL h
set_option maxRecDepth 10000 in
theorem mnX12_aimOf_h9 {I0 : Ix} {L0 : Lx} {Q Q' : Int32 → Ix → Lx → Prop} (hQ : ∀ (r : Int32) (I1 : Ix) (L1 : Lx), FrI (wsI_X12_aimOf) (fsI_X12_aimOf) I0 I1 → FrL (wsL_X12_aimOf) (fsL_X12_aimOf) L0 L1 → Q r I1 L1 → Q' r I1 L1) {v1 : Int32} {v2 : Int32} {v3 : Int32} {v4 : Int32} {v5 : Int32} {v6 : Int32} {v7 : Int32} {I : Ix} {L : Lx} (hF : FrI (wsI_X12_aimOf) (fsI_X12_aimOf) I0 I) (hL : FrL (wsL_X12_aimOf) (fsL_X12_aimOf) L0 L) (h : wpX12_aimOf_h9 Q v1 v2 v3 v4 v5 v6 v7 I L) : wpX12_aimOf_h9 Q' v1 v2 v3 v4 v5 v6 v7 I L := by
  unfold wpX12_aimOf_h9 at h
  refine Lfp.ind (P := fun z => FrI (wsI_X12_aimOf) (fsI_X12_aimOf) I0 z.2.2.2.2.2.2.2.1 → FrL (wsL_X12_aimOf) (fsL_X12_aimOf) L0 z.2.2.2.2.2.2.2.2 → wpX12_aimOf_h9 Q' z.1 z.2.1 z.2.2.1 z.2.2.2.1 z.2.2.2.2.1 z.2.2.2.2.2.1 z.2.2.2.2.2.2.1 z.2.2.2.2.2.2.2.1 z.2.2.2.2.2.2.2.2) ?_ h hF hL
  intro z P' hP' h hF hL
  obtain ⟨v1, v2, v3, v4, v5, v6, v7, I, L⟩ := z
  exact wpX12_aimOf_h9_fold (mnX12_aimOf_l9 hQ (fun v1 v2 v3 v4 v5 v6 v7 I L hF hL h9 => hP' (v1, v2, v3, v4, v5, v6, v7, I, L) h9 hF hL) hF hL h)
set_option maxRecDepth 10000 in
theorem mnX12_aimOf {a1 : Int32} {a2 : Int32} {a3 : Int32} {a4 : Int32} {I : Ix} {L : Lx} {Q Q' : Int32 → Ix → Lx → Prop} (hQ : ∀ (r : Int32) (I1 : Ix) (L1 : Lx), FrI (wsI_X12_aimOf) (fsI_X12_aimOf) I I1 → FrL (wsL_X12_aimOf) (fsL_X12_aimOf) L L1 → Q r I1 L1 → Q' r I1 L1) (h : wpX12_aimOf a1 a2 a3 a4 I L Q) : wpX12_aimOf a1 a2 a3 a4 I L Q' := by
  have hF : FrI (wsI_X12_aimOf) (fsI_X12_aimOf) I I := FrI.rf
  have hL : FrL (wsL_X12_aimOf) (fsL_X12_aimOf) L L := FrL.rf
  unfold wpX12_aimOf at h ⊢
  exact mnX12_aimOf_h9 hQ hF hL h
abbrev wsI_X12_goTo : List Nat := [160, 159, 129, 130]
abbrev wsL_X12_goTo : List Nat := []
abbrev fsI_X12_goTo : List (Nat × Nat) := []
abbrev fsL_X12_goTo : List (Nat × Nat) := []
set_option maxRecDepth 10000 in
theorem mnX12_goTo_b57 {I0 : Ix} {L0 : Lx} {Q Q' : Ix → Lx → Prop} (hQ : ∀ (I1 : Ix) (L1 : Lx), FrI (wsI_X12_goTo) (fsI_X12_goTo) I0 I1 → FrL (wsL_X12_goTo) (fsL_X12_goTo) L0 L1 → Q I1 L1 → Q' I1 L1) {t1 : Int32} {t2 : Int32} {I : Ix} {L : Lx} (hF : FrI (wsI_X12_goTo) (fsI_X12_goTo) I0 I) (hL : FrL (wsL_X12_goTo) (fsL_X12_goTo) L0 L) (h : wpX12_goTo_b57 Q t1 t2 I L) : wpX12_goTo_b57 Q' t1 t2 I L := by
  unfold wpX12_goTo_b57 at h ⊢
  refine ⟨h.1, ?_⟩
  have h := h.2
  intro I1 eI1
  have h := h I1 eI1
  have hF := hF.pw eI1 (by decide)
  exact hQ _ _ hF hL h
set_option maxRecDepth 10000 in
theorem mnX12_goTo {a1 : Int32} {a2 : Int32} {a3 : Int32} {I : Ix} {L : Lx} {Q Q' : Ix → Lx → Prop} (hQ : ∀ (I1 : Ix) (L1 : Lx), FrI (wsI_X12_goTo) (fsI_X12_goTo) I I1 → FrL (wsL_X12_goTo) (fsL_X12_goTo) L L1 → Q I1 L1 → Q' I1 L1) (h : wpX12_goTo a1 a2 a3 I L Q) : wpX12_goTo a1 a2 a3 I L Q' := by
  have hF : FrI (wsI_X12_goTo) (fsI_X12_goTo) I I := FrI.rf
  have hL : FrL (wsL_X12_goTo) (fsL_X12_goTo) L L := FrL.rf
  unfold wpX12_goTo at h ⊢
  refine ⟨h.1, ?_⟩
  have h := h.2
  refine mnX12_aimOf (fun r3 I1 L2 hf hl h => ?_) h
  have hF := hF.tr hf (by decide) (by decide)
  have hL := hL.tr hl (by decide) (by decide)
  refine ⟨h.1, ?_⟩
  have h := h.2
  intro I4 eI4
  have h := h I4 eI4
  have hF := hF.pw eI4 (by decide)
  refine ⟨h.1, ?_⟩
  have h := h.2
  refine ⟨fun hc => ?_, fun hc => ?_⟩
  · have h := h.1 hc
    refine ⟨h.1, ?_⟩
    have h := h.2
    refine ⟨h.1, ?_⟩
    have h := h.2
    refine mnX12_placeOf (fun r7 I5 L6 hf hl h => ?_) h
    have hF := hF.tr hf (by decide) (by decide)
    have hL := hL.tr hl (by decide) (by decide)
    refine mnX12_farOf (fun r10 I8 L9 hf hl h => ?_) h
    have hF := hF.tr hf (by decide) (by decide)
    have hL := hL.tr hl (by decide) (by decide)
    exact mnX12_goTo_b57 hQ hF hL h
  · have h := h.2 hc
    exact mnX12_goTo_b57 hQ hF hL h
abbrev wsI_X12_ones : List Nat := []
abbrev wsL_X12_ones : List Nat := []
abbrev fsI_X12_ones : List (Nat × Nat) := []
abbrev fsL_X12_ones : List (Nat × Nat) := []
set_option maxRecDepth 10000 in
theorem mnX12_ones_l4 {I0 : Ix} {L0 : Lx} {Q Q' : Int32 → Ix → Lx → Prop} {P4 P4' : Int32 → Int32 → Int32 → Ix → Lx → Prop} (hQ : ∀ (r : Int32) (I1 : Ix) (L1 : Lx), FrI (wsI_X12_ones) (fsI_X12_ones) I0 I1 → FrL (wsL_X12_ones) (fsL_X12_ones) L0 L1 → Q r I1 L1 → Q' r I1 L1) (hP4 : ∀ (v0 : Int32) (v1 : Int32) (v2 : Int32) (I1 : Ix) (L1 : Lx), FrI (wsI_X12_ones) (fsI_X12_ones) I0 I1 → FrL (wsL_X12_ones) (fsL_X12_ones) L0 L1 → P4 v0 v1 v2 I1 L1 → P4' v0 v1 v2 I1 L1) {v0 : Int32} {v1 : Int32} {v2 : Int32} {I : Ix} {L : Lx} (hF : FrI (wsI_X12_ones) (fsI_X12_ones) I0 I) (hL : FrL (wsL_X12_ones) (fsL_X12_ones) L0 L) (h : wpX12_ones_l4 Q P4 v0 v1 v2 I L) : wpX12_ones_l4 Q' P4' v0 v1 v2 I L := by
  unfold wpX12_ones_l4 at h ⊢
  refine ⟨fun hc => ?_, fun hc => ?_⟩
  · have h := h.1 hc
    exact hQ _ _ _ hF hL h
  · have h := h.2 hc
    exact hP4 _ _ _ _ _ hF hL h
set_option maxRecDepth 10000 in
theorem mnX12_ones_h4 {I0 : Ix} {L0 : Lx} {Q Q' : Int32 → Ix → Lx → Prop} (hQ : ∀ (r : Int32) (I1 : Ix) (L1 : Lx), FrI (wsI_X12_ones) (fsI_X12_ones) I0 I1 → FrL (wsL_X12_ones) (fsL_X12_ones) L0 L1 → Q r I1 L1 → Q' r I1 L1) {v0 : Int32} {v1 : Int32} {v2 : Int32} {I : Ix} {L : Lx} (hF : FrI (wsI_X12_ones) (fsI_X12_ones) I0 I) (hL : FrL (wsL_X12_ones) (fsL_X12_ones) L0 L) (h : wpX12_ones_h4 Q v0 v1 v2 I L) : wpX12_ones_h4 Q' v0 v1 v2 I L := by
  unfold wpX12_ones_h4 at h
  refine Lfp.ind (P := fun z => FrI (wsI_X12_ones) (fsI_X12_ones) I0 z.2.2.2.1 → FrL (wsL_X12_ones) (fsL_X12_ones) L0 z.2.2.2.2 → wpX12_ones_h4 Q' z.1 z.2.1 z.2.2.1 z.2.2.2.1 z.2.2.2.2) ?_ h hF hL
  intro z P' hP' h hF hL
  obtain ⟨v0, v1, v2, I, L⟩ := z
  exact wpX12_ones_h4_fold (mnX12_ones_l4 hQ (fun v0 v1 v2 I L hF hL h9 => hP' (v0, v1, v2, I, L) h9 hF hL) hF hL h)
set_option maxRecDepth 10000 in
theorem mnX12_ones {a0 : Int32} {I : Ix} {L : Lx} {Q Q' : Int32 → Ix → Lx → Prop} (hQ : ∀ (r : Int32) (I1 : Ix) (L1 : Lx), FrI (wsI_X12_ones) (fsI_X12_ones) I I1 → FrL (wsL_X12_ones) (fsL_X12_ones) L L1 → Q r I1 L1 → Q' r I1 L1) (h : wpX12_ones a0 I L Q) : wpX12_ones a0 I L Q' := by
  have hF : FrI (wsI_X12_ones) (fsI_X12_ones) I I := FrI.rf
  have hL : FrL (wsL_X12_ones) (fsL_X12_ones) L L := FrL.rf
  unfold wpX12_ones at h ⊢
  exact mnX12_ones_h4 hQ hF hL h
abbrev wsI_X12_draw : List Nat := []
abbrev wsL_X12_draw : List Nat := []
abbrev fsI_X12_draw : List (Nat × Nat) := [(120, 58)]
abbrev fsL_X12_draw : List (Nat × Nat) := []
set_option maxRecDepth 10000 in
theorem mnX12_draw {a1 : Int32} {I : Ix} {L : Lx} {Q Q' : Int32 → Ix → Lx → Prop} (hQ : ∀ (r : Int32) (I1 : Ix) (L1 : Lx), FrI (wsI_X12_draw) (fsI_X12_draw) I I1 → FrL (wsL_X12_draw) (fsL_X12_draw) L L1 → Q r I1 L1 → Q' r I1 L1) (h : wpX12_draw a1 I L Q) : wpX12_draw a1 I L Q' := by
  have hF : FrI (wsI_X12_draw) (fsI_X12_draw) I I := FrI.rf
  have hL : FrL (wsL_X12_draw) (fsL_X12_draw) L L := FrL.rf
  unfold wpX12_draw at h ⊢
  intro I1 eI1
  have h := h I1 eI1
  have hF := hF.pf eI1 (by decide)
  refine ⟨h.1, ?_⟩
  have h := h.2
  exact hQ _ _ _ hF hL h
abbrev wsI_X12_nth : List Nat := []
abbrev wsL_X12_nth : List Nat := []
abbrev fsI_X12_nth : List (Nat × Nat) := []
abbrev fsL_X12_nth : List (Nat × Nat) := []
set_option maxRecDepth 10000 in
theorem mnX12_nth_b16 {I0 : Ix} {L0 : Lx} {Q Q' : Int32 → Ix → Lx → Prop} {P4 P4' : Int32 → Int32 → Int32 → Ix → Lx → Prop} (hQ : ∀ (r : Int32) (I1 : Ix) (L1 : Lx), FrI (wsI_X12_nth) (fsI_X12_nth) I0 I1 → FrL (wsL_X12_nth) (fsL_X12_nth) L0 L1 → Q r I1 L1 → Q' r I1 L1) (hP4 : ∀ (v0 : Int32) (v2 : Int32) (v3 : Int32) (I1 : Ix) (L1 : Lx), FrI (wsI_X12_nth) (fsI_X12_nth) I0 I1 → FrL (wsL_X12_nth) (fsL_X12_nth) L0 L1 → P4 v0 v2 v3 I1 L1 → P4' v0 v2 v3 I1 L1) {v0 : Int32} {v2 : Int32} {v3 : Int32} {I : Ix} {L : Lx} (hF : FrI (wsI_X12_nth) (fsI_X12_nth) I0 I) (hL : FrL (wsL_X12_nth) (fsL_X12_nth) L0 L) (h : wpX12_nth_b16 Q P4 v0 v2 v3 I L) : wpX12_nth_b16 Q' P4' v0 v2 v3 I L := by
  unfold wpX12_nth_b16 at h ⊢
  exact hP4 _ _ _ _ _ hF hL h
set_option maxRecDepth 10000 in
theorem mnX12_nth_l4 {I0 : Ix} {L0 : Lx} {Q Q' : Int32 → Ix → Lx → Prop} {P4 P4' : Int32 → Int32 → Int32 → Ix → Lx → Prop} (hQ : ∀ (r : Int32) (I1 : Ix) (L1 : Lx), FrI (wsI_X12_nth) (fsI_X12_nth) I0 I1 → FrL (wsL_X12_nth) (fsL_X12_nth) L0 L1 → Q r I1 L1 → Q' r I1 L1) (hP4 : ∀ (v0 : Int32) (v2 : Int32) (v3 : Int32) (I1 : Ix) (L1 : Lx), FrI (wsI_X12_nth) (fsI_X12_nth) I0 I1 → FrL (wsL_X12_nth) (fsL_X12_nth) L0 L1 → P4 v0 v2 v3 I1 L1 → P4' v0 v2 v3 I1 L1) {v0 : Int32} {v2 : Int32} {v3 : Int32} {I : Ix} {L : Lx} (hF : FrI (wsI_X12_nth) (fsI_X12_nth) I0 I) (hL : FrL (wsL_X12_nth) (fsL_X12_nth) L0 L) (h : wpX12_nth_l4 Q P4 v0 v2 v3 I L) : wpX12_nth_l4 Q' P4' v0 v2 v3 I L := by
  unfold wpX12_nth_l4 at h ⊢
  refine ⟨fun hc => ?_, fun hc => ?_⟩
  · have h := h.1 hc
    exact mnX12_nth_b16 hQ hP4 hF hL h
  · have h := h.2 hc
    refine ⟨fun hc => ?_, fun hc => ?_⟩
    · have h := h.1 hc
      exact hQ _ _ _ hF hL h
    · have h := h.2 hc
      exact mnX12_nth_b16 hQ hP4 hF hL h
set_option maxRecDepth 10000 in
theorem mnX12_nth_h4 {I0 : Ix} {L0 : Lx} {Q Q' : Int32 → Ix → Lx → Prop} (hQ : ∀ (r : Int32) (I1 : Ix) (L1 : Lx), FrI (wsI_X12_nth) (fsI_X12_nth) I0 I1 → FrL (wsL_X12_nth) (fsL_X12_nth) L0 L1 → Q r I1 L1 → Q' r I1 L1) {v0 : Int32} {v2 : Int32} {v3 : Int32} {I : Ix} {L : Lx} (hF : FrI (wsI_X12_nth) (fsI_X12_nth) I0 I) (hL : FrL (wsL_X12_nth) (fsL_X12_nth) L0 L) (h : wpX12_nth_h4 Q v0 v2 v3 I L) : wpX12_nth_h4 Q' v0 v2 v3 I L := by
  unfold wpX12_nth_h4 at h
  refine Lfp.ind (P := fun z => FrI (wsI_X12_nth) (fsI_X12_nth) I0 z.2.2.2.1 → FrL (wsL_X12_nth) (fsL_X12_nth) L0 z.2.2.2.2 → wpX12_nth_h4 Q' z.1 z.2.1 z.2.2.1 z.2.2.2.1 z.2.2.2.2) ?_ h hF hL
  intro z P' hP' h hF hL
  obtain ⟨v0, v2, v3, I, L⟩ := z
  exact wpX12_nth_h4_fold (mnX12_nth_l4 hQ (fun v0 v2 v3 I L hF hL h9 => hP' (v0, v2, v3, I, L) h9 hF hL) hF hL h)
set_option maxRecDepth 10000 in
theorem mnX12_nth {a0 : Int32} {a1 : Int32} {I : Ix} {L : Lx} {Q Q' : Int32 → Ix → Lx → Prop} (hQ : ∀ (r : Int32) (I1 : Ix) (L1 : Lx), FrI (wsI_X12_nth) (fsI_X12_nth) I I1 → FrL (wsL_X12_nth) (fsL_X12_nth) L L1 → Q r I1 L1 → Q' r I1 L1) (h : wpX12_nth a0 a1 I L Q) : wpX12_nth a0 a1 I L Q' := by
  have hF : FrI (wsI_X12_nth) (fsI_X12_nth) I I := FrI.rf
  have hL : FrL (wsL_X12_nth) (fsL_X12_nth) L L := FrL.rf
  unfold wpX12_nth at h ⊢
  exact mnX12_nth_h4 hQ hF hL h
abbrev wsI_X12_firstBy : List Nat := []
abbrev wsL_X12_firstBy : List Nat := []
abbrev fsI_X12_firstBy : List (Nat × Nat) := []
abbrev fsL_X12_firstBy : List (Nat × Nat) := []
set_option maxRecDepth 10000 in
theorem mnX12_firstBy_b72 {I0 : Ix} {L0 : Lx} {Q Q' : Int32 → Ix → Lx → Prop} {P5 P5' : Int32 → Int32 → Int32 → Int32 → Ix → Lx → Prop} (hQ : ∀ (r : Int32) (I1 : Ix) (L1 : Lx), FrI (wsI_X12_firstBy) (fsI_X12_firstBy) I0 I1 → FrL (wsL_X12_firstBy) (fsL_X12_firstBy) L0 L1 → Q r I1 L1 → Q' r I1 L1) (hP5 : ∀ (v1 : Int32) (v2 : Int32) (v3 : Int32) (v4 : Int32) (I1 : Ix) (L1 : Lx), FrI (wsI_X12_firstBy) (fsI_X12_firstBy) I0 I1 → FrL (wsL_X12_firstBy) (fsL_X12_firstBy) L0 L1 → P5 v1 v2 v3 v4 I1 L1 → P5' v1 v2 v3 v4 I1 L1) {v1 : Int32} {v2 : Int32} {v3 : Int32} {v4 : Int32} {t0 : Int32} {I : Ix} {L : Lx} (hF : FrI (wsI_X12_firstBy) (fsI_X12_firstBy) I0 I) (hL : FrL (wsL_X12_firstBy) (fsL_X12_firstBy) L0 L) (h : wpX12_firstBy_b72 Q P5 v1 v2 v3 v4 t0 I L) : wpX12_firstBy_b72 Q' P5' v1 v2 v3 v4 t0 I L := by
  unfold wpX12_firstBy_b72 at h ⊢
  refine ⟨fun hc => ?_, fun hc => ?_⟩
  · have h := h.1 hc
    exact hP5 _ _ _ _ _ _ hF hL h
  · have h := h.2 hc
    exact hP5 _ _ _ _ _ _ hF hL h
set_option maxRecDepth 10000 in
theorem mnX12_firstBy_b71 {I0 : Ix} {L0 : Lx} {Q Q' : Int32 → Ix → Lx → Prop} {P5 P5' : Int32 → Int32 → Int32 → Int32 → Ix → Lx → Prop} (hQ : ∀ (r : Int32) (I1 : Ix) (L1 : Lx), FrI (wsI_X12_firstBy) (fsI_X12_firstBy) I0 I1 → FrL (wsL_X12_firstBy) (fsL_X12_firstBy) L0 L1 → Q r I1 L1 → Q' r I1 L1) (hP5 : ∀ (v1 : Int32) (v2 : Int32) (v3 : Int32) (v4 : Int32) (I1 : Ix) (L1 : Lx), FrI (wsI_X12_firstBy) (fsI_X12_firstBy) I0 I1 → FrL (wsL_X12_firstBy) (fsL_X12_firstBy) L0 L1 → P5 v1 v2 v3 v4 I1 L1 → P5' v1 v2 v3 v4 I1 L1) {v1 : Int32} {v2 : Int32} {v3 : Int32} {v4 : Int32} {I : Ix} {L : Lx} (hF : FrI (wsI_X12_firstBy) (fsI_X12_firstBy) I0 I) (hL : FrL (wsL_X12_firstBy) (fsL_X12_firstBy) L0 L) (h : wpX12_firstBy_b71 Q P5 v1 v2 v3 v4 I L) : wpX12_firstBy_b71 Q' P5' v1 v2 v3 v4 I L := by
  unfold wpX12_firstBy_b71 at h ⊢
  exact mnX12_firstBy_b72 hQ hP5 hF hL h
set_option maxRecDepth 10000 in
theorem mnX12_firstBy_b67 {I0 : Ix} {L0 : Lx} {Q Q' : Int32 → Ix → Lx → Prop} {P5 P5' : Int32 → Int32 → Int32 → Int32 → Ix → Lx → Prop} (hQ : ∀ (r : Int32) (I1 : Ix) (L1 : Lx), FrI (wsI_X12_firstBy) (fsI_X12_firstBy) I0 I1 → FrL (wsL_X12_firstBy) (fsL_X12_firstBy) L0 L1 → Q r I1 L1 → Q' r I1 L1) (hP5 : ∀ (v1 : Int32) (v2 : Int32) (v3 : Int32) (v4 : Int32) (I1 : Ix) (L1 : Lx), FrI (wsI_X12_firstBy) (fsI_X12_firstBy) I0 I1 → FrL (wsL_X12_firstBy) (fsL_X12_firstBy) L0 L1 → P5 v1 v2 v3 v4 I1 L1 → P5' v1 v2 v3 v4 I1 L1) {v1 : Int32} {v2 : Int32} {v3 : Int32} {v4 : Int32} {I : Ix} {L : Lx} (hF : FrI (wsI_X12_firstBy) (fsI_X12_firstBy) I0 I) (hL : FrL (wsL_X12_firstBy) (fsL_X12_firstBy) L0 L) (h : wpX12_firstBy_b67 Q P5 v1 v2 v3 v4 I L) : wpX12_firstBy_b67 Q' P5' v1 v2 v3 v4 I L := by
  unfold wpX12_firstBy_b67 at h ⊢
  exact mnX12_firstBy_b72 hQ hP5 hF hL h
set_option maxRecDepth 10000 in
theorem mnX12_firstBy_l5 {I0 : Ix} {L0 : Lx} {Q Q' : Int32 → Ix → Lx → Prop} {P5 P5' : Int32 → Int32 → Int32 → Int32 → Ix → Lx → Prop} (hQ : ∀ (r : Int32) (I1 : Ix) (L1 : Lx), FrI (wsI_X12_firstBy) (fsI_X12_firstBy) I0 I1 → FrL (wsL_X12_firstBy) (fsL_X12_firstBy) L0 L1 → Q r I1 L1 → Q' r I1 L1) (hP5 : ∀ (v1 : Int32) (v2 : Int32) (v3 : Int32) (v4 : Int32) (I1 : Ix) (L1 : Lx), FrI (wsI_X12_firstBy) (fsI_X12_firstBy) I0 I1 → FrL (wsL_X12_firstBy) (fsL_X12_firstBy) L0 L1 → P5 v1 v2 v3 v4 I1 L1 → P5' v1 v2 v3 v4 I1 L1) {v1 : Int32} {v2 : Int32} {v3 : Int32} {v4 : Int32} {I : Ix} {L : Lx} (hF : FrI (wsI_X12_firstBy) (fsI_X12_firstBy) I0 I) (hL : FrL (wsL_X12_firstBy) (fsL_X12_firstBy) L0 L) (h : wpX12_firstBy_l5 Q P5 v1 v2 v3 v4 I L) : wpX12_firstBy_l5 Q' P5' v1 v2 v3 v4 I L := by
  unfold wpX12_firstBy_l5 at h ⊢
  refine ⟨fun hc => ?_, fun hc => ?_⟩
  · have h := h.1 hc
    exact hQ _ _ _ hF hL h
  · have h := h.2 hc
    refine ⟨fun hc => ?_, fun hc => ?_⟩
    · have h := h.1 hc
      refine ⟨fun hc => ?_, fun hc => ?_⟩
      · have h := h.1 hc
        exact mnX12_firstBy_b67 hQ hP5 hF hL h
      · have h := h.2 hc
        refine ⟨fun hc => ?_, fun hc => ?_⟩
        · have h := h.1 hc
          refine mnX12_forceOf (fun r3 I1 L2 hf hl h => ?_) h
          have hF := hF.tr hf (by decide) (by decide)
          have hL := hL.tr hl (by decide) (by decide)
          refine mnX12_forceOf (fun r6 I4 L5 hf hl h => ?_) h
          have hF := hF.tr hf (by decide) (by decide)
          have hL := hL.tr hl (by decide) (by decide)
          refine ⟨fun hc => ?_, fun hc => ?_⟩
          · have h := h.1 hc
            exact mnX12_firstBy_b71 hQ hP5 hF hL h
          · have h := h.2 hc
            exact mnX12_firstBy_b67 hQ hP5 hF hL h
        · have h := h.2 hc
          refine ⟨h.1, ?_⟩
          have h := h.2
          refine ⟨h.1, ?_⟩
          have h := h.2
          refine ⟨fun hc => ?_, fun hc => ?_⟩
          · have h := h.1 hc
            exact mnX12_firstBy_b71 hQ hP5 hF hL h
          · have h := h.2 hc
            exact mnX12_firstBy_b67 hQ hP5 hF hL h
    · have h := h.2 hc
      exact hP5 _ _ _ _ _ _ hF hL h
set_option maxRecDepth 10000 in
theorem mnX12_firstBy_h5 {I0 : Ix} {L0 : Lx} {Q Q' : Int32 → Ix → Lx → Prop} (hQ : ∀ (r : Int32) (I1 : Ix) (L1 : Lx), FrI (wsI_X12_firstBy) (fsI_X12_firstBy) I0 I1 → FrL (wsL_X12_firstBy) (fsL_X12_firstBy) L0 L1 → Q r I1 L1 → Q' r I1 L1) {v1 : Int32} {v2 : Int32} {v3 : Int32} {v4 : Int32} {I : Ix} {L : Lx} (hF : FrI (wsI_X12_firstBy) (fsI_X12_firstBy) I0 I) (hL : FrL (wsL_X12_firstBy) (fsL_X12_firstBy) L0 L) (h : wpX12_firstBy_h5 Q v1 v2 v3 v4 I L) : wpX12_firstBy_h5 Q' v1 v2 v3 v4 I L := by
  unfold wpX12_firstBy_h5 at h
  refine Lfp.ind (P := fun z => FrI (wsI_X12_firstBy) (fsI_X12_firstBy) I0 z.2.2.2.2.1 → FrL (wsL_X12_firstBy) (fsL_X12_firstBy) L0 z.2.2.2.2.2 → wpX12_firstBy_h5 Q' z.1 z.2.1 z.2.2.1 z.2.2.2.1 z.2.2.2.2.1 z.2.2.2.2.2) ?_ h hF hL
  intro z P' hP' h hF hL
  obtain ⟨v1, v2, v3, v4, I, L⟩ := z
  exact wpX12_firstBy_h5_fold (mnX12_firstBy_l5 hQ (fun v1 v2 v3 v4 I L hF hL h9 => hP' (v1, v2, v3, v4, I, L) h9 hF hL) hF hL h)
set_option maxRecDepth 10000 in
theorem mnX12_firstBy {a1 : Int32} {a2 : Int32} {I : Ix} {L : Lx} {Q Q' : Int32 → Ix → Lx → Prop} (hQ : ∀ (r : Int32) (I1 : Ix) (L1 : Lx), FrI (wsI_X12_firstBy) (fsI_X12_firstBy) I I1 → FrL (wsL_X12_firstBy) (fsL_X12_firstBy) L L1 → Q r I1 L1 → Q' r I1 L1) (h : wpX12_firstBy a1 a2 I L Q) : wpX12_firstBy a1 a2 I L Q' := by
  have hF : FrI (wsI_X12_firstBy) (fsI_X12_firstBy) I I := FrI.rf
  have hL : FrL (wsL_X12_firstBy) (fsL_X12_firstBy) L L := FrL.rf
  unfold wpX12_firstBy at h ⊢
  exact mnX12_firstBy_h5 hQ hF hL h
abbrev wsI_X12_standersOf : List Nat := []
abbrev wsL_X12_standersOf : List Nat := []
abbrev fsI_X12_standersOf : List (Nat × Nat) := []
abbrev fsL_X12_standersOf : List (Nat × Nat) := []
set_option maxRecDepth 10000 in
theorem mnX12_standersOf_l4 {I0 : Ix} {L0 : Lx} {Q Q' : Int32 → Ix → Lx → Prop} {P4 P4' : Int32 → Int32 → Int32 → Ix → Lx → Prop} (hQ : ∀ (r : Int32) (I1 : Ix) (L1 : Lx), FrI (wsI_X12_standersOf) (fsI_X12_standersOf) I0 I1 → FrL (wsL_X12_standersOf) (fsL_X12_standersOf) L0 L1 → Q r I1 L1 → Q' r I1 L1) (hP4 : ∀ (v1 : Int32) (v2 : Int32) (v3 : Int32) (I1 : Ix) (L1 : Lx), FrI (wsI_X12_standersOf) (fsI_X12_standersOf) I0 I1 → FrL (wsL_X12_standersOf) (fsL_X12_standersOf) L0 L1 → P4 v1 v2 v3 I1 L1 → P4' v1 v2 v3 I1 L1) {v1 : Int32} {v2 : Int32} {v3 : Int32} {I : Ix} {L : Lx} (hF : FrI (wsI_X12_standersOf) (fsI_X12_standersOf) I0 I) (hL : FrL (wsL_X12_standersOf) (fsL_X12_standersOf) L0 L) (h : wpX12_standersOf_l4 Q P4 v1 v2 v3 I L) : wpX12_standersOf_l4 Q' P4' v1 v2 v3 I L := by
  unfold wpX12_standersOf_l4 at h ⊢
  refine ⟨fun hc => ?_, fun hc => ?_⟩
  · have h := h.1 hc
    exact hQ _ _ _ hF hL h
  · have h := h.2 hc
    refine ⟨h.1, ?_⟩
    have h := h.2
    refine ⟨fun hc => ?_, fun hc => ?_⟩
    · have h := h.1 hc
      exact hP4 _ _ _ _ _ hF hL h
    · have h := h.2 hc
      exact hP4 _ _ _ _ _ hF hL h
set_option maxRecDepth 10000 in
theorem mnX12_standersOf_h4 {I0 : Ix} {L0 : Lx} {Q Q' : Int32 → Ix → Lx → Prop} (hQ : ∀ (r : Int32) (I1 : Ix) (L1 : Lx), FrI (wsI_X12_standersOf) (fsI_X12_standersOf) I0 I1 → FrL (wsL_X12_standersOf) (fsL_X12_standersOf) L0 L1 → Q r I1 L1 → Q' r I1 L1) {v1 : Int32} {v2 : Int32} {v3 : Int32} {I : Ix} {L : Lx} (hF : FrI (wsI_X12_standersOf) (fsI_X12_standersOf) I0 I) (hL : FrL (wsL_X12_standersOf) (fsL_X12_standersOf) L0 L) (h : wpX12_standersOf_h4 Q v1 v2 v3 I L) : wpX12_standersOf_h4 Q' v1 v2 v3 I L := by
  unfold wpX12_standersOf_h4 at h
  refine Lfp.ind (P := fun z => FrI (wsI_X12_standersOf) (fsI_X12_standersOf) I0 z.2.2.2.1 → FrL (wsL_X12_standersOf) (fsL_X12_standersOf) L0 z.2.2.2.2 → wpX12_standersOf_h4 Q' z.1 z.2.1 z.2.2.1 z.2.2.2.1 z.2.2.2.2) ?_ h hF hL
  intro z P' hP' h hF hL
  obtain ⟨v1, v2, v3, I, L⟩ := z
  exact wpX12_standersOf_h4_fold (mnX12_standersOf_l4 hQ (fun v1 v2 v3 I L hF hL h9 => hP' (v1, v2, v3, I, L) h9 hF hL) hF hL h)
set_option maxRecDepth 10000 in
theorem mnX12_standersOf {a1 : Int32} {I : Ix} {L : Lx} {Q Q' : Int32 → Ix → Lx → Prop} (hQ : ∀ (r : Int32) (I1 : Ix) (L1 : Lx), FrI (wsI_X12_standersOf) (fsI_X12_standersOf) I I1 → FrL (wsL_X12_standersOf) (fsL_X12_standersOf) L L1 → Q r I1 L1 → Q' r I1 L1) (h : wpX12_standersOf a1 I L Q) : wpX12_standersOf a1 I L Q' := by
  have hF : FrI (wsI_X12_standersOf) (fsI_X12_standersOf) I I := FrI.rf
  have hL : FrL (wsL_X12_standersOf) (fsL_X12_standersOf) L L := FrL.rf
  unfold wpX12_standersOf at h ⊢
  exact mnX12_standersOf_h4 hQ hF hL h
abbrev wsI_X12_takersOf : List Nat := []
abbrev wsL_X12_takersOf : List Nat := []
abbrev fsI_X12_takersOf : List (Nat × Nat) := []
abbrev fsL_X12_takersOf : List (Nat × Nat) := []
set_option maxRecDepth 10000 in
theorem mnX12_takersOf_l4 {I0 : Ix} {L0 : Lx} {Q Q' : Int32 → Ix → Lx → Prop} {P4 P4' : Int32 → Int32 → Int32 → Ix → Lx → Prop} (hQ : ∀ (r : Int32) (I1 : Ix) (L1 : Lx), FrI (wsI_X12_takersOf) (fsI_X12_takersOf) I0 I1 → FrL (wsL_X12_takersOf) (fsL_X12_takersOf) L0 L1 → Q r I1 L1 → Q' r I1 L1) (hP4 : ∀ (v1 : Int32) (v2 : Int32) (v3 : Int32) (I1 : Ix) (L1 : Lx), FrI (wsI_X12_takersOf) (fsI_X12_takersOf) I0 I1 → FrL (wsL_X12_takersOf) (fsL_X12_takersOf) L0 L1 → P4 v1 v2 v3 I1 L1 → P4' v1 v2 v3 I1 L1) {v1 : Int32} {v2 : Int32} {v3 : Int32} {I : Ix} {L : Lx} (hF : FrI (wsI_X12_takersOf) (fsI_X12_takersOf) I0 I) (hL : FrL (wsL_X12_takersOf) (fsL_X12_takersOf) L0 L) (h : wpX12_takersOf_l4 Q P4 v1 v2 v3 I L) : wpX12_takersOf_l4 Q' P4' v1 v2 v3 I L := by
  unfold wpX12_takersOf_l4 at h ⊢
  refine ⟨fun hc => ?_, fun hc => ?_⟩
  · have h := h.1 hc
    exact hQ _ _ _ hF hL h
  · have h := h.2 hc
    refine ⟨h.1, ?_⟩
    have h := h.2
    refine ⟨fun hc => ?_, fun hc => ?_⟩
    · have h := h.1 hc
      exact hP4 _ _ _ _ _ hF hL h
    · have h := h.2 hc
      refine mnX12_forceOf (fun r3 I1 L2 hf hl h => ?_) h
      have hF := hF.tr hf (by decide) (by decide)
      have hL := hL.tr hl (by decide) (by decide)
      refine mnX12_heavyOf (fun r6 I4 L5 hf hl h => ?_) h
      have hF := hF.tr hf (by decide) (by decide)
      have hL := hL.tr hl (by decide) (by decide)
      refine ⟨fun hc => ?_, fun hc => ?_⟩
      · have h := h.1 hc
        exact hP4 _ _ _ _ _ hF hL h
      · have h := h.2 hc
        exact hP4 _ _ _ _ _ hF hL h
set_option maxRecDepth 10000 in
theorem mnX12_takersOf_h4 {I0 : Ix} {L0 : Lx} {Q Q' : Int32 → Ix → Lx → Prop} (hQ : ∀ (r : Int32) (I1 : Ix) (L1 : Lx), FrI (wsI_X12_takersOf) (fsI_X12_takersOf) I0 I1 → FrL (wsL_X12_takersOf) (fsL_X12_takersOf) L0 L1 → Q r I1 L1 → Q' r I1 L1) {v1 : Int32} {v2 : Int32} {v3 : Int32} {I : Ix} {L : Lx} (hF : FrI (wsI_X12_takersOf) (fsI_X12_takersOf) I0 I) (hL : FrL (wsL_X12_takersOf) (fsL_X12_takersOf) L0 L) (h : wpX12_takersOf_h4 Q v1 v2 v3 I L) : wpX12_takersOf_h4 Q' v1 v2 v3 I L := by
  unfold wpX12_takersOf_h4 at h
  refine Lfp.ind (P := fun z => FrI (wsI_X12_takersOf) (fsI_X12_takersOf) I0 z.2.2.2.1 → FrL (wsL_X12_takersOf) (fsL_X12_takersOf) L0 z.2.2.2.2 → wpX12_takersOf_h4 Q' z.1 z.2.1 z.2.2.1 z.2.2.2.1 z.2.2.2.2) ?_ h hF hL
  intro z P' hP' h hF hL
  obtain ⟨v1, v2, v3, I, L⟩ := z
  exact wpX12_takersOf_h4_fold (mnX12_takersOf_l4 hQ (fun v1 v2 v3 I L hF hL h9 => hP' (v1, v2, v3, I, L) h9 hF hL) hF hL h)
set_option maxRecDepth 10000 in
theorem mnX12_takersOf {a1 : Int32} {I : Ix} {L : Lx} {Q Q' : Int32 → Ix → Lx → Prop} (hQ : ∀ (r : Int32) (I1 : Ix) (L1 : Lx), FrI (wsI_X12_takersOf) (fsI_X12_takersOf) I I1 → FrL (wsL_X12_takersOf) (fsL_X12_takersOf) L L1 → Q r I1 L1 → Q' r I1 L1) (h : wpX12_takersOf a1 I L Q) : wpX12_takersOf a1 I L Q' := by
  have hF : FrI (wsI_X12_takersOf) (fsI_X12_takersOf) I I := FrI.rf
  have hL : FrL (wsL_X12_takersOf) (fsL_X12_takersOf) L L := FrL.rf
  unfold wpX12_takersOf at h ⊢
  exact mnX12_takersOf_h4 hQ hF hL h
abbrev wsI_X12_giveBy : List Nat := [143, 145]
abbrev wsL_X12_giveBy : List Nat := []
abbrev fsI_X12_giveBy : List (Nat × Nat) := [(120, 58)]
abbrev fsL_X12_giveBy : List (Nat × Nat) := []
set_option maxRecDepth 10000 in
theorem mnX12_giveBy_b98 {I0 : Ix} {L0 : Lx} {Q Q' : Ix → Lx → Prop} (hQ : ∀ (I1 : Ix) (L1 : Lx), FrI (wsI_X12_giveBy) (fsI_X12_giveBy) I0 I1 → FrL (wsL_X12_giveBy) (fsL_X12_giveBy) L0 L1 → Q I1 L1 → Q' I1 L1) {t1 : Int32} {t2 : Int32} {I : Ix} {L : Lx} (hF : FrI (wsI_X12_giveBy) (fsI_X12_giveBy) I0 I) (hL : FrL (wsL_X12_giveBy) (fsL_X12_giveBy) L0 L) (h : wpX12_giveBy_b98 Q t1 t2 I L) : wpX12_giveBy_b98 Q' t1 t2 I L := by
  unfold wpX12_giveBy_b98 at h ⊢
  refine ⟨h.1, ?_⟩
  have h := h.2
  intro I1 eI1
  have h := h I1 eI1
  have hF := hF.pw eI1 (by decide)
  exact hQ _ _ hF hL h
set_option maxRecDepth 10000 in
theorem mnX12_giveBy_b44 {I0 : Ix} {L0 : Lx} {Q Q' : Ix → Lx → Prop} (hQ : ∀ (I1 : Ix) (L1 : Lx), FrI (wsI_X12_giveBy) (fsI_X12_giveBy) I0 I1 → FrL (wsL_X12_giveBy) (fsL_X12_giveBy) L0 L1 → Q I1 L1 → Q' I1 L1) {v1 : Int32} {v2 : Int32} {v3 : Int32} {I : Ix} {L : Lx} (hF : FrI (wsI_X12_giveBy) (fsI_X12_giveBy) I0 I) (hL : FrL (wsL_X12_giveBy) (fsL_X12_giveBy) L0 L) (h : wpX12_giveBy_b44 Q v1 v2 v3 I L) : wpX12_giveBy_b44 Q' v1 v2 v3 I L := by
  unfold wpX12_giveBy_b44 at h ⊢
  refine ⟨fun hc => ?_, fun hc => ?_⟩
  · have h := h.1 hc
    refine mnX12_ones (fun r3 I1 L2 hf hl h => ?_) h
    have hF := hF.tr hf (by decide) (by decide)
    have hL := hL.tr hl (by decide) (by decide)
    refine ⟨fun hc => ?_, fun hc => ?_⟩
    · have h := h.1 hc
      refine ⟨fun hc => ?_, fun hc => ?_⟩
      · have h := h.1 hc
        refine mnX12_draw (fun r6 I4 L5 hf hl h => ?_) h
        have hF := hF.tr hf (by decide) (by decide)
        have hL := hL.tr hl (by decide) (by decide)
        refine mnX12_nth (fun r9 I7 L8 hf hl h => ?_) h
        have hF := hF.tr hf (by decide) (by decide)
        have hL := hL.tr hl (by decide) (by decide)
        exact mnX12_giveBy_b98 hQ hF hL h
      · have h := h.2 hc
        refine mnX12_nth (fun r12 I10 L11 hf hl h => ?_) h
        have hF := hF.tr hf (by decide) (by decide)
        have hL := hL.tr hl (by decide) (by decide)
        exact mnX12_giveBy_b98 hQ hF hL h
    · have h := h.2 hc
      refine mnX12_firstBy (fun r15 I13 L14 hf hl h => ?_) h
      have hF := hF.tr hf (by decide) (by decide)
      have hL := hL.tr hl (by decide) (by decide)
      exact mnX12_giveBy_b98 hQ hF hL h
  · have h := h.2 hc
    exact hQ _ _ hF hL h
set_option maxRecDepth 10000 in
theorem mnX12_giveBy {a1 : Int32} {a2 : Int32} {I : Ix} {L : Lx} {Q Q' : Ix → Lx → Prop} (hQ : ∀ (I1 : Ix) (L1 : Lx), FrI (wsI_X12_giveBy) (fsI_X12_giveBy) I I1 → FrL (wsL_X12_giveBy) (fsL_X12_giveBy) L L1 → Q I1 L1 → Q' I1 L1) (h : wpX12_giveBy a1 a2 I L Q) : wpX12_giveBy a1 a2 I L Q' := by
  have hF : FrI (wsI_X12_giveBy) (fsI_X12_giveBy) I I := FrI.rf
  have hL : FrL (wsL_X12_giveBy) (fsL_X12_giveBy) L L := FrL.rf
  unfold wpX12_giveBy at h ⊢
  refine mnX12_standersOf (fun r3 I1 L2 hf hl h => ?_) h
  have hF := hF.tr hf (by decide) (by decide)
  have hL := hL.tr hl (by decide) (by decide)
  refine mnX12_ones (fun r6 I4 L5 hf hl h => ?_) h
  have hF := hF.tr hf (by decide) (by decide)
  have hL := hL.tr hl (by decide) (by decide)
  refine ⟨h.1, ?_⟩
  have h := h.2
  intro I7 eI7
  have h := h I7 eI7
  have hF := hF.pw eI7 (by decide)
  refine mnX12_takersOf (fun r10 I8 L9 hf hl h => ?_) h
  have hF := hF.tr hf (by decide) (by decide)
  have hL := hL.tr hl (by decide) (by decide)
  refine ⟨h.1, ?_⟩
  have h := h.2
  refine ⟨fun hc => ?_, fun hc => ?_⟩
  · have h := h.1 hc
    exact mnX12_giveBy_b44 hQ hF hL h
  · have h := h.2 hc
    refine mnX12_heavyOf (fun r13 I11 L12 hf hl h => ?_) h
    have hF := hF.tr hf (by decide) (by decide)
    have hL := hL.tr hl (by decide) (by decide)
    refine ⟨fun hc => ?_, fun hc => ?_⟩
    · have h := h.1 hc
      exact mnX12_giveBy_b44 hQ hF hL h
    · have h := h.2 hc
      refine ⟨h.1, ?_⟩
      have h := h.2
      intro I14 eI14
      have h := h I14 eI14
      have hF := hF.pw eI14 (by decide)
      exact mnX12_giveBy_b44 hQ hF hL h
abbrev wsI_X12_noonOf : List Nat := [147, 160, 159, 129, 130, 143, 145]
abbrev wsL_X12_noonOf : List Nat := []
abbrev fsI_X12_noonOf : List (Nat × Nat) := [(120, 77), (120, 58)]
abbrev fsL_X12_noonOf : List (Nat × Nat) := []
set_option maxRecDepth 10000 in
theorem mnX12_noonOf_l62 {I0 : Ix} {L0 : Lx} {Q Q' : Ix → Lx → Prop} {P62 P62' : Int32 → Int32 → Ix → Lx → Prop} (hQ : ∀ (I1 : Ix) (L1 : Lx), FrI (wsI_X12_noonOf) (fsI_X12_noonOf) I0 I1 → FrL (wsL_X12_noonOf) (fsL_X12_noonOf) L0 L1 → Q I1 L1 → Q' I1 L1) (hP62 : ∀ (v1 : Int32) (v3 : Int32) (I1 : Ix) (L1 : Lx), FrI (wsI_X12_noonOf) (fsI_X12_noonOf) I0 I1 → FrL (wsL_X12_noonOf) (fsL_X12_noonOf) L0 L1 → P62 v1 v3 I1 L1 → P62' v1 v3 I1 L1) {v1 : Int32} {v3 : Int32} {I : Ix} {L : Lx} (hF : FrI (wsI_X12_noonOf) (fsI_X12_noonOf) I0 I) (hL : FrL (wsL_X12_noonOf) (fsL_X12_noonOf) L0 L) (h : wpX12_noonOf_l62 Q P62 v1 v3 I L) : wpX12_noonOf_l62 Q' P62' v1 v3 I L := by
  unfold wpX12_noonOf_l62 at h ⊢
  refine ⟨fun hc => ?_, fun hc => ?_⟩
  · have h := h.1 hc
    exact hQ _ _ hF hL h
  · have h := h.2 hc
    refine ⟨h.1, ?_⟩
    have h := h.2
    refine ⟨fun hc => ?_, fun hc => ?_⟩
    · have h := h.1 hc
      exact hP62 _ _ _ _ hF hL h
    · have h := h.2 hc
      refine ⟨h.1, ?_⟩
      have h := h.2
      refine mnX12_placeOf (fun r3 I1 L2 hf hl h => ?_) h
      have hF := hF.tr hf (by decide) (by decide)
      have hL := hL.tr hl (by decide) (by decide)
      refine ⟨fun hc => ?_, fun hc => ?_⟩
      · have h := h.1 hc
        refine ⟨h.1, ?_⟩
        have h := h.2
        intro I4 eI4
        have h := h I4 eI4
        have hF := hF.pw eI4 (by decide)
        refine ⟨h.1, ?_⟩
        have h := h.2
        refine mnX12_goTo (fun I5 L6 hf hl h => ?_) h
        have hF := hF.tr hf (by decide) (by decide)
        have hL := hL.tr hl (by decide) (by decide)
        exact hP62 _ _ _ _ hF hL h
      · have h := h.2 hc
        exact hP62 _ _ _ _ hF hL h
set_option maxRecDepth 10000 in
theorem mnX12_noonOf_h62 {I0 : Ix} {L0 : Lx} {Q Q' : Ix → Lx → Prop} (hQ : ∀ (I1 : Ix) (L1 : Lx), FrI (wsI_X12_noonOf) (fsI_X12_noonOf) I0 I1 → FrL (wsL_X12_noonOf) (fsL_X12_noonOf) L0 L1 → Q I1 L1 → Q' I1 L1) {v1 : Int32} {v3 : Int32} {I : Ix} {L : Lx} (hF : FrI (wsI_X12_noonOf) (fsI_X12_noonOf) I0 I) (hL : FrL (wsL_X12_noonOf) (fsL_X12_noonOf) L0 L) (h : wpX12_noonOf_h62 Q v1 v3 I L) : wpX12_noonOf_h62 Q' v1 v3 I L := by
  unfold wpX12_noonOf_h62 at h
  refine Lfp.ind (P := fun z => FrI (wsI_X12_noonOf) (fsI_X12_noonOf) I0 z.2.2.1 → FrL (wsL_X12_noonOf) (fsL_X12_noonOf) L0 z.2.2.2 → wpX12_noonOf_h62 Q' z.1 z.2.1 z.2.2.1 z.2.2.2) ?_ h hF hL
  intro z P' hP' h hF hL
  obtain ⟨v1, v3, I, L⟩ := z
  exact wpX12_noonOf_h62_fold (mnX12_noonOf_l62 hQ (fun v1 v3 I L hF hL h9 => hP' (v1, v3, I, L) h9 hF hL) hF hL h)
set_option maxRecDepth 10000 in
theorem mnX12_noonOf_b48 {I0 : Ix} {L0 : Lx} {Q Q' : Ix → Lx → Prop} {P2 P2' : Int32 → Int32 → Int32 → Ix → Lx → Prop} (hQ : ∀ (I1 : Ix) (L1 : Lx), FrI (wsI_X12_noonOf) (fsI_X12_noonOf) I0 I1 → FrL (wsL_X12_noonOf) (fsL_X12_noonOf) L0 L1 → Q I1 L1 → Q' I1 L1) (hP2 : ∀ (v1 : Int32) (v2 : Int32) (v3 : Int32) (I1 : Ix) (L1 : Lx), FrI (wsI_X12_noonOf) (fsI_X12_noonOf) I0 I1 → FrL (wsL_X12_noonOf) (fsL_X12_noonOf) L0 L1 → P2 v1 v2 v3 I1 L1 → P2' v1 v2 v3 I1 L1) {v1 : Int32} {v2 : Int32} {v3 : Int32} {I : Ix} {L : Lx} (hF : FrI (wsI_X12_noonOf) (fsI_X12_noonOf) I0 I) (hL : FrL (wsL_X12_noonOf) (fsL_X12_noonOf) L0 L) (h : wpX12_noonOf_b48 Q P2 v1 v2 v3 I L) : wpX12_noonOf_b48 Q' P2' v1 v2 v3 I L := by
  unfold wpX12_noonOf_b48 at h ⊢
  refine mnX12_giveBy (fun I1 L2 hf hl h => ?_) h
  have hF := hF.tr hf (by decide) (by decide)
  have hL := hL.tr hl (by decide) (by decide)
  exact hP2 _ _ _ _ _ hF hL h
set_option maxRecDepth 10000 in
theorem mnX12_noonOf_l2 {I0 : Ix} {L0 : Lx} {Q Q' : Ix → Lx → Prop} {P2 P2' : Int32 → Int32 → Int32 → Ix → Lx → Prop} (hQ : ∀ (I1 : Ix) (L1 : Lx), FrI (wsI_X12_noonOf) (fsI_X12_noonOf) I0 I1 → FrL (wsL_X12_noonOf) (fsL_X12_noonOf) L0 L1 → Q I1 L1 → Q' I1 L1) (hP2 : ∀ (v1 : Int32) (v2 : Int32) (v3 : Int32) (I1 : Ix) (L1 : Lx), FrI (wsI_X12_noonOf) (fsI_X12_noonOf) I0 I1 → FrL (wsL_X12_noonOf) (fsL_X12_noonOf) L0 L1 → P2 v1 v2 v3 I1 L1 → P2' v1 v2 v3 I1 L1) {v1 : Int32} {v2 : Int32} {v3 : Int32} {I : Ix} {L : Lx} (hF : FrI (wsI_X12_noonOf) (fsI_X12_noonOf) I0 I) (hL : FrL (wsL_X12_noonOf) (fsL_X12_noonOf) L0 L) (h : wpX12_noonOf_l2 Q P2 v1 v2 v3 I L) : wpX12_noonOf_l2 Q' P2' v1 v2 v3 I L := by
  unfold wpX12_noonOf_l2 at h ⊢
  refine ⟨fun hc => ?_, fun hc => ?_⟩
  · have h := h.1 hc
    exact mnX12_noonOf_h62 hQ hF hL h
  · have h := h.2 hc
    refine mnX12_placeOf (fun r3 I1 L2 hf hl h => ?_) h
    have hF := hF.tr hf (by decide) (by decide)
    have hL := hL.tr hl (by decide) (by decide)
    refine ⟨fun hc => ?_, fun hc => ?_⟩
    · have h := h.1 hc
      exact hP2 _ _ _ _ _ hF hL h
    · have h := h.2 hc
      refine ⟨h.1, ?_⟩
      have h := h.2
      refine ⟨fun hc => ?_, fun hc => ?_⟩
      · have h := h.1 hc
        refine ⟨fun hc => ?_, fun hc => ?_⟩
        · have h := h.1 hc
          exact mnX12_noonOf_b48 hQ hP2 hF hL h
        · have h := h.2 hc
          refine mnX12_takersOf (fun r6 I4 L5 hf hl h => ?_) h
          have hF := hF.tr hf (by decide) (by decide)
          have hL := hL.tr hl (by decide) (by decide)
          intro I7 eI7
          have h := h I7 eI7
          have hF := hF.pf eI7 (by decide)
          exact mnX12_noonOf_b48 hQ hP2 hF hL h
      · have h := h.2 hc
        exact hP2 _ _ _ _ _ hF hL h
set_option maxRecDepth 10000 in
theorem mnX12_noonOf_h2 {I0 : Ix} {L0 : Lx} {Q Q' : Ix → Lx → Prop} (hQ : ∀ (I1 : Ix) (L1 : Lx), FrI (wsI_X12_noonOf) (fsI_X12_noonOf) I0 I1 → FrL (wsL_X12_noonOf) (fsL_X12_noonOf) L0 L1 → Q I1 L1 → Q' I1 L1) {v1 : Int32} {v2 : Int32} {v3 : Int32} {I : Ix} {L : Lx} (hF : FrI (wsI_X12_noonOf) (fsI_X12_noonOf) I0 I) (hL : FrL (wsL_X12_noonOf) (fsL_X12_noonOf) L0 L) (h : wpX12_noonOf_h2 Q v1 v2 v3 I L) : wpX12_noonOf_h2 Q' v1 v2 v3 I L := by
  unfold wpX12_noonOf_h2 at h
  refine Lfp.ind (P := fun z => FrI (wsI_X12_noonOf) (fsI_X12_noonOf) I0 z.2.2.2.1 → FrL (wsL_X12_noonOf) (fsL_X12_noonOf) L0 z.2.2.2.2 → wpX12_noonOf_h2 Q' z.1 z.2.1 z.2.2.1 z.2.2.2.1 z.2.2.2.2) ?_ h hF hL
  intro z P' hP' h hF hL
  obtain ⟨v1, v2, v3, I, L⟩ := z
  exact wpX12_noonOf_h2_fold (mnX12_noonOf_l2 hQ (fun v1 v2 v3 I L hF hL h9 => hP' (v1, v2, v3, I, L) h9 hF hL) hF hL h)
set_option maxRecDepth 10000 in
theorem mnX12_noonOf {a1 : Int32} {a2 : Int32} {I : Ix} {L : Lx} {Q Q' : Ix → Lx → Prop} (hQ : ∀ (I1 : Ix) (L1 : Lx), FrI (wsI_X12_noonOf) (fsI_X12_noonOf) I I1 → FrL (wsL_X12_noonOf) (fsL_X12_noonOf) L L1 → Q I1 L1 → Q' I1 L1) (h : wpX12_noonOf a1 a2 I L Q) : wpX12_noonOf a1 a2 I L Q' := by
  have hF : FrI (wsI_X12_noonOf) (fsI_X12_noonOf) I I := FrI.rf
  have hL : FrL (wsL_X12_noonOf) (fsL_X12_noonOf) L L := FrL.rf
  unfold wpX12_noonOf at h ⊢
  exact mnX12_noonOf_h2 hQ hF hL h
abbrev wsI_X12_beginNoons : List Nat := [157, 158]
abbrev wsL_X12_beginNoons : List Nat := []
abbrev fsI_X12_beginNoons : List (Nat × Nat) := [(120, 75)]
abbrev fsL_X12_beginNoons : List (Nat × Nat) := []
set_option maxRecDepth 10000 in
theorem mnX12_beginNoons_l2 {I0 : Ix} {L0 : Lx} {Q Q' : Ix → Lx → Prop} {P2 P2' : Int32 → Int32 → Ix → Lx → Prop} (hQ : ∀ (I1 : Ix) (L1 : Lx), FrI (wsI_X12_beginNoons) (fsI_X12_beginNoons) I0 I1 → FrL (wsL_X12_beginNoons) (fsL_X12_beginNoons) L0 L1 → Q I1 L1 → Q' I1 L1) (hP2 : ∀ (v1 : Int32) (v2 : Int32) (I1 : Ix) (L1 : Lx), FrI (wsI_X12_beginNoons) (fsI_X12_beginNoons) I0 I1 → FrL (wsL_X12_beginNoons) (fsL_X12_beginNoons) L0 L1 → P2 v1 v2 I1 L1 → P2' v1 v2 I1 L1) {v1 : Int32} {v2 : Int32} {I : Ix} {L : Lx} (hF : FrI (wsI_X12_beginNoons) (fsI_X12_beginNoons) I0 I) (hL : FrL (wsL_X12_beginNoons) (fsL_X12_beginNoons) L0 L) (h : wpX12_beginNoons_l2 Q P2 v1 v2 I L) : wpX12_beginNoons_l2 Q' P2' v1 v2 I L := by
  unfold wpX12_beginNoons_l2 at h ⊢
  refine ⟨fun hc => ?_, fun hc => ?_⟩
  · have h := h.1 hc
    intro I1 eI1
    have h := h I1 eI1
    have hF := hF.pf eI1 (by decide)
    exact hQ _ _ hF hL h
  · have h := h.2 hc
    refine ⟨h.1, ?_⟩
    have h := h.2
    refine ⟨h.1, ?_⟩
    have h := h.2
    intro I2 eI2
    have h := h I2 eI2
    have hF := hF.pw eI2 (by decide)
    refine ⟨h.1, ?_⟩
    have h := h.2
    refine ⟨h.1, ?_⟩
    have h := h.2
    intro I3 eI3
    have h := h I3 eI3
    have hF := hF.pw eI3 (by decide)
    exact hP2 _ _ _ _ hF hL h
set_option maxRecDepth 10000 in
theorem mnX12_beginNoons_h2 {I0 : Ix} {L0 : Lx} {Q Q' : Ix → Lx → Prop} (hQ : ∀ (I1 : Ix) (L1 : Lx), FrI (wsI_X12_beginNoons) (fsI_X12_beginNoons) I0 I1 → FrL (wsL_X12_beginNoons) (fsL_X12_beginNoons) L0 L1 → Q I1 L1 → Q' I1 L1) {v1 : Int32} {v2 : Int32} {I : Ix} {L : Lx} (hF : FrI (wsI_X12_beginNoons) (fsI_X12_beginNoons) I0 I) (hL : FrL (wsL_X12_beginNoons) (fsL_X12_beginNoons) L0 L) (h : wpX12_beginNoons_h2 Q v1 v2 I L) : wpX12_beginNoons_h2 Q' v1 v2 I L := by
  unfold wpX12_beginNoons_h2 at h
  refine Lfp.ind (P := fun z => FrI (wsI_X12_beginNoons) (fsI_X12_beginNoons) I0 z.2.2.1 → FrL (wsL_X12_beginNoons) (fsL_X12_beginNoons) L0 z.2.2.2 → wpX12_beginNoons_h2 Q' z.1 z.2.1 z.2.2.1 z.2.2.2) ?_ h hF hL
  intro z P' hP' h hF hL
  obtain ⟨v1, v2, I, L⟩ := z
  exact wpX12_beginNoons_h2_fold (mnX12_beginNoons_l2 hQ (fun v1 v2 I L hF hL h9 => hP' (v1, v2, I, L) h9 hF hL) hF hL h)
set_option maxRecDepth 10000 in
theorem mnX12_beginNoons {a1 : Int32} {I : Ix} {L : Lx} {Q Q' : Ix → Lx → Prop} (hQ : ∀ (I1 : Ix) (L1 : Lx), FrI (wsI_X12_beginNoons) (fsI_X12_beginNoons) I I1 → FrL (wsL_X12_beginNoons) (fsL_X12_beginNoons) L L1 → Q I1 L1 → Q' I1 L1) (h : wpX12_beginNoons a1 I L Q) : wpX12_beginNoons a1 I L Q' := by
  have hF : FrI (wsI_X12_beginNoons) (fsI_X12_beginNoons) I I := FrI.rf
  have hL : FrL (wsL_X12_beginNoons) (fsL_X12_beginNoons) L L := FrL.rf
  unfold wpX12_beginNoons at h ⊢
  exact mnX12_beginNoons_h2 hQ hF hL h
abbrev wsI_X12_doNoons : List Nat := [147, 160, 159, 129, 130, 143, 145, 157, 158]
abbrev wsL_X12_doNoons : List Nat := []
abbrev fsI_X12_doNoons : List (Nat × Nat) := [(120, 77), (120, 58), (120, 75)]
abbrev fsL_X12_doNoons : List (Nat × Nat) := []
set_option maxRecDepth 10000 in
theorem mnX12_doNoons_l51 {I0 : Ix} {L0 : Lx} {Q Q' : Ix → Lx → Prop} {P42 P42' : Int32 → Int32 → Ix → Lx → Prop} {P51 P51' : Int32 → Int32 → Int32 → Ix → Lx → Prop} (hQ : ∀ (I1 : Ix) (L1 : Lx), FrI (wsI_X12_doNoons) (fsI_X12_doNoons) I0 I1 → FrL (wsL_X12_doNoons) (fsL_X12_doNoons) L0 L1 → Q I1 L1 → Q' I1 L1) (hP42 : ∀ (v1 : Int32) (v3 : Int32) (I1 : Ix) (L1 : Lx), FrI (wsI_X12_doNoons) (fsI_X12_doNoons) I0 I1 → FrL (wsL_X12_doNoons) (fsL_X12_doNoons) L0 L1 → P42 v1 v3 I1 L1 → P42' v1 v3 I1 L1) (hP51 : ∀ (v1 : Int32) (v3 : Int32) (v4 : Int32) (I1 : Ix) (L1 : Lx), FrI (wsI_X12_doNoons) (fsI_X12_doNoons) I0 I1 → FrL (wsL_X12_doNoons) (fsL_X12_doNoons) L0 L1 → P51 v1 v3 v4 I1 L1 → P51' v1 v3 v4 I1 L1) {v1 : Int32} {v3 : Int32} {v4 : Int32} {I : Ix} {L : Lx} (hF : FrI (wsI_X12_doNoons) (fsI_X12_doNoons) I0 I) (hL : FrL (wsL_X12_doNoons) (fsL_X12_doNoons) L0 L) (h : wpX12_doNoons_l51 Q P42 P51 v1 v3 v4 I L) : wpX12_doNoons_l51 Q' P42' P51' v1 v3 v4 I L := by
  unfold wpX12_doNoons_l51 at h ⊢
  refine ⟨fun hc => ?_, fun hc => ?_⟩
  · have h := h.1 hc
    exact hP42 _ _ _ _ hF hL h
  · have h := h.2 hc
    refine ⟨h.1, ?_⟩
    have h := h.2
    refine ⟨fun hc => ?_, fun hc => ?_⟩
    · have h := h.1 hc
      exact hP51 _ _ _ _ _ hF hL h
    · have h := h.2 hc
      refine mnX12_noonOf (fun I1 L2 hf hl h => ?_) h
      have hF := hF.tr hf (by decide) (by decide)
      have hL := hL.tr hl (by decide) (by decide)
      exact hP51 _ _ _ _ _ hF hL h
set_option maxRecDepth 10000 in
theorem mnX12_doNoons_h51 {I0 : Ix} {L0 : Lx} {Q Q' : Ix → Lx → Prop} {P42 P42' : Int32 → Int32 → Ix → Lx → Prop} (hQ : ∀ (I1 : Ix) (L1 : Lx), FrI (wsI_X12_doNoons) (fsI_X12_doNoons) I0 I1 → FrL (wsL_X12_doNoons) (fsL_X12_doNoons) L0 L1 → Q I1 L1 → Q' I1 L1) (hP42 : ∀ (v1 : Int32) (v3 : Int32) (I1 : Ix) (L1 : Lx), FrI (wsI_X12_doNoons) (fsI_X12_doNoons) I0 I1 → FrL (wsL_X12_doNoons) (fsL_X12_doNoons) L0 L1 → P42 v1 v3 I1 L1 → P42' v1 v3 I1 L1) {v1 : Int32} {v3 : Int32} {v4 : Int32} {I : Ix} {L : Lx} (hF : FrI (wsI_X12_doNoons) (fsI_X12_doNoons) I0 I) (hL : FrL (wsL_X12_doNoons) (fsL_X12_doNoons) L0 L) (h : wpX12_doNoons_h51 Q P42 v1 v3 v4 I L) : wpX12_doNoons_h51 Q' P42' v1 v3 v4 I L := by
  unfold wpX12_doNoons_h51 at h
  refine Lfp.ind (P := fun z => FrI (wsI_X12_doNoons) (fsI_X12_doNoons) I0 z.2.2.2.1 → FrL (wsL_X12_doNoons) (fsL_X12_doNoons) L0 z.2.2.2.2 → wpX12_doNoons_h51 Q' P42' z.1 z.2.1 z.2.2.1 z.2.2.2.1 z.2.2.2.2) ?_ h hF hL
  intro z P' hP' h hF hL
  obtain ⟨v1, v3, v4, I, L⟩ := z
  exact wpX12_doNoons_h51_fold (mnX12_doNoons_l51 hQ hP42 (fun v1 v3 v4 I L hF hL h9 => hP' (v1, v3, v4, I, L) h9 hF hL) hF hL h)
set_option maxRecDepth 10000 in
theorem mnX12_doNoons_l42 {I0 : Ix} {L0 : Lx} {Q Q' : Ix → Lx → Prop} {P42 P42' : Int32 → Int32 → Ix → Lx → Prop} (hQ : ∀ (I1 : Ix) (L1 : Lx), FrI (wsI_X12_doNoons) (fsI_X12_doNoons) I0 I1 → FrL (wsL_X12_doNoons) (fsL_X12_doNoons) L0 L1 → Q I1 L1 → Q' I1 L1) (hP42 : ∀ (v1 : Int32) (v3 : Int32) (I1 : Ix) (L1 : Lx), FrI (wsI_X12_doNoons) (fsI_X12_doNoons) I0 I1 → FrL (wsL_X12_doNoons) (fsL_X12_doNoons) L0 L1 → P42 v1 v3 I1 L1 → P42' v1 v3 I1 L1) {v1 : Int32} {v3 : Int32} {I : Ix} {L : Lx} (hF : FrI (wsI_X12_doNoons) (fsI_X12_doNoons) I0 I) (hL : FrL (wsL_X12_doNoons) (fsL_X12_doNoons) L0 L) (h : wpX12_doNoons_l42 Q P42 v1 v3 I L) : wpX12_doNoons_l42 Q' P42' v1 v3 I L := by
  unfold wpX12_doNoons_l42 at h ⊢
  refine ⟨fun hc => ?_, fun hc => ?_⟩
  · have h := h.1 hc
    exact hQ _ _ hF hL h
  · have h := h.2 hc
    exact mnX12_doNoons_h51 hQ hP42 hF hL h
set_option maxRecDepth 10000 in
theorem mnX12_doNoons_h42 {I0 : Ix} {L0 : Lx} {Q Q' : Ix → Lx → Prop} (hQ : ∀ (I1 : Ix) (L1 : Lx), FrI (wsI_X12_doNoons) (fsI_X12_doNoons) I0 I1 → FrL (wsL_X12_doNoons) (fsL_X12_doNoons) L0 L1 → Q I1 L1 → Q' I1 L1) {v1 : Int32} {v3 : Int32} {I : Ix} {L : Lx} (hF : FrI (wsI_X12_doNoons) (fsI_X12_doNoons) I0 I) (hL : FrL (wsL_X12_doNoons) (fsL_X12_doNoons) L0 L) (h : wpX12_doNoons_h42 Q v1 v3 I L) : wpX12_doNoons_h42 Q' v1 v3 I L := by
  unfold wpX12_doNoons_h42 at h
  refine Lfp.ind (P := fun z => FrI (wsI_X12_doNoons) (fsI_X12_doNoons) I0 z.2.2.1 → FrL (wsL_X12_doNoons) (fsL_X12_doNoons) L0 z.2.2.2 → wpX12_doNoons_h42 Q' z.1 z.2.1 z.2.2.1 z.2.2.2) ?_ h hF hL
  intro z P' hP' h hF hL
  obtain ⟨v1, v3, I, L⟩ := z
  exact wpX12_doNoons_h42_fold (mnX12_doNoons_l42 hQ (fun v1 v3 I L hF hL h9 => hP' (v1, v3, I, L) h9 hF hL) hF hL h)
set_option maxRecDepth 10000 in
theorem mnX12_doNoons_b31 {I0 : Ix} {L0 : Lx} {Q Q' : Ix → Lx → Prop} {P10 P10' : Int32 → Int32 → Int32 → Ix → Lx → Prop} (hQ : ∀ (I1 : Ix) (L1 : Lx), FrI (wsI_X12_doNoons) (fsI_X12_doNoons) I0 I1 → FrL (wsL_X12_doNoons) (fsL_X12_doNoons) L0 L1 → Q I1 L1 → Q' I1 L1) (hP10 : ∀ (v1 : Int32) (v2 : Int32) (v3 : Int32) (I1 : Ix) (L1 : Lx), FrI (wsI_X12_doNoons) (fsI_X12_doNoons) I0 I1 → FrL (wsL_X12_doNoons) (fsL_X12_doNoons) L0 L1 → P10 v1 v2 v3 I1 L1 → P10' v1 v2 v3 I1 L1) {v1 : Int32} {v2 : Int32} {v3 : Int32} {t1 : Int32} {t2 : Int32} {t3 : Int32} {I : Ix} {L : Lx} (hF : FrI (wsI_X12_doNoons) (fsI_X12_doNoons) I0 I) (hL : FrL (wsL_X12_doNoons) (fsL_X12_doNoons) L0 L) (h : wpX12_doNoons_b31 Q P10 v1 v2 v3 t1 t2 t3 I L) : wpX12_doNoons_b31 Q' P10' v1 v2 v3 t1 t2 t3 I L := by
  unfold wpX12_doNoons_b31 at h ⊢
  refine mnX12_goTo (fun I1 L2 hf hl h => ?_) h
  have hF := hF.tr hf (by decide) (by decide)
  have hL := hL.tr hl (by decide) (by decide)
  exact hP10 _ _ _ _ _ hF hL h
set_option maxRecDepth 10000 in
theorem mnX12_doNoons_l10 {I0 : Ix} {L0 : Lx} {Q Q' : Ix → Lx → Prop} {P10 P10' : Int32 → Int32 → Int32 → Ix → Lx → Prop} (hQ : ∀ (I1 : Ix) (L1 : Lx), FrI (wsI_X12_doNoons) (fsI_X12_doNoons) I0 I1 → FrL (wsL_X12_doNoons) (fsL_X12_doNoons) L0 L1 → Q I1 L1 → Q' I1 L1) (hP10 : ∀ (v1 : Int32) (v2 : Int32) (v3 : Int32) (I1 : Ix) (L1 : Lx), FrI (wsI_X12_doNoons) (fsI_X12_doNoons) I0 I1 → FrL (wsL_X12_doNoons) (fsL_X12_doNoons) L0 L1 → P10 v1 v2 v3 I1 L1 → P10' v1 v2 v3 I1 L1) {v1 : Int32} {v2 : Int32} {v3 : Int32} {I : Ix} {L : Lx} (hF : FrI (wsI_X12_doNoons) (fsI_X12_doNoons) I0 I) (hL : FrL (wsL_X12_doNoons) (fsL_X12_doNoons) L0 L) (h : wpX12_doNoons_l10 Q P10 v1 v2 v3 I L) : wpX12_doNoons_l10 Q' P10' v1 v2 v3 I L := by
  unfold wpX12_doNoons_l10 at h ⊢
  refine ⟨fun hc => ?_, fun hc => ?_⟩
  · have h := h.1 hc
    exact mnX12_doNoons_h42 hQ hF hL h
  · have h := h.2 hc
    refine ⟨fun hc => ?_, fun hc => ?_⟩
    · have h := h.1 hc
      exact mnX12_doNoons_b31 hQ hP10 hF hL h
    · have h := h.2 hc
      exact mnX12_doNoons_b31 hQ hP10 hF hL h
set_option maxRecDepth 10000 in
theorem mnX12_doNoons_h10 {I0 : Ix} {L0 : Lx} {Q Q' : Ix → Lx → Prop} (hQ : ∀ (I1 : Ix) (L1 : Lx), FrI (wsI_X12_doNoons) (fsI_X12_doNoons) I0 I1 → FrL (wsL_X12_doNoons) (fsL_X12_doNoons) L0 L1 → Q I1 L1 → Q' I1 L1) {v1 : Int32} {v2 : Int32} {v3 : Int32} {I : Ix} {L : Lx} (hF : FrI (wsI_X12_doNoons) (fsI_X12_doNoons) I0 I) (hL : FrL (wsL_X12_doNoons) (fsL_X12_doNoons) L0 L) (h : wpX12_doNoons_h10 Q v1 v2 v3 I L) : wpX12_doNoons_h10 Q' v1 v2 v3 I L := by
  unfold wpX12_doNoons_h10 at h
  refine Lfp.ind (P := fun z => FrI (wsI_X12_doNoons) (fsI_X12_doNoons) I0 z.2.2.2.1 → FrL (wsL_X12_doNoons) (fsL_X12_doNoons) L0 z.2.2.2.2 → wpX12_doNoons_h10 Q' z.1 z.2.1 z.2.2.1 z.2.2.2.1 z.2.2.2.2) ?_ h hF hL
  intro z P' hP' h hF hL
  obtain ⟨v1, v2, v3, I, L⟩ := z
  exact wpX12_doNoons_h10_fold (mnX12_doNoons_l10 hQ (fun v1 v2 v3 I L hF hL h9 => hP' (v1, v2, v3, I, L) h9 hF hL) hF hL h)
set_option maxRecDepth 10000 in
theorem mnX12_doNoons {a1 : Int32} {a2 : Int32} {I : Ix} {L : Lx} {Q Q' : Ix → Lx → Prop} (hQ : ∀ (I1 : Ix) (L1 : Lx), FrI (wsI_X12_doNoons) (fsI_X12_doNoons) I I1 → FrL (wsL_X12_doNoons) (fsL_X12_doNoons) L L1 → Q I1 L1 → Q' I1 L1) (h : wpX12_doNoons a1 a2 I L Q) : wpX12_doNoons a1 a2 I L Q' := by
  have hF : FrI (wsI_X12_doNoons) (fsI_X12_doNoons) I I := FrI.rf
  have hL : FrL (wsL_X12_doNoons) (fsL_X12_doNoons) L L := FrL.rf
  unfold wpX12_doNoons at h ⊢
  refine mnX12_beginNoons (fun I1 L2 hf hl h => ?_) h
  have hF := hF.tr hf (by decide) (by decide)
  have hL := hL.tr hl (by decide) (by decide)
  exact mnX12_doNoons_h10 hQ hF hL h
abbrev wsI_X12_mend : List Nat := [144]
abbrev wsL_X12_mend : List Nat := []
abbrev fsI_X12_mend : List (Nat × Nat) := []
abbrev fsL_X12_mend : List (Nat × Nat) := []
set_option maxRecDepth 10000 in
theorem mnX12_mend_b103 {I0 : Ix} {L0 : Lx} {Q Q' : Ix → Lx → Prop} (hQ : ∀ (I1 : Ix) (L1 : Lx), FrI (wsI_X12_mend) (fsI_X12_mend) I0 I1 → FrL (wsL_X12_mend) (fsL_X12_mend) L0 L1 → Q I1 L1 → Q' I1 L1) {t1 : Int32} {t2 : Int32} {I : Ix} {L : Lx} (hF : FrI (wsI_X12_mend) (fsI_X12_mend) I0 I) (hL : FrL (wsL_X12_mend) (fsL_X12_mend) L0 L) (h : wpX12_mend_b103 Q t1 t2 I L) : wpX12_mend_b103 Q' t1 t2 I L := by
  unfold wpX12_mend_b103 at h ⊢
  refine ⟨h.1, ?_⟩
  have h := h.2
  intro I1 eI1
  have h := h I1 eI1
  have hF := hF.pw eI1 (by decide)
  exact hQ _ _ hF hL h
set_option maxRecDepth 10000 in
theorem mnX12_mend_l4 {I0 : Ix} {L0 : Lx} {Q Q' : Ix → Lx → Prop} {P4 P4' : Int32 → Int32 → Int32 → Ix → Lx → Prop} (hQ : ∀ (I1 : Ix) (L1 : Lx), FrI (wsI_X12_mend) (fsI_X12_mend) I0 I1 → FrL (wsL_X12_mend) (fsL_X12_mend) L0 L1 → Q I1 L1 → Q' I1 L1) (hP4 : ∀ (v1 : Int32) (v2 : Int32) (v3 : Int32) (I1 : Ix) (L1 : Lx), FrI (wsI_X12_mend) (fsI_X12_mend) I0 I1 → FrL (wsL_X12_mend) (fsL_X12_mend) L0 L1 → P4 v1 v2 v3 I1 L1 → P4' v1 v2 v3 I1 L1) {v1 : Int32} {v2 : Int32} {v3 : Int32} {I : Ix} {L : Lx} (hF : FrI (wsI_X12_mend) (fsI_X12_mend) I0 I) (hL : FrL (wsL_X12_mend) (fsL_X12_mend) L0 L) (h : wpX12_mend_l4 Q P4 v1 v2 v3 I L) : wpX12_mend_l4 Q' P4' v1 v2 v3 I L := by
  unfold wpX12_mend_l4 at h ⊢
  refine ⟨fun hc => ?_, fun hc => ?_⟩
  · have h := h.1 hc
    refine ⟨fun hc => ?_, fun hc => ?_⟩
    · have h := h.1 hc
      refine ⟨h.1, ?_⟩
      have h := h.2
      refine ⟨h.1, ?_⟩
      have h := h.2
      refine ⟨fun hc => ?_, fun hc => ?_⟩
      · have h := h.1 hc
        refine ⟨h.1, ?_⟩
        have h := h.2
        refine ⟨h.1, ?_⟩
        have h := h.2
        exact mnX12_mend_b103 hQ hF hL h
      · have h := h.2 hc
        exact mnX12_mend_b103 hQ hF hL h
    · have h := h.2 hc
      exact hQ _ _ hF hL h
  · have h := h.2 hc
    refine ⟨h.1, ?_⟩
    have h := h.2
    refine ⟨fun hc => ?_, fun hc => ?_⟩
    · have h := h.1 hc
      exact hP4 _ _ _ _ _ hF hL h
    · have h := h.2 hc
      refine ⟨fun hc => ?_, fun hc => ?_⟩
      · have h := h.1 hc
        exact hP4 _ _ _ _ _ hF hL h
      · have h := h.2 hc
        refine ⟨h.1, ?_⟩
        have h := h.2
        refine ⟨h.1, ?_⟩
        have h := h.2
        refine ⟨fun hc => ?_, fun hc => ?_⟩
        · have h := h.1 hc
          exact hP4 _ _ _ _ _ hF hL h
        · have h := h.2 hc
          exact hP4 _ _ _ _ _ hF hL h
set_option maxRecDepth 10000 in
theorem mnX12_mend_h4 {I0 : Ix} {L0 : Lx} {Q Q' : Ix → Lx → Prop} (hQ : ∀ (I1 : Ix) (L1 : Lx), FrI (wsI_X12_mend) (fsI_X12_mend) I0 I1 → FrL (wsL_X12_mend) (fsL_X12_mend) L0 L1 → Q I1 L1 → Q' I1 L1) {v1 : Int32} {v2 : Int32} {v3 : Int32} {I : Ix} {L : Lx} (hF : FrI (wsI_X12_mend) (fsI_X12_mend) I0 I) (hL : FrL (wsL_X12_mend) (fsL_X12_mend) L0 L) (h : wpX12_mend_h4 Q v1 v2 v3 I L) : wpX12_mend_h4 Q' v1 v2 v3 I L := by
  unfold wpX12_mend_h4 at h
  refine Lfp.ind (P := fun z => FrI (wsI_X12_mend) (fsI_X12_mend) I0 z.2.2.2.1 → FrL (wsL_X12_mend) (fsL_X12_mend) L0 z.2.2.2.2 → wpX12_mend_h4 Q' z.1 z.2.1 z.2.2.1 z.2.2.2.1 z.2.2.2.2) ?_ h hF hL
  intro z P' hP' h hF hL
  obtain ⟨v1, v2, v3, I, L⟩ := z
  exact wpX12_mend_h4_fold (mnX12_mend_l4 hQ (fun v1 v2 v3 I L hF hL h9 => hP' (v1, v2, v3, I, L) h9 hF hL) hF hL h)
set_option maxRecDepth 10000 in
theorem mnX12_mend {a1 : Int32} {I : Ix} {L : Lx} {Q Q' : Ix → Lx → Prop} (hQ : ∀ (I1 : Ix) (L1 : Lx), FrI (wsI_X12_mend) (fsI_X12_mend) I I1 → FrL (wsL_X12_mend) (fsL_X12_mend) L L1 → Q I1 L1 → Q' I1 L1) (h : wpX12_mend a1 I L Q) : wpX12_mend a1 I L Q' := by
  have hF : FrI (wsI_X12_mend) (fsI_X12_mend) I I := FrI.rf
  have hL : FrL (wsL_X12_mend) (fsL_X12_mend) L L := FrL.rf
  unfold wpX12_mend at h ⊢
  exact mnX12_mend_h4 hQ hF hL h
