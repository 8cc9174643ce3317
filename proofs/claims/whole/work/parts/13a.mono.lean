/-- only the rows ws and the fields fs differ -/
def FrI (ws : List Nat) (fs : List (Nat × Nat)) (I I' : Ix) : Prop := ∀ k j, k ∉ ws → (k, j) ∉ fs → I' k j = I k j
def FrL (ws : List Nat) (fs : List (Nat × Nat)) (L L' : Lx) : Prop := ∀ k j, k ∉ ws → (k, j) ∉ fs → L' k j = L k j
theorem FrI.rf {ws : List Nat} {fs : List (Nat × Nat)} {I : Ix} : FrI ws fs I I := fun _ _ _ _ => rfl
theorem FrL.rf {ws : List Nat} {fs : List (Nat × Nat)} {L : Lx} : FrL ws fs L L := fun _ _ _ _ => rfl
theorem FrI.up {ws : List Nat} {fs : List (Nat × Nat)} {I0 I I1 : Ix} {k : Nat} {f : Nat → Int32} (h : FrI ws fs I0 I) (e : I1 = va_up I k f) (hk : k ∈ ws) : FrI ws fs I0 I1 := by
  intro a b ha hb
  subst e
  have : a ≠ k := fun q => ha (by rw [q]; exact hk)
  simp only [va_up, if_neg this]
  exact h a b ha hb
theorem FrI.pw {ws : List Nat} {fs : List (Nat × Nat)} {I0 I I1 : Ix} {k j : Nat} {x : Int32} (h : FrI ws fs I0 I) (e : I1 = pu I k j x) (hk : k ∈ ws) : FrI ws fs I0 I1 := h.up e hk
theorem FrI.pf {ws : List Nat} {fs : List (Nat × Nat)} {I0 I I1 : Ix} {k j : Nat} {x : Int32} (h : FrI ws fs I0 I) (e : I1 = pu I k j x) (hk : (k, j) ∈ fs) : FrI ws fs I0 I1 := by
  intro a b ha hb
  subst e
  have h9 : ¬ (a = k ∧ b = j) := fun q => hb (by rw [q.1, q.2]; exact hk)
  rw [pu_eq, if_neg h9]
  exact h a b ha hb
theorem FrL.pw {ws : List Nat} {fs : List (Nat × Nat)} {I0 I I1 : Lx} {k j : Nat} {x : Int64} (h : FrL ws fs I0 I) (e : I1 = pu I k j x) (hk : k ∈ ws) : FrL ws fs I0 I1 := by
  intro a b ha hb
  subst e
  have h9 : a ≠ k := fun q => ha (by rw [q]; exact hk)
  rw [pu_ne _ _ _ h9]
  exact h a b ha hb
theorem FrL.pf {ws : List Nat} {fs : List (Nat × Nat)} {I0 I I1 : Lx} {k j : Nat} {x : Int64} (h : FrL ws fs I0 I) (e : I1 = pu I k j x) (hk : (k, j) ∈ fs) : FrL ws fs I0 I1 := by
  intro a b ha hb
  subst e
  have h9 : ¬ (a = k ∧ b = j) := fun q => hb (by rw [q.1, q.2]; exact hk)
  rw [pu_eq, if_neg h9]
  exact h a b ha hb
theorem FrI.tr {ws wc : List Nat} {fs fc : List (Nat × Nat)} {I0 I I1 : Ix} (h : FrI ws fs I0 I) (h1 : FrI wc fc I I1) (hs : ∀ k ∈ wc, k ∈ ws) (hg : ∀ q ∈ fc, q ∈ fs) : FrI ws fs I0 I1 := fun a b ha hb => (h1 a b (fun q => ha (hs a q)) (fun q => hb (hg _ q))).trans (h a b ha hb)
theorem FrL.tr {ws wc : List Nat} {fs fc : List (Nat × Nat)} {I0 I I1 : Lx} (h : FrL ws fs I0 I) (h1 : FrL wc fc I I1) (hs : ∀ k ∈ wc, k ∈ ws) (hg : ∀ q ∈ fc, q ∈ fs) : FrL ws fs I0 I1 := fun a b ha hb => (h1 a b (fun q => ha (hs a q)) (fun q => hb (hg _ q))).trans (h a b ha hb)
/-- a row that isn't written, whole -/
theorem FrI.row {ws : List Nat} {fs : List (Nat × Nat)} {I I' : Ix} (h : FrI ws fs I I') {k : Nat} (hk : k ∉ ws) (hf : ∀ q ∈ fs, q.1 ≠ k) : I' k = I k := funext fun j => h k j hk fun q => hf _ q rfl
theorem FrL.row {ws : List Nat} {fs : List (Nat × Nat)} {L L' : Lx} (h : FrL ws fs L L') {k : Nat} (hk : k ∉ ws) (hf : ∀ q ∈ fs, q.1 ≠ k) : L' k = L k := funext fun j => h k j hk fun q => hf _ q rfl

abbrev wsI_grp : List Nat := [36]
abbrev wsL_grp : List Nat := []
abbrev fsI_grp : List (Nat × Nat) := [(51, 3), (51, 5), (51, 2), (51, 4), (49, 7), (49, 8), (33, 0), (33, 1)]
abbrev fsL_grp : List (Nat × Nat) := [(51, 6)]
abbrev wsI_X7_add : List Nat := [2]
abbrev wsL_X7_add : List Nat := []
abbrev fsI_X7_add : List (Nat × Nat) := [(1, 1)]
abbrev fsL_X7_add : List (Nat × Nat) := []
set_option maxRecDepth 10000 in
theorem mnX7_add_l3 {I0 : Ix} {L0 : Lx} {Q Q' : Ix → Lx → Prop} {P3 P3' : Int32 → Int32 → Ix → Lx → Prop} (hQ : ∀ (I1 : Ix) (L1 : Lx), FrI (wsI_X7_add) (fsI_X7_add) I0 I1 → FrL (wsL_X7_add) (fsL_X7_add) L0 L1 → Q I1 L1 → Q' I1 L1) (hP3 : ∀ (v1 : Int32) (v2 : Int32) (I1 : Ix) (L1 : Lx), FrI (wsI_X7_add) (fsI_X7_add) I0 I1 → FrL (wsL_X7_add) (fsL_X7_add) L0 L1 → P3 v1 v2 I1 L1 → P3' v1 v2 I1 L1) {v1 : Int32} {v2 : Int32} {I : Ix} {L : Lx} (hF : FrI (wsI_X7_add) (fsI_X7_add) I0 I) (hL : FrL (wsL_X7_add) (fsL_X7_add) L0 L) (h : wpX7_add_l3 Q P3 v1 v2 I L) : wpX7_add_l3 Q' P3' v1 v2 I L := by
  unfold wpX7_add_l3 at h ⊢
  refine ⟨fun hc => ?_, fun hc => ?_⟩
  · have h := h.1 hc
    exact hQ _ _ hF hL h
  · have h := h.2 hc
    refine ⟨fun hc => ?_, fun hc => ?_⟩
    · have h := h.1 hc
      exact hQ _ _ hF hL h
    · have h := h.2 hc
      refine ⟨h.1, ?_⟩
      have h := h.2
      intro I1 eI1
      have h := h I1 eI1
      have hF := hF.pw eI1 (by decide)
      intro I2 eI2
      have h := h I2 eI2
      have hF := hF.pf eI2 (by decide)
      exact hP3 _ _ _ _ hF hL h
set_option maxRecDepth 10000 in
theorem mnX7_add_h3 {I0 : Ix} {L0 : Lx} {Q Q' : Ix → Lx → Prop} (hQ : ∀ (I1 : Ix) (L1 : Lx), FrI (wsI_X7_add) (fsI_X7_add) I0 I1 → FrL (wsL_X7_add) (fsL_X7_add) L0 L1 → Q I1 L1 → Q' I1 L1) {v1 : Int32} {v2 : Int32} {I : Ix} {L : Lx} (hF : FrI (wsI_X7_add) (fsI_X7_add) I0 I) (hL : FrL (wsL_X7_add) (fsL_X7_add) L0 L) (h : wpX7_add_h3 Q v1 v2 I L) : wpX7_add_h3 Q' v1 v2 I L := by
  unfold wpX7_add_h3 at h
  refine Lfp.ind (P := fun z => FrI (wsI_X7_add) (fsI_X7_add) I0 z.2.2.1 → FrL (wsL_X7_add) (fsL_X7_add) L0 z.2.2.2 → wpX7_add_h3 Q' z.1 z.2.1 z.2.2.1 z.2.2.2) ?_ h hF hL
  intro z P' hP' h hF hL
  obtain ⟨v1, v2, I, L⟩ := z
  exact wpX7_add_h3_fold (mnX7_add_l3 hQ (fun v1 v2 I L hF hL h9 => hP' (v1, v2, I, L) h9 hF hL) hF hL h)
set_option maxRecDepth 10000 in
theorem mnX7_add {a1 : Int32} {I : Ix} {L : Lx} {Q Q' : Ix → Lx → Prop} (hQ : ∀ (I1 : Ix) (L1 : Lx), FrI (wsI_X7_add) (fsI_X7_add) I I1 → FrL (wsL_X7_add) (fsL_X7_add) L L1 → Q I1 L1 → Q' I1 L1) (h : wpX7_add a1 I L Q) : wpX7_add a1 I L Q' := by
  have hF : FrI (wsI_X7_add) (fsI_X7_add) I I := FrI.rf
  have hL : FrL (wsL_X7_add) (fsL_X7_add) L L := FrL.rf
  unfold wpX7_add at h ⊢
  exact mnX7_add_h3 hQ hF hL h
abbrev wsI_X11_feed : List Nat := [2]
abbrev wsL_X11_feed : List Nat := []
abbrev fsI_X11_feed : List (Nat × Nat) := [(1, 1)]
abbrev fsL_X11_feed : List (Nat × Nat) := []
set_option maxRecDepth 10000 in
theorem mnX11_feed {a1 : Int32} {a2 : Int32} {a3 : Int32} {a4 : Int32} {a5 : Int32} {I : Ix} {L : Lx} {Q Q' : Int32 → Ix → Lx → Prop} (hQ : ∀ (r : Int32) (I1 : Ix) (L1 : Lx), FrI (wsI_X11_feed) (fsI_X11_feed) I I1 → FrL (wsL_X11_feed) (fsL_X11_feed) L L1 → Q r I1 L1 → Q' r I1 L1) (h : wpX11_feed a1 a2 a3 a4 a5 I L Q) : wpX11_feed a1 a2 a3 a4 a5 I L Q' := by
  have hF : FrI (wsI_X11_feed) (fsI_X11_feed) I I := FrI.rf
  have hL : FrL (wsL_X11_feed) (fsL_X11_feed) L L := FrL.rf
  unfold wpX11_feed at h ⊢
  refine ⟨fun hc => ?_, fun hc => ?_⟩
  · have h := h.1 hc
    refine mnX7_add (fun I1 L2 hf hl h => ?_) h
    have hF := hF.tr hf (by decide) (by decide)
    have hL := hL.tr hl (by decide) (by decide)
    refine mnX7_add (fun I3 L4 hf hl h => ?_) h
    have hF := hF.tr hf (by decide) (by decide)
    have hL := hL.tr hl (by decide) (by decide)
    refine mnX7_add (fun I5 L6 hf hl h => ?_) h
    have hF := hF.tr hf (by decide) (by decide)
    have hL := hL.tr hl (by decide) (by decide)
    refine mnX7_add (fun I7 L8 hf hl h => ?_) h
    have hF := hF.tr hf (by decide) (by decide)
    have hL := hL.tr hl (by decide) (by decide)
    refine mnX7_add (fun I9 L10 hf hl h => ?_) h
    have hF := hF.tr hf (by decide) (by decide)
    have hL := hL.tr hl (by decide) (by decide)
    exact hQ _ _ _ hF hL h
  · have h := h.2 hc
    exact hQ _ _ _ hF hL h
abbrev wsI_X11_end : List Nat := []
abbrev wsL_X11_end : List Nat := []
abbrev fsI_X11_end : List (Nat × Nat) := [(1, 1)]
abbrev fsL_X11_end : List (Nat × Nat) := []
set_option maxRecDepth 10000 in
theorem mnX11_end {a1 : Int32} {I : Ix} {L : Lx} {Q Q' : Int32 → Ix → Lx → Prop} (hQ : ∀ (r : Int32) (I1 : Ix) (L1 : Lx), FrI (wsI_X11_end) (fsI_X11_end) I I1 → FrL (wsL_X11_end) (fsL_X11_end) L L1 → Q r I1 L1 → Q' r I1 L1) (h : wpX11_end a1 I L Q) : wpX11_end a1 I L Q' := by
  have hF : FrI (wsI_X11_end) (fsI_X11_end) I I := FrI.rf
  have hL : FrL (wsL_X11_end) (fsL_X11_end) L L := FrL.rf
  unfold wpX11_end at h ⊢
  refine ⟨fun hc => ?_, fun hc => ?_⟩
  · have h := h.1 hc
    exact hQ _ _ _ hF hL h
  · have h := h.2 hc
    refine ⟨fun hc => ?_, fun hc => ?_⟩
    · have h := h.1 hc
      intro I1 eI1
      have h := h I1 eI1
      have hF := hF.pf eI1 (by decide)
      exact hQ _ _ _ hF hL h
    · have h := h.2 hc
      exact hQ _ _ _ hF hL h
abbrev wsI_X1_turnOf_27 : List Nat := []
abbrev wsL_X1_turnOf_27 : List Nat := []
abbrev fsI_X1_turnOf_27 : List (Nat × Nat) := []
abbrev fsL_X1_turnOf_27 : List (Nat × Nat) := []
set_option maxRecDepth 10000 in
theorem mnX1_turnOf_27_l4 {I0 : Ix} {L0 : Lx} {Q Q' : Int32 → Ix → Lx → Prop} {P4 P4' : Int32 → Int32 → Int32 → Ix → Lx → Prop} (hQ : ∀ (r : Int32) (I1 : Ix) (L1 : Lx), FrI (wsI_X1_turnOf_27) (fsI_X1_turnOf_27) I0 I1 → FrL (wsL_X1_turnOf_27) (fsL_X1_turnOf_27) L0 L1 → Q r I1 L1 → Q' r I1 L1) (hP4 : ∀ (v1 : Int32) (v2 : Int32) (v3 : Int32) (I1 : Ix) (L1 : Lx), FrI (wsI_X1_turnOf_27) (fsI_X1_turnOf_27) I0 I1 → FrL (wsL_X1_turnOf_27) (fsL_X1_turnOf_27) L0 L1 → P4 v1 v2 v3 I1 L1 → P4' v1 v2 v3 I1 L1) {v1 : Int32} {v2 : Int32} {v3 : Int32} {I : Ix} {L : Lx} (hF : FrI (wsI_X1_turnOf_27) (fsI_X1_turnOf_27) I0 I) (hL : FrL (wsL_X1_turnOf_27) (fsL_X1_turnOf_27) L0 L) (h : wpX1_turnOf_27_l4 Q P4 v1 v2 v3 I L) : wpX1_turnOf_27_l4 Q' P4' v1 v2 v3 I L := by
  unfold wpX1_turnOf_27_l4 at h ⊢
  refine ⟨fun hc => ?_, fun hc => ?_⟩
  · have h := h.1 hc
    exact hQ _ _ _ hF hL h
  · have h := h.2 hc
    refine ⟨h.1, ?_⟩
    have h := h.2
    refine ⟨h.1, ?_⟩
    have h := h.2
    refine ⟨fun hc => ?_, fun hc => ?_⟩
    · have h := h.1 hc
      exact hP4 _ _ _ _ _ hF hL h
    · have h := h.2 hc
      refine ⟨h.1, ?_⟩
      have h := h.2
      refine ⟨h.1, ?_⟩
      have h := h.2
      refine ⟨fun hc => ?_, fun hc => ?_⟩
      · have h := h.1 hc
        exact hP4 _ _ _ _ _ hF hL h
      · have h := h.2 hc
        refine ⟨fun hc => ?_, fun hc => ?_⟩
        · have h := h.1 hc
          exact hP4 _ _ _ _ _ hF hL h
        · have h := h.2 hc
          exact hP4 _ _ _ _ _ hF hL h
set_option maxRecDepth 10000 in
theorem mnX1_turnOf_27_h4 {I0 : Ix} {L0 : Lx} {Q Q' : Int32 → Ix → Lx → Prop} (hQ : ∀ (r : Int32) (I1 : Ix) (L1 : Lx), FrI (wsI_X1_turnOf_27) (fsI_X1_turnOf_27) I0 I1 → FrL (wsL_X1_turnOf_27) (fsL_X1_turnOf_27) L0 L1 → Q r I1 L1 → Q' r I1 L1) {v1 : Int32} {v2 : Int32} {v3 : Int32} {I : Ix} {L : Lx} (hF : FrI (wsI_X1_turnOf_27) (fsI_X1_turnOf_27) I0 I) (hL : FrL (wsL_X1_turnOf_27) (fsL_X1_turnOf_27) L0 L) (h : wpX1_turnOf_27_h4 Q v1 v2 v3 I L) : wpX1_turnOf_27_h4 Q' v1 v2 v3 I L := by
  unfold wpX1_turnOf_27_h4 at h
  refine Lfp.ind (P := fun z => FrI (wsI_X1_turnOf_27) (fsI_X1_turnOf_27) I0 z.2.2.2.1 → FrL (wsL_X1_turnOf_27) (fsL_X1_turnOf_27) L0 z.2.2.2.2 → wpX1_turnOf_27_h4 Q' z.1 z.2.1 z.2.2.1 z.2.2.2.1 z.2.2.2.2) ?_ h hF hL
  intro z P' hP' h hF hL
  obtain ⟨v1, v2, v3, I, L⟩ := z
  exact wpX1_turnOf_27_h4_fold (mnX1_turnOf_27_l4 hQ (fun v1 v2 v3 I L hF hL h9 => hP' (v1, v2, v3, I, L) h9 hF hL) hF hL h)
set_option maxRecDepth 10000 in
theorem mnX1_turnOf_27 {a1 : Int32} {I : Ix} {L : Lx} {Q Q' : Int32 → Ix → Lx → Prop} (hQ : ∀ (r : Int32) (I1 : Ix) (L1 : Lx), FrI (wsI_X1_turnOf_27) (fsI_X1_turnOf_27) I I1 → FrL (wsL_X1_turnOf_27) (fsL_X1_turnOf_27) L L1 → Q r I1 L1 → Q' r I1 L1) (h : wpX1_turnOf_27 a1 I L Q) : wpX1_turnOf_27 a1 I L Q' := by
  have hF : FrI (wsI_X1_turnOf_27) (fsI_X1_turnOf_27) I I := FrI.rf
  have hL : FrL (wsL_X1_turnOf_27) (fsL_X1_turnOf_27) L L := FrL.rf
  unfold wpX1_turnOf_27 at h ⊢
  exact mnX1_turnOf_27_h4 hQ hF hL h
abbrev wsI_X1_minutes_27 : List Nat := []
abbrev wsL_X1_minutes_27 : List Nat := []
abbrev fsI_X1_minutes_27 : List (Nat × Nat) := []
abbrev fsL_X1_minutes_27 : List (Nat × Nat) := []
set_option maxRecDepth 10000 in
theorem mnX1_minutes_27 {a1 : Int32} {a2 : Int32} {I : Ix} {L : Lx} {Q Q' : Int32 → Ix → Lx → Prop} (hQ : ∀ (r : Int32) (I1 : Ix) (L1 : Lx), FrI (wsI_X1_minutes_27) (fsI_X1_minutes_27) I I1 → FrL (wsL_X1_minutes_27) (fsL_X1_minutes_27) L L1 → Q r I1 L1 → Q' r I1 L1) (h : wpX1_minutes_27 a1 a2 I L Q) : wpX1_minutes_27 a1 a2 I L Q' := by
  have hF : FrI (wsI_X1_minutes_27) (fsI_X1_minutes_27) I I := FrI.rf
  have hL : FrL (wsL_X1_minutes_27) (fsL_X1_minutes_27) L L := FrL.rf
  unfold wpX1_minutes_27 at h ⊢
  refine ⟨h.1, ?_⟩
  have h := h.2
  exact hQ _ _ _ hF hL h
abbrev wsI_X1_measure_27 : List Nat := [30, 31]
abbrev wsL_X1_measure_27 : List Nat := []
abbrev fsI_X1_measure_27 : List (Nat × Nat) := []
abbrev fsL_X1_measure_27 : List (Nat × Nat) := []
set_option maxRecDepth 10000 in
theorem mnX1_measure_27_l89 {I0 : Ix} {L0 : Lx} {Q Q' : Ix → Lx → Prop} {P89 P89' : Int32 → Ix → Lx → Prop} (hQ : ∀ (I1 : Ix) (L1 : Lx), FrI (wsI_X1_measure_27) (fsI_X1_measure_27) I0 I1 → FrL (wsL_X1_measure_27) (fsL_X1_measure_27) L0 L1 → Q I1 L1 → Q' I1 L1) (hP89 : ∀ (v1 : Int32) (I1 : Ix) (L1 : Lx), FrI (wsI_X1_measure_27) (fsI_X1_measure_27) I0 I1 → FrL (wsL_X1_measure_27) (fsL_X1_measure_27) L0 L1 → P89 v1 I1 L1 → P89' v1 I1 L1) {v1 : Int32} {I : Ix} {L : Lx} (hF : FrI (wsI_X1_measure_27) (fsI_X1_measure_27) I0 I) (hL : FrL (wsL_X1_measure_27) (fsL_X1_measure_27) L0 L) (h : wpX1_measure_27_l89 Q P89 v1 I L) : wpX1_measure_27_l89 Q' P89' v1 I L := by
  unfold wpX1_measure_27_l89 at h ⊢
  refine ⟨fun hc => ?_, fun hc => ?_⟩
  · have h := h.1 hc
    exact hQ _ _ hF hL h
  · have h := h.2 hc
    refine mnX1_turnOf_27 (fun r3 I1 L2 hf hl h => ?_) h
    have hF := hF.tr hf (by decide) (by decide)
    have hL := hL.tr hl (by decide) (by decide)
    refine ⟨h.1, ?_⟩
    have h := h.2
    intro I4 eI4
    have h := h I4 eI4
    have hF := hF.pw eI4 (by decide)
    exact hP89 _ _ _ hF hL h
set_option maxRecDepth 10000 in
theorem mnX1_measure_27_h89 {I0 : Ix} {L0 : Lx} {Q Q' : Ix → Lx → Prop} (hQ : ∀ (I1 : Ix) (L1 : Lx), FrI (wsI_X1_measure_27) (fsI_X1_measure_27) I0 I1 → FrL (wsL_X1_measure_27) (fsL_X1_measure_27) L0 L1 → Q I1 L1 → Q' I1 L1) {v1 : Int32} {I : Ix} {L : Lx} (hF : FrI (wsI_X1_measure_27) (fsI_X1_measure_27) I0 I) (hL : FrL (wsL_X1_measure_27) (fsL_X1_measure_27) L0 L) (h : wpX1_measure_27_h89 Q v1 I L) : wpX1_measure_27_h89 Q' v1 I L := by
  unfold wpX1_measure_27_h89 at h
  refine Lfp.ind (P := fun z => FrI (wsI_X1_measure_27) (fsI_X1_measure_27) I0 z.2.1 → FrL (wsL_X1_measure_27) (fsL_X1_measure_27) L0 z.2.2 → wpX1_measure_27_h89 Q' z.1 z.2.1 z.2.2) ?_ h hF hL
  intro z P' hP' h hF hL
  obtain ⟨v1, I, L⟩ := z
  exact wpX1_measure_27_h89_fold (mnX1_measure_27_l89 hQ (fun v1 I L hF hL h9 => hP' (v1, I, L) h9 hF hL) hF hL h)
set_option maxRecDepth 10000 in
theorem mnX1_measure_27_l22 {I0 : Ix} {L0 : Lx} {Q Q' : Ix → Lx → Prop} {P2 P2' : Int32 → Ix → Lx → Prop} {P12 P12' : Int32 → Int32 → Ix → Lx → Prop} {P22 P22' : Int32 → Int32 → Int32 → Ix → Lx → Prop} (hQ : ∀ (I1 : Ix) (L1 : Lx), FrI (wsI_X1_measure_27) (fsI_X1_measure_27) I0 I1 → FrL (wsL_X1_measure_27) (fsL_X1_measure_27) L0 L1 → Q I1 L1 → Q' I1 L1) (hP2 : ∀ (v1 : Int32) (I1 : Ix) (L1 : Lx), FrI (wsI_X1_measure_27) (fsI_X1_measure_27) I0 I1 → FrL (wsL_X1_measure_27) (fsL_X1_measure_27) L0 L1 → P2 v1 I1 L1 → P2' v1 I1 L1) (hP12 : ∀ (v1 : Int32) (v2 : Int32) (I1 : Ix) (L1 : Lx), FrI (wsI_X1_measure_27) (fsI_X1_measure_27) I0 I1 → FrL (wsL_X1_measure_27) (fsL_X1_measure_27) L0 L1 → P12 v1 v2 I1 L1 → P12' v1 v2 I1 L1) (hP22 : ∀ (v1 : Int32) (v2 : Int32) (v3 : Int32) (I1 : Ix) (L1 : Lx), FrI (wsI_X1_measure_27) (fsI_X1_measure_27) I0 I1 → FrL (wsL_X1_measure_27) (fsL_X1_measure_27) L0 L1 → P22 v1 v2 v3 I1 L1 → P22' v1 v2 v3 I1 L1) {v1 : Int32} {v2 : Int32} {v3 : Int32} {I : Ix} {L : Lx} (hF : FrI (wsI_X1_measure_27) (fsI_X1_measure_27) I0 I) (hL : FrL (wsL_X1_measure_27) (fsL_X1_measure_27) L0 L) (h : wpX1_measure_27_l22 Q P2 P12 P22 v1 v2 v3 I L) : wpX1_measure_27_l22 Q' P2' P12' P22' v1 v2 v3 I L := by
  unfold wpX1_measure_27_l22 at h ⊢
  refine ⟨fun hc => ?_, fun hc => ?_⟩
  · have h := h.1 hc
    exact hP12 _ _ _ _ hF hL h
  · have h := h.2 hc
    refine mnX1_minutes_27 (fun r3 I1 L2 hf hl h => ?_) h
    have hF := hF.tr hf (by decide) (by decide)
    have hL := hL.tr hl (by decide) (by decide)
    refine mnX1_minutes_27 (fun r6 I4 L5 hf hl h => ?_) h
    have hF := hF.tr hf (by decide) (by decide)
    have hL := hL.tr hl (by decide) (by decide)
    refine mnX1_minutes_27 (fun r9 I7 L8 hf hl h => ?_) h
    have hF := hF.tr hf (by decide) (by decide)
    have hL := hL.tr hl (by decide) (by decide)
    refine ⟨fun hc => ?_, fun hc => ?_⟩
    · have h := h.1 hc
      exact hP22 _ _ _ _ _ hF hL h
    · have h := h.2 hc
      refine ⟨h.1, ?_⟩
      have h := h.2
      intro I10 eI10
      have h := h I10 eI10
      have hF := hF.pw eI10 (by decide)
      exact hP22 _ _ _ _ _ hF hL h
set_option maxRecDepth 10000 in
theorem mnX1_measure_27_h22 {I0 : Ix} {L0 : Lx} {Q Q' : Ix → Lx → Prop} {P2 P2' : Int32 → Ix → Lx → Prop} {P12 P12' : Int32 → Int32 → Ix → Lx → Prop} (hQ : ∀ (I1 : Ix) (L1 : Lx), FrI (wsI_X1_measure_27) (fsI_X1_measure_27) I0 I1 → FrL (wsL_X1_measure_27) (fsL_X1_measure_27) L0 L1 → Q I1 L1 → Q' I1 L1) (hP2 : ∀ (v1 : Int32) (I1 : Ix) (L1 : Lx), FrI (wsI_X1_measure_27) (fsI_X1_measure_27) I0 I1 → FrL (wsL_X1_measure_27) (fsL_X1_measure_27) L0 L1 → P2 v1 I1 L1 → P2' v1 I1 L1) (hP12 : ∀ (v1 : Int32) (v2 : Int32) (I1 : Ix) (L1 : Lx), FrI (wsI_X1_measure_27) (fsI_X1_measure_27) I0 I1 → FrL (wsL_X1_measure_27) (fsL_X1_measure_27) L0 L1 → P12 v1 v2 I1 L1 → P12' v1 v2 I1 L1) {v1 : Int32} {v2 : Int32} {v3 : Int32} {I : Ix} {L : Lx} (hF : FrI (wsI_X1_measure_27) (fsI_X1_measure_27) I0 I) (hL : FrL (wsL_X1_measure_27) (fsL_X1_measure_27) L0 L) (h : wpX1_measure_27_h22 Q P2 P12 v1 v2 v3 I L) : wpX1_measure_27_h22 Q' P2' P12' v1 v2 v3 I L := by
  unfold wpX1_measure_27_h22 at h
  refine Lfp.ind (P := fun z => FrI (wsI_X1_measure_27) (fsI_X1_measure_27) I0 z.2.2.2.1 → FrL (wsL_X1_measure_27) (fsL_X1_measure_27) L0 z.2.2.2.2 → wpX1_measure_27_h22 Q' P2' P12' z.1 z.2.1 z.2.2.1 z.2.2.2.1 z.2.2.2.2) ?_ h hF hL
  intro z P' hP' h hF hL
  obtain ⟨v1, v2, v3, I, L⟩ := z
  exact wpX1_measure_27_h22_fold (mnX1_measure_27_l22 hQ hP2 hP12 (fun v1 v2 v3 I L hF hL h9 => hP' (v1, v2, v3, I, L) h9 hF hL) hF hL h)
set_option maxRecDepth 10000 in
theorem mnX1_measure_27_l12 {I0 : Ix} {L0 : Lx} {Q Q' : Ix → Lx → Prop} {P2 P2' : Int32 → Ix → Lx → Prop} {P12 P12' : Int32 → Int32 → Ix → Lx → Prop} (hQ : ∀ (I1 : Ix) (L1 : Lx), FrI (wsI_X1_measure_27) (fsI_X1_measure_27) I0 I1 → FrL (wsL_X1_measure_27) (fsL_X1_measure_27) L0 L1 → Q I1 L1 → Q' I1 L1) (hP2 : ∀ (v1 : Int32) (I1 : Ix) (L1 : Lx), FrI (wsI_X1_measure_27) (fsI_X1_measure_27) I0 I1 → FrL (wsL_X1_measure_27) (fsL_X1_measure_27) L0 L1 → P2 v1 I1 L1 → P2' v1 I1 L1) (hP12 : ∀ (v1 : Int32) (v2 : Int32) (I1 : Ix) (L1 : Lx), FrI (wsI_X1_measure_27) (fsI_X1_measure_27) I0 I1 → FrL (wsL_X1_measure_27) (fsL_X1_measure_27) L0 L1 → P12 v1 v2 I1 L1 → P12' v1 v2 I1 L1) {v1 : Int32} {v2 : Int32} {I : Ix} {L : Lx} (hF : FrI (wsI_X1_measure_27) (fsI_X1_measure_27) I0 I) (hL : FrL (wsL_X1_measure_27) (fsL_X1_measure_27) L0 L) (h : wpX1_measure_27_l12 Q P2 P12 v1 v2 I L) : wpX1_measure_27_l12 Q' P2' P12' v1 v2 I L := by
  unfold wpX1_measure_27_l12 at h ⊢
  refine ⟨fun hc => ?_, fun hc => ?_⟩
  · have h := h.1 hc
    exact hP2 _ _ _ hF hL h
  · have h := h.2 hc
    exact mnX1_measure_27_h22 hQ hP2 hP12 hF hL h
set_option maxRecDepth 10000 in
theorem mnX1_measure_27_h12 {I0 : Ix} {L0 : Lx} {Q Q' : Ix → Lx → Prop} {P2 P2' : Int32 → Ix → Lx → Prop} (hQ : ∀ (I1 : Ix) (L1 : Lx), FrI (wsI_X1_measure_27) (fsI_X1_measure_27) I0 I1 → FrL (wsL_X1_measure_27) (fsL_X1_measure_27) L0 L1 → Q I1 L1 → Q' I1 L1) (hP2 : ∀ (v1 : Int32) (I1 : Ix) (L1 : Lx), FrI (wsI_X1_measure_27) (fsI_X1_measure_27) I0 I1 → FrL (wsL_X1_measure_27) (fsL_X1_measure_27) L0 L1 → P2 v1 I1 L1 → P2' v1 I1 L1) {v1 : Int32} {v2 : Int32} {I : Ix} {L : Lx} (hF : FrI (wsI_X1_measure_27) (fsI_X1_measure_27) I0 I) (hL : FrL (wsL_X1_measure_27) (fsL_X1_measure_27) L0 L) (h : wpX1_measure_27_h12 Q P2 v1 v2 I L) : wpX1_measure_27_h12 Q' P2' v1 v2 I L := by
  unfold wpX1_measure_27_h12 at h
  refine Lfp.ind (P := fun z => FrI (wsI_X1_measure_27) (fsI_X1_measure_27) I0 z.2.2.1 → FrL (wsL_X1_measure_27) (fsL_X1_measure_27) L0 z.2.2.2 → wpX1_measure_27_h12 Q' P2' z.1 z.2.1 z.2.2.1 z.2.2.2) ?_ h hF hL
  intro z P' hP' h hF hL
  obtain ⟨v1, v2, I, L⟩ := z
  exact wpX1_measure_27_h12_fold (mnX1_measure_27_l12 hQ hP2 (fun v1 v2 I L hF hL h9 => hP' (v1, v2, I, L) h9 hF hL) hF hL h)
set_option maxRecDepth 10000 in
theorem mnX1_measure_27_l2 {I0 : Ix} {L0 : Lx} {Q Q' : Ix → Lx → Prop} {P2 P2' : Int32 → Ix → Lx → Prop} (hQ : ∀ (I1 : Ix) (L1 : Lx), FrI (wsI_X1_measure_27) (fsI_X1_measure_27) I0 I1 → FrL (wsL_X1_measure_27) (fsL_X1_measure_27) L0 L1 → Q I1 L1 → Q' I1 L1) (hP2 : ∀ (v1 : Int32) (I1 : Ix) (L1 : Lx), FrI (wsI_X1_measure_27) (fsI_X1_measure_27) I0 I1 → FrL (wsL_X1_measure_27) (fsL_X1_measure_27) L0 L1 → P2 v1 I1 L1 → P2' v1 I1 L1) {v1 : Int32} {I : Ix} {L : Lx} (hF : FrI (wsI_X1_measure_27) (fsI_X1_measure_27) I0 I) (hL : FrL (wsL_X1_measure_27) (fsL_X1_measure_27) L0 L) (h : wpX1_measure_27_l2 Q P2 v1 I L) : wpX1_measure_27_l2 Q' P2' v1 I L := by
  unfold wpX1_measure_27_l2 at h ⊢
  refine ⟨fun hc => ?_, fun hc => ?_⟩
  · have h := h.1 hc
    exact mnX1_measure_27_h89 hQ hF hL h
  · have h := h.2 hc
    exact mnX1_measure_27_h12 hQ hP2 hF hL h
set_option maxRecDepth 10000 in
theorem mnX1_measure_27_h2 {I0 : Ix} {L0 : Lx} {Q Q' : Ix → Lx → Prop} (hQ : ∀ (I1 : Ix) (L1 : Lx), FrI (wsI_X1_measure_27) (fsI_X1_measure_27) I0 I1 → FrL (wsL_X1_measure_27) (fsL_X1_measure_27) L0 L1 → Q I1 L1 → Q' I1 L1) {v1 : Int32} {I : Ix} {L : Lx} (hF : FrI (wsI_X1_measure_27) (fsI_X1_measure_27) I0 I) (hL : FrL (wsL_X1_measure_27) (fsL_X1_measure_27) L0 L) (h : wpX1_measure_27_h2 Q v1 I L) : wpX1_measure_27_h2 Q' v1 I L := by
  unfold wpX1_measure_27_h2 at h
  refine Lfp.ind (P := fun z => FrI (wsI_X1_measure_27) (fsI_X1_measure_27) I0 z.2.1 → FrL (wsL_X1_measure_27) (fsL_X1_measure_27) L0 z.2.2 → wpX1_measure_27_h2 Q' z.1 z.2.1 z.2.2) ?_ h hF hL
  intro z P' hP' h hF hL
  obtain ⟨v1, I, L⟩ := z
  exact wpX1_measure_27_h2_fold (mnX1_measure_27_l2 hQ (fun v1 I L hF hL h9 => hP' (v1, I, L) h9 hF hL) hF hL h)
set_option maxRecDepth 10000 in
theorem mnX1_measure_27 {I : Ix} {L : Lx} {Q Q' : Ix → Lx → Prop} (hQ : ∀ (I1 : Ix) (L1 : Lx), FrI (wsI_X1_measure_27) (fsI_X1_measure_27) I I1 → FrL (wsL_X1_measure_27) (fsL_X1_measure_27) L L1 → Q I1 L1 → Q' I1 L1) (h : wpX1_measure_27 I L Q) : wpX1_measure_27 I L Q' := by
  have hF : FrI (wsI_X1_measure_27) (fsI_X1_measure_27) I I := FrI.rf
  have hL : FrL (wsL_X1_measure_27) (fsL_X1_measure_27) L L := FrL.rf
  unfold wpX1_measure_27 at h ⊢
  exact mnX1_measure_27_h2 hQ hF hL h
abbrev wsI_X7_byteAt : List Nat := []
abbrev wsL_X7_byteAt : List Nat := []
abbrev fsI_X7_byteAt : List (Nat × Nat) := []
abbrev fsL_X7_byteAt : List (Nat × Nat) := []
set_option maxRecDepth 10000 in
theorem mnX7_byteAt {a1 : Int32} {I : Ix} {L : Lx} {Q Q' : Int32 → Ix → Lx → Prop} (hQ : ∀ (r : Int32) (I1 : Ix) (L1 : Lx), FrI (wsI_X7_byteAt) (fsI_X7_byteAt) I I1 → FrL (wsL_X7_byteAt) (fsL_X7_byteAt) L L1 → Q r I1 L1 → Q' r I1 L1) (h : wpX7_byteAt a1 I L Q) : wpX7_byteAt a1 I L Q' := by
  have hF : FrI (wsI_X7_byteAt) (fsI_X7_byteAt) I I := FrI.rf
  have hL : FrL (wsL_X7_byteAt) (fsL_X7_byteAt) L L := FrL.rf
  unfold wpX7_byteAt at h ⊢
  refine ⟨fun hc => ?_, fun hc => ?_⟩
  · have h := h.1 hc
    exact hQ _ _ _ hF hL h
  · have h := h.2 hc
    refine ⟨fun hc => ?_, fun hc => ?_⟩
    · have h := h.1 hc
      exact hQ _ _ _ hF hL h
    · have h := h.2 hc
      refine ⟨h.1, ?_⟩
      have h := h.2
      exact hQ _ _ _ hF hL h
abbrev wsI_X8_skipBlanks : List Nat := []
abbrev wsL_X8_skipBlanks : List Nat := []
abbrev fsI_X8_skipBlanks : List (Nat × Nat) := [(51, 2)]
abbrev fsL_X8_skipBlanks : List (Nat × Nat) := []
set_option maxRecDepth 10000 in
theorem mnX8_skipBlanks_b46 {I0 : Ix} {L0 : Lx} {Q Q' : Ix → Lx → Prop} {P0 P0' : Ix → Lx → Prop} (hQ : ∀ (I1 : Ix) (L1 : Lx), FrI (wsI_X8_skipBlanks) (fsI_X8_skipBlanks) I0 I1 → FrL (wsL_X8_skipBlanks) (fsL_X8_skipBlanks) L0 L1 → Q I1 L1 → Q' I1 L1) (hP0 : ∀ (I1 : Ix) (L1 : Lx), FrI (wsI_X8_skipBlanks) (fsI_X8_skipBlanks) I0 I1 → FrL (wsL_X8_skipBlanks) (fsL_X8_skipBlanks) L0 L1 → P0 I1 L1 → P0' I1 L1) {I : Ix} {L : Lx} (hF : FrI (wsI_X8_skipBlanks) (fsI_X8_skipBlanks) I0 I) (hL : FrL (wsL_X8_skipBlanks) (fsL_X8_skipBlanks) L0 L) (h : wpX8_skipBlanks_b46 Q P0 I L) : wpX8_skipBlanks_b46 Q' P0' I L := by
  unfold wpX8_skipBlanks_b46 at h ⊢
  intro I1 eI1
  have h := h I1 eI1
  have hF := hF.pf eI1 (by decide)
  exact hP0 _ _ hF hL h
set_option maxRecDepth 10000 in
theorem mnX8_skipBlanks_l0 {I0 : Ix} {L0 : Lx} {Q Q' : Ix → Lx → Prop} {P0 P0' : Ix → Lx → Prop} (hQ : ∀ (I1 : Ix) (L1 : Lx), FrI (wsI_X8_skipBlanks) (fsI_X8_skipBlanks) I0 I1 → FrL (wsL_X8_skipBlanks) (fsL_X8_skipBlanks) L0 L1 → Q I1 L1 → Q' I1 L1) (hP0 : ∀ (I1 : Ix) (L1 : Lx), FrI (wsI_X8_skipBlanks) (fsI_X8_skipBlanks) I0 I1 → FrL (wsL_X8_skipBlanks) (fsL_X8_skipBlanks) L0 L1 → P0 I1 L1 → P0' I1 L1) {I : Ix} {L : Lx} (hF : FrI (wsI_X8_skipBlanks) (fsI_X8_skipBlanks) I0 I) (hL : FrL (wsL_X8_skipBlanks) (fsL_X8_skipBlanks) L0 L) (h : wpX8_skipBlanks_l0 Q P0 I L) : wpX8_skipBlanks_l0 Q' P0' I L := by
  unfold wpX8_skipBlanks_l0 at h ⊢
  refine ⟨fun hc => ?_, fun hc => ?_⟩
  · have h := h.1 hc
    exact hQ _ _ hF hL h
  · have h := h.2 hc
    refine mnX7_byteAt (fun r3 I1 L2 hf hl h => ?_) h
    have hF := hF.tr hf (by decide) (by decide)
    have hL := hL.tr hl (by decide) (by decide)
    refine ⟨fun hc => ?_, fun hc => ?_⟩
    · have h := h.1 hc
      exact mnX8_skipBlanks_b46 hQ hP0 hF hL h
    · have h := h.2 hc
      refine mnX7_byteAt (fun r6 I4 L5 hf hl h => ?_) h
      have hF := hF.tr hf (by decide) (by decide)
      have hL := hL.tr hl (by decide) (by decide)
      refine ⟨fun hc => ?_, fun hc => ?_⟩
      · have h := h.1 hc
        exact hQ _ _ hF hL h
      · have h := h.2 hc
        exact mnX8_skipBlanks_b46 hQ hP0 hF hL h
set_option maxRecDepth 10000 in
theorem mnX8_skipBlanks_h0 {I0 : Ix} {L0 : Lx} {Q Q' : Ix → Lx → Prop} (hQ : ∀ (I1 : Ix) (L1 : Lx), FrI (wsI_X8_skipBlanks) (fsI_X8_skipBlanks) I0 I1 → FrL (wsL_X8_skipBlanks) (fsL_X8_skipBlanks) L0 L1 → Q I1 L1 → Q' I1 L1) {I : Ix} {L : Lx} (hF : FrI (wsI_X8_skipBlanks) (fsI_X8_skipBlanks) I0 I) (hL : FrL (wsL_X8_skipBlanks) (fsL_X8_skipBlanks) L0 L) (h : wpX8_skipBlanks_h0 Q I L) : wpX8_skipBlanks_h0 Q' I L := by
  unfold wpX8_skipBlanks_h0 at h
  refine Lfp.ind (P := fun z => FrI (wsI_X8_skipBlanks) (fsI_X8_skipBlanks) I0 z.1 → FrL (wsL_X8_skipBlanks) (fsL_X8_skipBlanks) L0 z.2 → wpX8_skipBlanks_h0 Q' z.1 z.2) ?_ h hF hL
  intro z P' hP' h hF hL
  obtain ⟨I, L⟩ := z
  exact wpX8_skipBlanks_h0_fold (mnX8_skipBlanks_l0 hQ (fun I L hF hL h9 => hP' (I, L) h9 hF hL) hF hL h)
set_option maxRecDepth 10000 in
theorem mnX8_skipBlanks {I : Ix} {L : Lx} {Q Q' : Ix → Lx → Prop} (hQ : ∀ (I1 : Ix) (L1 : Lx), FrI (wsI_X8_skipBlanks) (fsI_X8_skipBlanks) I I1 → FrL (wsL_X8_skipBlanks) (fsL_X8_skipBlanks) L L1 → Q I1 L1 → Q' I1 L1) (h : wpX8_skipBlanks I L Q) : wpX8_skipBlanks I L Q' := by
  have hF : FrI (wsI_X8_skipBlanks) (fsI_X8_skipBlanks) I I := FrI.rf
  have hL : FrL (wsL_X8_skipBlanks) (fsL_X8_skipBlanks) L L := FrL.rf
  unfold wpX8_skipBlanks at h ⊢
  exact mnX8_skipBlanks_h0 hQ hF hL h
abbrev wsI_X8_isLetter : List Nat := []
abbrev wsL_X8_isLetter : List Nat := []
abbrev fsI_X8_isLetter : List (Nat × Nat) := []
abbrev fsL_X8_isLetter : List (Nat × Nat) := []
set_option maxRecDepth 10000 in
theorem mnX8_isLetter {a0 : Int32} {I : Ix} {L : Lx} {Q Q' : Bool → Ix → Lx → Prop} (hQ : ∀ (r : Bool) (I1 : Ix) (L1 : Lx), FrI (wsI_X8_isLetter) (fsI_X8_isLetter) I I1 → FrL (wsL_X8_isLetter) (fsL_X8_isLetter) L L1 → Q r I1 L1 → Q' r I1 L1) (h : wpX8_isLetter a0 I L Q) : wpX8_isLetter a0 I L Q' := by
  have hF : FrI (wsI_X8_isLetter) (fsI_X8_isLetter) I I := FrI.rf
  have hL : FrL (wsL_X8_isLetter) (fsL_X8_isLetter) L L := FrL.rf
  unfold wpX8_isLetter at h ⊢
  refine ⟨fun hc => ?_, fun hc => ?_⟩
  · have h := h.1 hc
    exact hQ _ _ _ hF hL h
  · have h := h.2 hc
    refine ⟨fun hc => ?_, fun hc => ?_⟩
    · have h := h.1 hc
      exact hQ _ _ _ hF hL h
    · have h := h.2 hc
      exact hQ _ _ _ hF hL h
abbrev wsI_X8_isDigit : List Nat := []
abbrev wsL_X8_isDigit : List Nat := []
abbrev fsI_X8_isDigit : List (Nat × Nat) := []
abbrev fsL_X8_isDigit : List (Nat × Nat) := []
set_option maxRecDepth 10000 in
theorem mnX8_isDigit {a0 : Int32} {I : Ix} {L : Lx} {Q Q' : Bool → Ix → Lx → Prop} (hQ : ∀ (r : Bool) (I1 : Ix) (L1 : Lx), FrI (wsI_X8_isDigit) (fsI_X8_isDigit) I I1 → FrL (wsL_X8_isDigit) (fsL_X8_isDigit) L L1 → Q r I1 L1 → Q' r I1 L1) (h : wpX8_isDigit a0 I L Q) : wpX8_isDigit a0 I L Q' := by
  have hF : FrI (wsI_X8_isDigit) (fsI_X8_isDigit) I I := FrI.rf
  have hL : FrL (wsL_X8_isDigit) (fsL_X8_isDigit) L L := FrL.rf
  unfold wpX8_isDigit at h ⊢
  refine ⟨fun hc => ?_, fun hc => ?_⟩
  · have h := h.1 hc
    exact hQ _ _ _ hF hL h
  · have h := h.2 hc
    refine ⟨fun hc => ?_, fun hc => ?_⟩
    · have h := h.1 hc
      exact hQ _ _ _ hF hL h
    · have h := h.2 hc
      exact hQ _ _ _ hF hL h
abbrev wsI_X8_isSignByte : List Nat := []
abbrev wsL_X8_isSignByte : List Nat := []
abbrev fsI_X8_isSignByte : List (Nat × Nat) := []
abbrev fsL_X8_isSignByte : List (Nat × Nat) := []
set_option maxRecDepth 10000 in
theorem mnX8_isSignByte {a0 : Int32} {I : Ix} {L : Lx} {Q Q' : Bool → Ix → Lx → Prop} (hQ : ∀ (r : Bool) (I1 : Ix) (L1 : Lx), FrI (wsI_X8_isSignByte) (fsI_X8_isSignByte) I I1 → FrL (wsL_X8_isSignByte) (fsL_X8_isSignByte) L L1 → Q r I1 L1 → Q' r I1 L1) (h : wpX8_isSignByte a0 I L Q) : wpX8_isSignByte a0 I L Q' := by
  have hF : FrI (wsI_X8_isSignByte) (fsI_X8_isSignByte) I I := FrI.rf
  have hL : FrL (wsL_X8_isSignByte) (fsL_X8_isSignByte) L L := FrL.rf
  unfold wpX8_isSignByte at h ⊢
  refine ⟨fun hc => ?_, fun hc => ?_, fun hc => ?_, fun hc => ?_, fun hc => ?_, fun hc => ?_, fun hc => ?_, fun hc => ?_, fun hc => ?_, ?_⟩
  · have h := h.1 hc
    exact hQ _ _ _ hF hL h
  · have h := h.2.1 hc
    exact hQ _ _ _ hF hL h
  · have h := h.2.2.1 hc
    exact hQ _ _ _ hF hL h
  · have h := h.2.2.2.1 hc
    exact hQ _ _ _ hF hL h
  · have h := h.2.2.2.2.1 hc
    exact hQ _ _ _ hF hL h
  · have h := h.2.2.2.2.2.1 hc
    exact hQ _ _ _ hF hL h
  · have h := h.2.2.2.2.2.2.1 hc
    exact hQ _ _ _ hF hL h
  · have h := h.2.2.2.2.2.2.2.1 hc
    exact hQ _ _ _ hF hL h
  · have h := h.2.2.2.2.2.2.2.2.1 hc
    exact hQ _ _ _ hF hL h
  · intro e0 e1 e2 e3 e4 e5 e6 e7 e8
    have h := h.2.2.2.2.2.2.2.2.2 e0 e1 e2 e3 e4 e5 e6 e7 e8
    exact hQ _ _ _ hF hL h
abbrev wsI_X8_readNumber : List Nat := []
abbrev wsL_X8_readNumber : List Nat := []
abbrev fsI_X8_readNumber : List (Nat × Nat) := [(51, 3), (51, 5), (51, 2)]
abbrev fsL_X8_readNumber : List (Nat × Nat) := []
set_option maxRecDepth 10000 in
theorem mnX8_readNumber_b121 {I0 : Ix} {L0 : Lx} {Q Q' : Ix → Lx → Prop} (hQ : ∀ (I1 : Ix) (L1 : Lx), FrI (wsI_X8_readNumber) (fsI_X8_readNumber) I0 I1 → FrL (wsL_X8_readNumber) (fsL_X8_readNumber) L0 L1 → Q I1 L1 → Q' I1 L1) {t1 : Int32} {I : Ix} {L : Lx} (hF : FrI (wsI_X8_readNumber) (fsI_X8_readNumber) I0 I) (hL : FrL (wsL_X8_readNumber) (fsL_X8_readNumber) L0 L) (h : wpX8_readNumber_b121 Q t1 I L) : wpX8_readNumber_b121 Q' t1 I L := by
  unfold wpX8_readNumber_b121 at h ⊢
  intro I1 eI1
  have h := h I1 eI1
  have hF := hF.pf eI1 (by decide)
  exact hQ _ _ hF hL h
set_option maxRecDepth 10000 in
theorem mnX8_readNumber_b110 {I0 : Ix} {L0 : Lx} {Q Q' : Ix → Lx → Prop} (hQ : ∀ (I1 : Ix) (L1 : Lx), FrI (wsI_X8_readNumber) (fsI_X8_readNumber) I0 I1 → FrL (wsL_X8_readNumber) (fsL_X8_readNumber) L0 L1 → Q I1 L1 → Q' I1 L1) {t0 : Int32} {I : Ix} {L : Lx} (hF : FrI (wsI_X8_readNumber) (fsI_X8_readNumber) I0 I) (hL : FrL (wsL_X8_readNumber) (fsL_X8_readNumber) L0 L) (h : wpX8_readNumber_b110 Q t0 I L) : wpX8_readNumber_b110 Q' t0 I L := by
  unfold wpX8_readNumber_b110 at h ⊢
  refine ⟨fun hc => ?_, fun hc => ?_⟩
  · have h := h.1 hc
    exact mnX8_readNumber_b121 hQ hF hL h
  · have h := h.2 hc
    exact mnX8_readNumber_b121 hQ hF hL h
set_option maxRecDepth 10000 in
theorem mnX8_readNumber_b109 {I0 : Ix} {L0 : Lx} {Q Q' : Ix → Lx → Prop} (hQ : ∀ (I1 : Ix) (L1 : Lx), FrI (wsI_X8_readNumber) (fsI_X8_readNumber) I0 I1 → FrL (wsL_X8_readNumber) (fsL_X8_readNumber) L0 L1 → Q I1 L1 → Q' I1 L1) {I : Ix} {L : Lx} (hF : FrI (wsI_X8_readNumber) (fsI_X8_readNumber) I0 I) (hL : FrL (wsL_X8_readNumber) (fsL_X8_readNumber) L0 L) (h : wpX8_readNumber_b109 Q I L) : wpX8_readNumber_b109 Q' I L := by
  unfold wpX8_readNumber_b109 at h ⊢
  exact mnX8_readNumber_b110 hQ hF hL h
set_option maxRecDepth 10000 in
theorem mnX8_readNumber_b75 {I0 : Ix} {L0 : Lx} {Q Q' : Ix → Lx → Prop} (hQ : ∀ (I1 : Ix) (L1 : Lx), FrI (wsI_X8_readNumber) (fsI_X8_readNumber) I0 I1 → FrL (wsL_X8_readNumber) (fsL_X8_readNumber) L0 L1 → Q I1 L1 → Q' I1 L1) {I : Ix} {L : Lx} (hF : FrI (wsI_X8_readNumber) (fsI_X8_readNumber) I0 I) (hL : FrL (wsL_X8_readNumber) (fsL_X8_readNumber) L0 L) (h : wpX8_readNumber_b75 Q I L) : wpX8_readNumber_b75 Q' I L := by
  unfold wpX8_readNumber_b75 at h ⊢
  refine ⟨fun hc => ?_, fun hc => ?_⟩
  · have h := h.1 hc
    exact mnX8_readNumber_b109 hQ hF hL h
  · have h := h.2 hc
    refine mnX7_byteAt (fun r3 I1 L2 hf hl h => ?_) h
    have hF := hF.tr hf (by decide) (by decide)
    have hL := hL.tr hl (by decide) (by decide)
    refine mnX8_isLetter (fun r6 I4 L5 hf hl h => ?_) h
    have hF := hF.tr hf (by decide) (by decide)
    have hL := hL.tr hl (by decide) (by decide)
    refine ⟨fun hc => ?_, fun hc => ?_⟩
    · have h := h.1 hc
      exact mnX8_readNumber_b109 hQ hF hL h
    · have h := h.2 hc
      exact mnX8_readNumber_b110 hQ hF hL h
set_option maxRecDepth 10000 in
theorem mnX8_readNumber_l5 {I0 : Ix} {L0 : Lx} {Q Q' : Ix → Lx → Prop} {P5 P5' : Ix → Lx → Prop} (hQ : ∀ (I1 : Ix) (L1 : Lx), FrI (wsI_X8_readNumber) (fsI_X8_readNumber) I0 I1 → FrL (wsL_X8_readNumber) (fsL_X8_readNumber) L0 L1 → Q I1 L1 → Q' I1 L1) (hP5 : ∀ (I1 : Ix) (L1 : Lx), FrI (wsI_X8_readNumber) (fsI_X8_readNumber) I0 I1 → FrL (wsL_X8_readNumber) (fsL_X8_readNumber) L0 L1 → P5 I1 L1 → P5' I1 L1) {I : Ix} {L : Lx} (hF : FrI (wsI_X8_readNumber) (fsI_X8_readNumber) I0 I) (hL : FrL (wsL_X8_readNumber) (fsL_X8_readNumber) L0 L) (h : wpX8_readNumber_l5 Q P5 I L) : wpX8_readNumber_l5 Q' P5' I L := by
  unfold wpX8_readNumber_l5 at h ⊢
  refine ⟨fun hc => ?_, fun hc => ?_⟩
  · have h := h.1 hc
    exact mnX8_readNumber_b75 hQ hF hL h
  · have h := h.2 hc
    refine mnX7_byteAt (fun r3 I1 L2 hf hl h => ?_) h
    have hF := hF.tr hf (by decide) (by decide)
    have hL := hL.tr hl (by decide) (by decide)
    refine mnX8_isDigit (fun r6 I4 L5 hf hl h => ?_) h
    have hF := hF.tr hf (by decide) (by decide)
    have hL := hL.tr hl (by decide) (by decide)
    refine ⟨fun hc => ?_, fun hc => ?_⟩
    · have h := h.1 hc
      exact mnX8_readNumber_b75 hQ hF hL h
    · have h := h.2 hc
      refine mnX7_byteAt (fun r9 I7 L8 hf hl h => ?_) h
      have hF := hF.tr hf (by decide) (by decide)
      have hL := hL.tr hl (by decide) (by decide)
      intro I10 eI10
      have h := h I10 eI10
      have hF := hF.pf eI10 (by decide)
      intro I11 eI11
      have h := h I11 eI11
      have hF := hF.pf eI11 (by decide)
      exact hP5 _ _ hF hL h
set_option maxRecDepth 10000 in
theorem mnX8_readNumber_h5 {I0 : Ix} {L0 : Lx} {Q Q' : Ix → Lx → Prop} (hQ : ∀ (I1 : Ix) (L1 : Lx), FrI (wsI_X8_readNumber) (fsI_X8_readNumber) I0 I1 → FrL (wsL_X8_readNumber) (fsL_X8_readNumber) L0 L1 → Q I1 L1 → Q' I1 L1) {I : Ix} {L : Lx} (hF : FrI (wsI_X8_readNumber) (fsI_X8_readNumber) I0 I) (hL : FrL (wsL_X8_readNumber) (fsL_X8_readNumber) L0 L) (h : wpX8_readNumber_h5 Q I L) : wpX8_readNumber_h5 Q' I L := by
  unfold wpX8_readNumber_h5 at h
  refine Lfp.ind (P := fun z => FrI (wsI_X8_readNumber) (fsI_X8_readNumber) I0 z.1 → FrL (wsL_X8_readNumber) (fsL_X8_readNumber) L0 z.2 → wpX8_readNumber_h5 Q' z.1 z.2) ?_ h hF hL
  intro z P' hP' h hF hL
  obtain ⟨I, L⟩ := z
  exact wpX8_readNumber_h5_fold (mnX8_readNumber_l5 hQ (fun I L hF hL h9 => hP' (I, L) h9 hF hL) hF hL h)
set_option maxRecDepth 10000 in
theorem mnX8_readNumber {I : Ix} {L : Lx} {Q Q' : Ix → Lx → Prop} (hQ : ∀ (I1 : Ix) (L1 : Lx), FrI (wsI_X8_readNumber) (fsI_X8_readNumber) I I1 → FrL (wsL_X8_readNumber) (fsL_X8_readNumber) L L1 → Q I1 L1 → Q' I1 L1) (h : wpX8_readNumber I L Q) : wpX8_readNumber I L Q' := by
  have hF : FrI (wsI_X8_readNumber) (fsI_X8_readNumber) I I := FrI.rf
  have hL : FrL (wsL_X8_readNumber) (fsL_X8_readNumber) L L := FrL.rf
  unfold wpX8_readNumber at h ⊢
  intro I1 eI1
  have h := h I1 eI1
  have hF := hF.pf eI1 (by decide)
  exact mnX8_readNumber_h5 hQ hF hL h
abbrev wsI_X8_withLetter : List Nat := []
abbrev wsL_X8_withLetter : List Nat := []
abbrev fsI_X8_withLetter : List (Nat × Nat) := []
abbrev fsL_X8_withLetter : List (Nat × Nat) := []
set_option maxRecDepth 10000 in
theorem mnX8_withLetter {a0 : Int64} {a2 : Int32} {I : Ix} {L : Lx} {Q Q' : Int64 → Ix → Lx → Prop} (hQ : ∀ (r : Int64) (I1 : Ix) (L1 : Lx), FrI (wsI_X8_withLetter) (fsI_X8_withLetter) I I1 → FrL (wsL_X8_withLetter) (fsL_X8_withLetter) L L1 → Q r I1 L1 → Q' r I1 L1) (h : wpX8_withLetter a0 a2 I L Q) : wpX8_withLetter a0 a2 I L Q' := by
  have hF : FrI (wsI_X8_withLetter) (fsI_X8_withLetter) I I := FrI.rf
  have hL : FrL (wsL_X8_withLetter) (fsL_X8_withLetter) L L := FrL.rf
  unfold wpX8_withLetter at h ⊢
  exact hQ _ _ _ hF hL h
abbrev wsI_X8_readWord : List Nat := []
abbrev wsL_X8_readWord : List Nat := []
abbrev fsI_X8_readWord : List (Nat × Nat) := [(51, 3), (51, 5), (51, 2)]
abbrev fsL_X8_readWord : List (Nat × Nat) := [(51, 6)]
set_option maxRecDepth 10000 in
theorem mnX8_readWord_l98 {I0 : Ix} {L0 : Lx} {Q Q' : Ix → Lx → Prop} {P98 P98' : Int32 → Ix → Lx → Prop} (hQ : ∀ (I1 : Ix) (L1 : Lx), FrI (wsI_X8_readWord) (fsI_X8_readWord) I0 I1 → FrL (wsL_X8_readWord) (fsL_X8_readWord) L0 L1 → Q I1 L1 → Q' I1 L1) (hP98 : ∀ (v1 : Int32) (I1 : Ix) (L1 : Lx), FrI (wsI_X8_readWord) (fsI_X8_readWord) I0 I1 → FrL (wsL_X8_readWord) (fsL_X8_readWord) L0 L1 → P98 v1 I1 L1 → P98' v1 I1 L1) {v1 : Int32} {I : Ix} {L : Lx} (hF : FrI (wsI_X8_readWord) (fsI_X8_readWord) I0 I) (hL : FrL (wsL_X8_readWord) (fsL_X8_readWord) L0 L) (h : wpX8_readWord_l98 Q P98 v1 I L) : wpX8_readWord_l98 Q' P98' v1 I L := by
  unfold wpX8_readWord_l98 at h ⊢
  refine ⟨fun hc => ?_, fun hc => ?_⟩
  · have h := h.1 hc
    exact hQ _ _ hF hL h
  · have h := h.2 hc
    refine ⟨h.1, ?_⟩
    have h := h.2
    refine ⟨fun hc => ?_, fun hc => ?_⟩
    · have h := h.1 hc
      exact hP98 _ _ _ hF hL h
    · have h := h.2 hc
      intro I1 eI1
      have h := h I1 eI1
      have hF := hF.pf eI1 (by decide)
      intro I2 eI2
      have h := h I2 eI2
      have hF := hF.pf eI2 (by decide)
      exact hP98 _ _ _ hF hL h
set_option maxRecDepth 10000 in
theorem mnX8_readWord_h98 {I0 : Ix} {L0 : Lx} {Q Q' : Ix → Lx → Prop} (hQ : ∀ (I1 : Ix) (L1 : Lx), FrI (wsI_X8_readWord) (fsI_X8_readWord) I0 I1 → FrL (wsL_X8_readWord) (fsL_X8_readWord) L0 L1 → Q I1 L1 → Q' I1 L1) {v1 : Int32} {I : Ix} {L : Lx} (hF : FrI (wsI_X8_readWord) (fsI_X8_readWord) I0 I) (hL : FrL (wsL_X8_readWord) (fsL_X8_readWord) L0 L) (h : wpX8_readWord_h98 Q v1 I L) : wpX8_readWord_h98 Q' v1 I L := by
  unfold wpX8_readWord_h98 at h
  refine Lfp.ind (P := fun z => FrI (wsI_X8_readWord) (fsI_X8_readWord) I0 z.2.1 → FrL (wsL_X8_readWord) (fsL_X8_readWord) L0 z.2.2 → wpX8_readWord_h98 Q' z.1 z.2.1 z.2.2) ?_ h hF hL
  intro z P' hP' h hF hL
  obtain ⟨v1, I, L⟩ := z
  exact wpX8_readWord_h98_fold (mnX8_readWord_l98 hQ (fun v1 I L hF hL h9 => hP' (v1, I, L) h9 hF hL) hF hL h)
set_option maxRecDepth 10000 in
theorem mnX8_readWord_b71 {I0 : Ix} {L0 : Lx} {Q Q' : Ix → Lx → Prop} (hQ : ∀ (I1 : Ix) (L1 : Lx), FrI (wsI_X8_readWord) (fsI_X8_readWord) I0 I1 → FrL (wsL_X8_readWord) (fsL_X8_readWord) L0 L1 → Q I1 L1 → Q' I1 L1) {I : Ix} {L : Lx} (hF : FrI (wsI_X8_readWord) (fsI_X8_readWord) I0 I) (hL : FrL (wsL_X8_readWord) (fsL_X8_readWord) L0 L) (h : wpX8_readWord_b71 Q I L) : wpX8_readWord_b71 Q' I L := by
  unfold wpX8_readWord_b71 at h ⊢
  refine ⟨fun hc => ?_, fun hc => ?_⟩
  · have h := h.1 hc
    intro I1 eI1
    have h := h I1 eI1
    have hF := hF.pf eI1 (by decide)
    exact mnX8_readWord_h98 hQ hF hL h
  · have h := h.2 hc
    intro I2 eI2
    have h := h I2 eI2
    have hF := hF.pf eI2 (by decide)
    exact hQ _ _ hF hL h
set_option maxRecDepth 10000 in
theorem mnX8_readWord_l5 {I0 : Ix} {L0 : Lx} {Q Q' : Ix → Lx → Prop} {P5 P5' : Ix → Lx → Prop} (hQ : ∀ (I1 : Ix) (L1 : Lx), FrI (wsI_X8_readWord) (fsI_X8_readWord) I0 I1 → FrL (wsL_X8_readWord) (fsL_X8_readWord) L0 L1 → Q I1 L1 → Q' I1 L1) (hP5 : ∀ (I1 : Ix) (L1 : Lx), FrI (wsI_X8_readWord) (fsI_X8_readWord) I0 I1 → FrL (wsL_X8_readWord) (fsL_X8_readWord) L0 L1 → P5 I1 L1 → P5' I1 L1) {I : Ix} {L : Lx} (hF : FrI (wsI_X8_readWord) (fsI_X8_readWord) I0 I) (hL : FrL (wsL_X8_readWord) (fsL_X8_readWord) L0 L) (h : wpX8_readWord_l5 Q P5 I L) : wpX8_readWord_l5 Q' P5' I L := by
  unfold wpX8_readWord_l5 at h ⊢
  refine ⟨fun hc => ?_, fun hc => ?_⟩
  · have h := h.1 hc
    exact mnX8_readWord_b71 hQ hF hL h
  · have h := h.2 hc
    refine mnX7_byteAt (fun r3 I1 L2 hf hl h => ?_) h
    have hF := hF.tr hf (by decide) (by decide)
    have hL := hL.tr hl (by decide) (by decide)
    refine mnX8_isLetter (fun r6 I4 L5 hf hl h => ?_) h
    have hF := hF.tr hf (by decide) (by decide)
    have hL := hL.tr hl (by decide) (by decide)
    refine ⟨fun hc => ?_, fun hc => ?_⟩
    · have h := h.1 hc
      exact mnX8_readWord_b71 hQ hF hL h
    · have h := h.2 hc
      refine mnX7_byteAt (fun r9 I7 L8 hf hl h => ?_) h
      have hF := hF.tr hf (by decide) (by decide)
      have hL := hL.tr hl (by decide) (by decide)
      refine mnX8_withLetter (fun r12 I10 L11 hf hl h => ?_) h
      have hF := hF.tr hf (by decide) (by decide)
      have hL := hL.tr hl (by decide) (by decide)
      intro L13 eL13
      have h := h L13 eL13
      have hL := hL.pf eL13 (by decide)
      intro I14 eI14
      have h := h I14 eI14
      have hF := hF.pf eI14 (by decide)
      exact hP5 _ _ hF hL h
set_option maxRecDepth 10000 in
theorem mnX8_readWord_h5 {I0 : Ix} {L0 : Lx} {Q Q' : Ix → Lx → Prop} (hQ : ∀ (I1 : Ix) (L1 : Lx), FrI (wsI_X8_readWord) (fsI_X8_readWord) I0 I1 → FrL (wsL_X8_readWord) (fsL_X8_readWord) L0 L1 → Q I1 L1 → Q' I1 L1) {I : Ix} {L : Lx} (hF : FrI (wsI_X8_readWord) (fsI_X8_readWord) I0 I) (hL : FrL (wsL_X8_readWord) (fsL_X8_readWord) L0 L) (h : wpX8_readWord_h5 Q I L) : wpX8_readWord_h5 Q' I L := by
  unfold wpX8_readWord_h5 at h
  refine Lfp.ind (P := fun z => FrI (wsI_X8_readWord) (fsI_X8_readWord) I0 z.1 → FrL (wsL_X8_readWord) (fsL_X8_readWord) L0 z.2 → wpX8_readWord_h5 Q' z.1 z.2) ?_ h hF hL
  intro z P' hP' h hF hL
  obtain ⟨I, L⟩ := z
  exact wpX8_readWord_h5_fold (mnX8_readWord_l5 hQ (fun I L hF hL h9 => hP' (I, L) h9 hF hL) hF hL h)
set_option maxRecDepth 10000 in
theorem mnX8_readWord {I : Ix} {L : Lx} {Q Q' : Ix → Lx → Prop} (hQ : ∀ (I1 : Ix) (L1 : Lx), FrI (wsI_X8_readWord) (fsI_X8_readWord) I I1 → FrL (wsL_X8_readWord) (fsL_X8_readWord) L L1 → Q I1 L1 → Q' I1 L1) (h : wpX8_readWord I L Q) : wpX8_readWord I L Q' := by
  have hF : FrI (wsI_X8_readWord) (fsI_X8_readWord) I I := FrI.rf
  have hL : FrL (wsL_X8_readWord) (fsL_X8_readWord) L L := FrL.rf
  unfold wpX8_readWord at h ⊢
  intro L1 eL1
  have h := h L1 eL1
  have hL := hL.pf eL1 (by decide)
  exact mnX8_readWord_h5 hQ hF hL h
abbrev wsI_X8_step : List Nat := []
abbrev wsL_X8_step : List Nat := []
abbrev fsI_X8_step : List (Nat × Nat) := [(51, 3), (51, 5), (51, 2), (51, 4)]
abbrev fsL_X8_step : List (Nat × Nat) := [(51, 6)]
set_option maxRecDepth 10000 in
theorem mnX8_step_b78 {I0 : Ix} {L0 : Lx} {Q Q' : Ix → Lx → Prop} (hQ : ∀ (I1 : Ix) (L1 : Lx), FrI (wsI_X8_step) (fsI_X8_step) I0 I1 → FrL (wsL_X8_step) (fsL_X8_step) L0 L1 → Q I1 L1 → Q' I1 L1) {v1 : Int32} {t1 : Int32} {I : Ix} {L : Lx} (hF : FrI (wsI_X8_step) (fsI_X8_step) I0 I) (hL : FrL (wsL_X8_step) (fsL_X8_step) L0 L) (h : wpX8_step_b78 Q v1 t1 I L) : wpX8_step_b78 Q' v1 t1 I L := by
  unfold wpX8_step_b78 at h ⊢
  intro I1 eI1
  have h := h I1 eI1
  have hF := hF.pf eI1 (by decide)
  intro I2 eI2
  have h := h I2 eI2
  have hF := hF.pf eI2 (by decide)
  intro I3 eI3
  have h := h I3 eI3
  have hF := hF.pf eI3 (by decide)
  exact hQ _ _ hF hL h
set_option maxRecDepth 10000 in
theorem mnX8_step {I : Ix} {L : Lx} {Q Q' : Ix → Lx → Prop} (hQ : ∀ (I1 : Ix) (L1 : Lx), FrI (wsI_X8_step) (fsI_X8_step) I I1 → FrL (wsL_X8_step) (fsL_X8_step) L L1 → Q I1 L1 → Q' I1 L1) (h : wpX8_step I L Q) : wpX8_step I L Q' := by
  have hF : FrI (wsI_X8_step) (fsI_X8_step) I I := FrI.rf
  have hL : FrL (wsL_X8_step) (fsL_X8_step) L L := FrL.rf
  unfold wpX8_step at h ⊢
  refine mnX8_skipBlanks (fun I1 L2 hf hl h => ?_) h
  have hF := hF.tr hf (by decide) (by decide)
  have hL := hL.tr hl (by decide) (by decide)
  intro I3 eI3
  have h := h I3 eI3
  have hF := hF.pf eI3 (by decide)
  refine mnX7_byteAt (fun r6 I4 L5 hf hl h => ?_) h
  have hF := hF.tr hf (by decide) (by decide)
  have hL := hL.tr hl (by decide) (by decide)
  refine ⟨fun hc => ?_, fun hc => ?_⟩
  · have h := h.1 hc
    refine mnX8_isLetter (fun r9 I7 L8 hf hl h => ?_) h
    have hF := hF.tr hf (by decide) (by decide)
    have hL := hL.tr hl (by decide) (by decide)
    refine ⟨fun hc => ?_, fun hc => ?_⟩
    · have h := h.1 hc
      refine mnX8_isDigit (fun r12 I10 L11 hf hl h => ?_) h
      have hF := hF.tr hf (by decide) (by decide)
      have hL := hL.tr hl (by decide) (by decide)
      refine ⟨fun hc => ?_, fun hc => ?_⟩
      · have h := h.1 hc
        refine mnX8_isSignByte (fun r15 I13 L14 hf hl h => ?_) h
        have hF := hF.tr hf (by decide) (by decide)
        have hL := hL.tr hl (by decide) (by decide)
        refine ⟨fun hc => ?_, fun hc => ?_⟩
        · have h := h.1 hc
          exact mnX8_step_b78 hQ hF hL h
        · have h := h.2 hc
          exact mnX8_step_b78 hQ hF hL h
      · have h := h.2 hc
        refine mnX8_readNumber (fun I16 L17 hf hl h => ?_) h
        have hF := hF.tr hf (by decide) (by decide)
        have hL := hL.tr hl (by decide) (by decide)
        exact hQ _ _ hF hL h
    · have h := h.2 hc
      refine mnX8_readWord (fun I18 L19 hf hl h => ?_) h
      have hF := hF.tr hf (by decide) (by decide)
      have hL := hL.tr hl (by decide) (by decide)
      exact hQ _ _ hF hL h
  · have h := h.2 hc
    intro I20 eI20
    have h := h I20 eI20
    have hF := hF.pf eI20 (by decide)
    exact hQ _ _ hF hL h
abbrev wsI_X3_refuse : List Nat := []
abbrev wsL_X3_refuse : List Nat := []
abbrev fsI_X3_refuse : List (Nat × Nat) := [(49, 7), (49, 8)]
abbrev fsL_X3_refuse : List (Nat × Nat) := []
set_option maxRecDepth 10000 in
theorem mnX3_refuse_b17 {I0 : Ix} {L0 : Lx} {Q Q' : Bool → Ix → Lx → Prop} (hQ : ∀ (r : Bool) (I1 : Ix) (L1 : Lx), FrI (wsI_X3_refuse) (fsI_X3_refuse) I0 I1 → FrL (wsL_X3_refuse) (fsL_X3_refuse) L0 L1 → Q r I1 L1 → Q' r I1 L1) {t1 : Int32} {I : Ix} {L : Lx} (hF : FrI (wsI_X3_refuse) (fsI_X3_refuse) I0 I) (hL : FrL (wsL_X3_refuse) (fsL_X3_refuse) L0 L) (h : wpX3_refuse_b17 Q t1 I L) : wpX3_refuse_b17 Q' t1 I L := by
  unfold wpX3_refuse_b17 at h ⊢
  intro I1 eI1
  have h := h I1 eI1
  have hF := hF.pf eI1 (by decide)
  intro I2 eI2
  have h := h I2 eI2
  have hF := hF.pf eI2 (by decide)
  exact hQ _ _ _ hF hL h
set_option maxRecDepth 10000 in
theorem mnX3_refuse {a1 : Int32} {I : Ix} {L : Lx} {Q Q' : Bool → Ix → Lx → Prop} (hQ : ∀ (r : Bool) (I1 : Ix) (L1 : Lx), FrI (wsI_X3_refuse) (fsI_X3_refuse) I I1 → FrL (wsL_X3_refuse) (fsL_X3_refuse) L L1 → Q r I1 L1 → Q' r I1 L1) (h : wpX3_refuse a1 I L Q) : wpX3_refuse a1 I L Q' := by
  have hF : FrI (wsI_X3_refuse) (fsI_X3_refuse) I I := FrI.rf
  have hL : FrL (wsL_X3_refuse) (fsL_X3_refuse) L L := FrL.rf
  unfold wpX3_refuse at h ⊢
  refine ⟨fun hc => ?_, fun hc => ?_⟩
  · have h := h.1 hc
    exact mnX3_refuse_b17 hQ hF hL h
  · have h := h.2 hc
    exact mnX3_refuse_b17 hQ hF hL h
abbrev wsI_X3_newName (r1 : Nat) : List Nat := []
abbrev wsL_X3_newName (r1 : Nat) : List Nat := [r1]
abbrev fsI_X3_newName (r1 : Nat) : List (Nat × Nat) := [(51, 3), (51, 5), (51, 2), (51, 4), (49, 7), (49, 8)]
abbrev fsL_X3_newName (r1 : Nat) : List (Nat × Nat) := [(51, 6)]
set_option maxRecDepth 10000 in
theorem mnX3_newName_l19 {r1 : Nat} {N1 : Nat} {I0 : Ix} {L0 : Lx} {Q Q' : Bool → Ix → Lx → Prop} {P19 P19' : Int32 → Int32 → Ix → Lx → Prop} (hQ : ∀ (r : Bool) (I1 : Ix) (L1 : Lx), FrI (wsI_X3_newName r1) (fsI_X3_newName r1) I0 I1 → FrL (wsL_X3_newName r1) (fsL_X3_newName r1) L0 L1 → Q r I1 L1 → Q' r I1 L1) (hP19 : ∀ (v2 : Int32) (v3 : Int32) (I1 : Ix) (L1 : Lx), FrI (wsI_X3_newName r1) (fsI_X3_newName r1) I0 I1 → FrL (wsL_X3_newName r1) (fsL_X3_newName r1) L0 L1 → P19 v2 v3 I1 L1 → P19' v2 v3 I1 L1) {v2 : Int32} {v3 : Int32} {I : Ix} {L : Lx} (hF : FrI (wsI_X3_newName r1) (fsI_X3_newName r1) I0 I) (hL : FrL (wsL_X3_newName r1) (fsL_X3_newName r1) L0 L) (h : wpX3_newName_l19 r1 N1 Q P19 v2 v3 I L) : wpX3_newName_l19 r1 N1 Q' P19' v2 v3 I L := by
  unfold wpX3_newName_l19 at h ⊢
  refine ⟨fun hc => ?_, fun hc => ?_⟩
  · have h := h.1 hc
    refine ⟨h.1, ?_⟩
    have h := h.2
    intro L1 eL1
    have h := h L1 eL1
    have hL := hL.pw eL1 (by simp)
    refine mnX8_step (fun I2 L3 hf hl h => ?_) h
    have hF := hF.tr hf (by intro k hk; first | (simp only [List.mem_cons, List.not_mem_nil, or_false] at hk ⊢; omega) | (simp at hk; done) | (simp at hk ⊢; omega)) (by intro q hq; obtain ⟨k, j⟩ := q; first | (simp only [List.mem_cons, List.not_mem_nil, or_false, Prod.mk.injEq] at hq ⊢; omega) | (simp at hq; done))
    have hL := hL.tr hl (by intro k hk; first | (simp only [List.mem_cons, List.not_mem_nil, or_false] at hk ⊢; omega) | (simp at hk; done) | (simp at hk ⊢; omega)) (by intro q hq; obtain ⟨k, j⟩ := q; first | (simp only [List.mem_cons, List.not_mem_nil, or_false, Prod.mk.injEq] at hq ⊢; omega) | (simp at hq; done))
    exact hQ _ _ _ hF hL h
  · have h := h.2 hc
    refine ⟨h.1, ?_⟩
    have h := h.2
    refine ⟨fun hc => ?_, fun hc => ?_⟩
    · have h := h.1 hc
      exact hP19 _ _ _ _ hF hL h
    · have h := h.2 hc
      refine mnX3_refuse (fun r6 I4 L5 hf hl h => ?_) h
      have hF := hF.tr hf (by intro k hk; first | (simp only [List.mem_cons, List.not_mem_nil, or_false] at hk ⊢; omega) | (simp at hk; done) | (simp at hk ⊢; omega)) (by intro q hq; obtain ⟨k, j⟩ := q; first | (simp only [List.mem_cons, List.not_mem_nil, or_false, Prod.mk.injEq] at hq ⊢; omega) | (simp at hq; done))
      have hL := hL.tr hl (by intro k hk; first | (simp only [List.mem_cons, List.not_mem_nil, or_false] at hk ⊢; omega) | (simp at hk; done) | (simp at hk ⊢; omega)) (by intro q hq; obtain ⟨k, j⟩ := q; first | (simp only [List.mem_cons, List.not_mem_nil, or_false, Prod.mk.injEq] at hq ⊢; omega) | (simp at hq; done))
      exact hQ _ _ _ hF hL h
set_option maxRecDepth 10000 in
theorem mnX3_newName_h19 {r1 : Nat} {N1 : Nat} {I0 : Ix} {L0 : Lx} {Q Q' : Bool → Ix → Lx → Prop} (hQ : ∀ (r : Bool) (I1 : Ix) (L1 : Lx), FrI (wsI_X3_newName r1) (fsI_X3_newName r1) I0 I1 → FrL (wsL_X3_newName r1) (fsL_X3_newName r1) L0 L1 → Q r I1 L1 → Q' r I1 L1) {v2 : Int32} {v3 : Int32} {I : Ix} {L : Lx} (hF : FrI (wsI_X3_newName r1) (fsI_X3_newName r1) I0 I) (hL : FrL (wsL_X3_newName r1) (fsL_X3_newName r1) L0 L) (h : wpX3_newName_h19 r1 N1 Q v2 v3 I L) : wpX3_newName_h19 r1 N1 Q' v2 v3 I L := by
  unfold wpX3_newName_h19 at h
  refine Lfp.ind (P := fun z => FrI (wsI_X3_newName r1) (fsI_X3_newName r1) I0 z.2.2.1 → FrL (wsL_X3_newName r1) (fsL_X3_newName r1) L0 z.2.2.2 → wpX3_newName_h19 r1 N1 Q' z.1 z.2.1 z.2.2.1 z.2.2.2) ?_ h hF hL
  intro z P' hP' h hF hL
  obtain ⟨v2, v3, I, L⟩ := z
  exact wpX3_newName_h19_fold (mnX3_newName_l19 hQ (fun v2 v3 I L hF hL h9 => hP' (v2, v3, I, L) h9 hF hL) hF hL h)
set_option maxRecDepth 10000 in
theorem mnX3_newName {r1 : Nat} {N1 : Nat} {a2 : Int32} {I : Ix} {L : Lx} {Q Q' : Bool → Ix → Lx → Prop} (hQ : ∀ (r : Bool) (I1 : Ix) (L1 : Lx), FrI (wsI_X3_newName r1) (fsI_X3_newName r1) I I1 → FrL (wsL_X3_newName r1) (fsL_X3_newName r1) L L1 → Q r I1 L1 → Q' r I1 L1) (h : wpX3_newName r1 N1 a2 I L Q) : wpX3_newName r1 N1 a2 I L Q' := by
  have hF : FrI (wsI_X3_newName r1) (fsI_X3_newName r1) I I := FrI.rf
  have hL : FrL (wsL_X3_newName r1) (fsL_X3_newName r1) L L := FrL.rf
  unfold wpX3_newName at h ⊢
  refine ⟨fun hc => ?_, fun hc => ?_⟩
  · have h := h.1 hc
    exact mnX3_newName_h19 hQ hF hL h
  · have h := h.2 hc
    refine mnX3_refuse (fun r3 I1 L2 hf hl h => ?_) h
    have hF := hF.tr hf (by intro k hk; first | (simp only [List.mem_cons, List.not_mem_nil, or_false] at hk ⊢; omega) | (simp at hk; done) | (simp at hk ⊢; omega)) (by intro q hq; obtain ⟨k, j⟩ := q; first | (simp only [List.mem_cons, List.not_mem_nil, or_false, Prod.mk.injEq] at hq ⊢; omega) | (simp at hq; done))
    have hL := hL.tr hl (by intro k hk; first | (simp only [List.mem_cons, List.not_mem_nil, or_false] at hk ⊢; omega) | (simp at hk; done) | (simp at hk ⊢; omega)) (by intro q hq; obtain ⟨k, j⟩ := q; first | (simp only [List.mem_cons, List.not_mem_nil, or_false, Prod.mk.injEq] at hq ⊢; omega) | (simp at hq; done))
    exact hQ _ _ _ hF hL h
abbrev wsI_X8_isWord : List Nat := []
abbrev wsL_X8_isWord : List Nat := []
abbrev fsI_X8_isWord : List (Nat × Nat) := []
abbrev fsL_X8_isWord : List (Nat × Nat) := []
set_option maxRecDepth 10000 in
theorem mnX8_isWord {a1 : Int32} {I : Ix} {L : Lx} {Q Q' : Bool → Ix → Lx → Prop} (hQ : ∀ (r : Bool) (I1 : Ix) (L1 : Lx), FrI (wsI_X8_isWord) (fsI_X8_isWord) I I1 → FrL (wsL_X8_isWord) (fsL_X8_isWord) L L1 → Q r I1 L1 → Q' r I1 L1) (h : wpX8_isWord a1 I L Q) : wpX8_isWord a1 I L Q' := by
  have hF : FrI (wsI_X8_isWord) (fsI_X8_isWord) I I := FrI.rf
  have hL : FrL (wsL_X8_isWord) (fsL_X8_isWord) L L := FrL.rf
  unfold wpX8_isWord at h ⊢
  refine ⟨fun hc => ?_, fun hc => ?_⟩
  · have h := h.1 hc
    exact hQ _ _ _ hF hL h
  · have h := h.2 hc
    refine ⟨fun hc => ?_, fun hc => ?_⟩
    · have h := h.1 hc
      exact hQ _ _ _ hF hL h
    · have h := h.2 hc
      exact hQ _ _ _ hF hL h
abbrev wsI_X3_number (r1 : Nat) : List Nat := [r1]
abbrev wsL_X3_number (r1 : Nat) : List Nat := []
abbrev fsI_X3_number (r1 : Nat) : List (Nat × Nat) := [(49, 7), (49, 8), (51, 3), (51, 5), (51, 2), (51, 4)]
abbrev fsL_X3_number (r1 : Nat) : List (Nat × Nat) := [(51, 6)]
set_option maxRecDepth 10000 in
theorem mnX3_number_b65 {r1 : Nat} {N1 : Nat} {I0 : Ix} {L0 : Lx} {Q Q' : Bool → Ix → Lx → Prop} (hQ : ∀ (r : Bool) (I1 : Ix) (L1 : Lx), FrI (wsI_X3_number r1) (fsI_X3_number r1) I0 I1 → FrL (wsL_X3_number r1) (fsL_X3_number r1) L0 L1 → Q r I1 L1 → Q' r I1 L1) {I : Ix} {L : Lx} (hF : FrI (wsI_X3_number r1) (fsI_X3_number r1) I0 I) (hL : FrL (wsL_X3_number r1) (fsL_X3_number r1) L0 L) (h : wpX3_number_b65 r1 N1 Q I L) : wpX3_number_b65 r1 N1 Q' I L := by
  unfold wpX3_number_b65 at h ⊢
  refine mnX3_refuse (fun r3 I1 L2 hf hl h => ?_) h
  have hF := hF.tr hf (by intro k hk; first | (simp only [List.mem_cons, List.not_mem_nil, or_false] at hk ⊢; omega) | (simp at hk; done) | (simp at hk ⊢; omega)) (by intro q hq; obtain ⟨k, j⟩ := q; first | (simp only [List.mem_cons, List.not_mem_nil, or_false, Prod.mk.injEq] at hq ⊢; omega) | (simp at hq; done))
  have hL := hL.tr hl (by intro k hk; first | (simp only [List.mem_cons, List.not_mem_nil, or_false] at hk ⊢; omega) | (simp at hk; done) | (simp at hk ⊢; omega)) (by intro q hq; obtain ⟨k, j⟩ := q; first | (simp only [List.mem_cons, List.not_mem_nil, or_false, Prod.mk.injEq] at hq ⊢; omega) | (simp at hq; done))
  exact hQ _ _ _ hF hL h
set_option maxRecDepth 10000 in
theorem mnX3_number {r1 : Nat} {N1 : Nat} {a2 : Int32} {a3 : Int32} {a4 : Int32} {a5 : Int32} {I : Ix} {L : Lx} {Q Q' : Bool → Ix → Lx → Prop} (hQ : ∀ (r : Bool) (I1 : Ix) (L1 : Lx), FrI (wsI_X3_number r1) (fsI_X3_number r1) I I1 → FrL (wsL_X3_number r1) (fsL_X3_number r1) L L1 → Q r I1 L1 → Q' r I1 L1) (h : wpX3_number r1 N1 a2 a3 a4 a5 I L Q) : wpX3_number r1 N1 a2 a3 a4 a5 I L Q' := by
  have hF : FrI (wsI_X3_number r1) (fsI_X3_number r1) I I := FrI.rf
  have hL : FrL (wsL_X3_number r1) (fsL_X3_number r1) L L := FrL.rf
  unfold wpX3_number at h ⊢
  refine mnX8_isWord (fun r3 I1 L2 hf hl h => ?_) h
  have hF := hF.tr hf (by intro k hk; first | (simp only [List.mem_cons, List.not_mem_nil, or_false] at hk ⊢; omega) | (simp at hk; done) | (simp at hk ⊢; omega)) (by intro q hq; obtain ⟨k, j⟩ := q; first | (simp only [List.mem_cons, List.not_mem_nil, or_false, Prod.mk.injEq] at hq ⊢; omega) | (simp at hq; done))
  have hL := hL.tr hl (by intro k hk; first | (simp only [List.mem_cons, List.not_mem_nil, or_false] at hk ⊢; omega) | (simp at hk; done) | (simp at hk ⊢; omega)) (by intro q hq; obtain ⟨k, j⟩ := q; first | (simp only [List.mem_cons, List.not_mem_nil, or_false, Prod.mk.injEq] at hq ⊢; omega) | (simp at hq; done))
  refine ⟨fun hc => ?_, fun hc => ?_⟩
  · have h := h.1 hc
    refine mnX8_step (fun I4 L5 hf hl h => ?_) h
    have hF := hF.tr hf (by intro k hk; first | (simp only [List.mem_cons, List.not_mem_nil, or_false] at hk ⊢; omega) | (simp at hk; done) | (simp at hk ⊢; omega)) (by intro q hq; obtain ⟨k, j⟩ := q; first | (simp only [List.mem_cons, List.not_mem_nil, or_false, Prod.mk.injEq] at hq ⊢; omega) | (simp at hq; done))
    have hL := hL.tr hl (by intro k hk; first | (simp only [List.mem_cons, List.not_mem_nil, or_false] at hk ⊢; omega) | (simp at hk; done) | (simp at hk ⊢; omega)) (by intro q hq; obtain ⟨k, j⟩ := q; first | (simp only [List.mem_cons, List.not_mem_nil, or_false, Prod.mk.injEq] at hq ⊢; omega) | (simp at hq; done))
    refine ⟨fun hc => ?_, fun hc => ?_⟩
    · have h := h.1 hc
      refine ⟨fun hc => ?_, fun hc => ?_⟩
      · have h := h.1 hc
        exact mnX3_number_b65 hQ hF hL h
      · have h := h.2 hc
        refine ⟨fun hc => ?_, fun hc => ?_⟩
        · have h := h.1 hc
          refine ⟨h.1, ?_⟩
          have h := h.2
          intro I6 eI6
          have h := h I6 eI6
          have hF := hF.pw eI6 (by simp)
          refine mnX8_step (fun I7 L8 hf hl h => ?_) h
          have hF := hF.tr hf (by intro k hk; first | (simp only [List.mem_cons, List.not_mem_nil, or_false] at hk ⊢; omega) | (simp at hk; done) | (simp at hk ⊢; omega)) (by intro q hq; obtain ⟨k, j⟩ := q; first | (simp only [List.mem_cons, List.not_mem_nil, or_false, Prod.mk.injEq] at hq ⊢; omega) | (simp at hq; done))
          have hL := hL.tr hl (by intro k hk; first | (simp only [List.mem_cons, List.not_mem_nil, or_false] at hk ⊢; omega) | (simp at hk; done) | (simp at hk ⊢; omega)) (by intro q hq; obtain ⟨k, j⟩ := q; first | (simp only [List.mem_cons, List.not_mem_nil, or_false, Prod.mk.injEq] at hq ⊢; omega) | (simp at hq; done))
          exact hQ _ _ _ hF hL h
        · have h := h.2 hc
          exact mnX3_number_b65 hQ hF hL h
    · have h := h.2 hc
      refine mnX3_refuse (fun r11 I9 L10 hf hl h => ?_) h
      have hF := hF.tr hf (by intro k hk; first | (simp only [List.mem_cons, List.not_mem_nil, or_false] at hk ⊢; omega) | (simp at hk; done) | (simp at hk ⊢; omega)) (by intro q hq; obtain ⟨k, j⟩ := q; first | (simp only [List.mem_cons, List.not_mem_nil, or_false, Prod.mk.injEq] at hq ⊢; omega) | (simp at hq; done))
      have hL := hL.tr hl (by intro k hk; first | (simp only [List.mem_cons, List.not_mem_nil, or_false] at hk ⊢; omega) | (simp at hk; done) | (simp at hk ⊢; omega)) (by intro q hq; obtain ⟨k, j⟩ := q; first | (simp only [List.mem_cons, List.not_mem_nil, or_false, Prod.mk.injEq] at hq ⊢; omega) | (simp at hq; done))
      exact hQ _ _ _ hF hL h
  · have h := h.2 hc
    refine mnX3_refuse (fun r14 I12 L13 hf hl h => ?_) h
    have hF := hF.tr hf (by intro k hk; first | (simp only [List.mem_cons, List.not_mem_nil, or_false] at hk ⊢; omega) | (simp at hk; done) | (simp at hk ⊢; omega)) (by intro q hq; obtain ⟨k, j⟩ := q; first | (simp only [List.mem_cons, List.not_mem_nil, or_false, Prod.mk.injEq] at hq ⊢; omega) | (simp at hq; done))
    have hL := hL.tr hl (by intro k hk; first | (simp only [List.mem_cons, List.not_mem_nil, or_false] at hk ⊢; omega) | (simp at hk; done) | (simp at hk ⊢; omega)) (by intro q hq; obtain ⟨k, j⟩ := q; first | (simp only [List.mem_cons, List.not_mem_nil, or_false, Prod.mk.injEq] at hq ⊢; omega) | (simp at hq; done))
    exact hQ _ _ _ hF hL h
abbrev wsI_X8_isSign : List Nat := []
abbrev wsL_X8_isSign : List Nat := []
abbrev fsI_X8_isSign : List (Nat × Nat) := []
abbrev fsL_X8_isSign : List (Nat × Nat) := []
set_option maxRecDepth 10000 in
theorem mnX8_isSign {a1 : Int32} {I : Ix} {L : Lx} {Q Q' : Bool → Ix → Lx → Prop} (hQ : ∀ (r : Bool) (I1 : Ix) (L1 : Lx), FrI (wsI_X8_isSign) (fsI_X8_isSign) I I1 → FrL (wsL_X8_isSign) (fsL_X8_isSign) L L1 → Q r I1 L1 → Q' r I1 L1) (h : wpX8_isSign a1 I L Q) : wpX8_isSign a1 I L Q' := by
  have hF : FrI (wsI_X8_isSign) (fsI_X8_isSign) I I := FrI.rf
  have hL : FrL (wsL_X8_isSign) (fsL_X8_isSign) L L := FrL.rf
  unfold wpX8_isSign at h ⊢
  refine ⟨fun hc => ?_, fun hc => ?_⟩
  · have h := h.1 hc
    exact hQ _ _ _ hF hL h
  · have h := h.2 hc
    refine ⟨fun hc => ?_, fun hc => ?_⟩
    · have h := h.1 hc
      exact hQ _ _ _ hF hL h
    · have h := h.2 hc
      exact hQ _ _ _ hF hL h
abbrev wsI_X3_sign : List Nat := []
abbrev wsL_X3_sign : List Nat := []
abbrev fsI_X3_sign : List (Nat × Nat) := [(51, 3), (51, 5), (51, 2), (51, 4), (49, 7), (49, 8)]
abbrev fsL_X3_sign : List (Nat × Nat) := [(51, 6)]
set_option maxRecDepth 10000 in
theorem mnX3_sign {a1 : Int32} {I : Ix} {L : Lx} {Q Q' : Bool → Ix → Lx → Prop} (hQ : ∀ (r : Bool) (I1 : Ix) (L1 : Lx), FrI (wsI_X3_sign) (fsI_X3_sign) I I1 → FrL (wsL_X3_sign) (fsL_X3_sign) L L1 → Q r I1 L1 → Q' r I1 L1) (h : wpX3_sign a1 I L Q) : wpX3_sign a1 I L Q' := by
  have hF : FrI (wsI_X3_sign) (fsI_X3_sign) I I := FrI.rf
  have hL : FrL (wsL_X3_sign) (fsL_X3_sign) L L := FrL.rf
  unfold wpX3_sign at h ⊢
  refine mnX8_isSign (fun r3 I1 L2 hf hl h => ?_) h
  have hF := hF.tr hf (by decide) (by decide)
  have hL := hL.tr hl (by decide) (by decide)
  refine ⟨fun hc => ?_, fun hc => ?_⟩
  · have h := h.1 hc
    refine mnX8_step (fun I4 L5 hf hl h => ?_) h
    have hF := hF.tr hf (by decide) (by decide)
    have hL := hL.tr hl (by decide) (by decide)
    exact hQ _ _ _ hF hL h
  · have h := h.2 hc
    refine mnX3_refuse (fun r8 I6 L7 hf hl h => ?_) h
    have hF := hF.tr hf (by decide) (by decide)
    have hL := hL.tr hl (by decide) (by decide)
    exact hQ _ _ _ hF hL h
abbrev wsI_X3_placeLine : List Nat := [29]
abbrev wsL_X3_placeLine : List Nat := [28]
abbrev fsI_X3_placeLine : List (Nat × Nat) := [(27, 0), (51, 3), (51, 5), (51, 2), (51, 4), (49, 7), (49, 8)]
abbrev fsL_X3_placeLine : List (Nat × Nat) := [(51, 6)]
set_option maxRecDepth 10000 in
theorem mnX3_placeLine {I : Ix} {L : Lx} {Q Q' : Bool → Ix → Lx → Prop} (hQ : ∀ (r : Bool) (I1 : Ix) (L1 : Lx), FrI (wsI_X3_placeLine) (fsI_X3_placeLine) I I1 → FrL (wsL_X3_placeLine) (fsL_X3_placeLine) L L1 → Q r I1 L1 → Q' r I1 L1) (h : wpX3_placeLine I L Q) : wpX3_placeLine I L Q' := by
  have hF : FrI (wsI_X3_placeLine) (fsI_X3_placeLine) I I := FrI.rf
  have hL : FrL (wsL_X3_placeLine) (fsL_X3_placeLine) L L := FrL.rf
  unfold wpX3_placeLine at h ⊢
  refine ⟨fun hc => ?_, fun hc => ?_⟩
  · have h := h.1 hc
    refine mnX8_step (fun I1 L2 hf hl h => ?_) h
    have hF := hF.tr hf (by decide) (by decide)
    have hL := hL.tr hl (by decide) (by decide)
    refine mnX3_newName (fun r5 I3 L4 hf hl h => ?_) h
    have hF := hF.tr hf (by decide) (by decide)
    have hL := hL.tr hl (by decide) (by decide)
    refine ⟨fun hc => ?_, fun hc => ?_⟩
    · have h := h.1 hc
      exact hQ _ _ _ hF hL h
    · have h := h.2 hc
      refine mnX3_number (fun r8 I6 L7 hf hl h => ?_) h
      have hF := hF.tr hf (by decide) (by decide)
      have hL := hL.tr hl (by decide) (by decide)
      refine ⟨fun hc => ?_, fun hc => ?_⟩
      · have h := h.1 hc
        intro I9 eI9
        have h := h I9 eI9
        have hF := hF.pf eI9 (by decide)
        refine mnX3_sign (fun r12 I10 L11 hf hl h => ?_) h
        have hF := hF.tr hf (by decide) (by decide)
        have hL := hL.tr hl (by decide) (by decide)
        exact hQ _ _ _ hF hL h
      · have h := h.2 hc
        exact hQ _ _ _ hF hL h
  · have h := h.2 hc
    refine mnX3_refuse (fun r15 I13 L14 hf hl h => ?_) h
    have hF := hF.tr hf (by decide) (by decide)
    have hL := hL.tr hl (by decide) (by decide)
    exact hQ _ _ _ hF hL h
abbrev wsI_X3_placeHere : List Nat := []
abbrev wsL_X3_placeHere : List Nat := []
abbrev fsI_X3_placeHere : List (Nat × Nat) := [(49, 7), (49, 8)]
abbrev fsL_X3_placeHere : List (Nat × Nat) := []
set_option maxRecDepth 10000 in
theorem mnX3_placeHere_l21 {I0 : Ix} {L0 : Lx} {Q Q' : Int32 → Ix → Lx → Prop} {P21 P21' : Int32 → Ix → Lx → Prop} (hQ : ∀ (r : Int32) (I1 : Ix) (L1 : Lx), FrI (wsI_X3_placeHere) (fsI_X3_placeHere) I0 I1 → FrL (wsL_X3_placeHere) (fsL_X3_placeHere) L0 L1 → Q r I1 L1 → Q' r I1 L1) (hP21 : ∀ (v1 : Int32) (I1 : Ix) (L1 : Lx), FrI (wsI_X3_placeHere) (fsI_X3_placeHere) I0 I1 → FrL (wsL_X3_placeHere) (fsL_X3_placeHere) L0 L1 → P21 v1 I1 L1 → P21' v1 I1 L1) {v1 : Int32} {I : Ix} {L : Lx} (hF : FrI (wsI_X3_placeHere) (fsI_X3_placeHere) I0 I) (hL : FrL (wsL_X3_placeHere) (fsL_X3_placeHere) L0 L) (h : wpX3_placeHere_l21 Q P21 v1 I L) : wpX3_placeHere_l21 Q' P21' v1 I L := by
  unfold wpX3_placeHere_l21 at h ⊢
  refine ⟨fun hc => ?_, fun hc => ?_⟩
  · have h := h.1 hc
    refine mnX3_refuse (fun r3 I1 L2 hf hl h => ?_) h
    have hF := hF.tr hf (by decide) (by decide)
    have hL := hL.tr hl (by decide) (by decide)
    exact hQ _ _ _ hF hL h
  · have h := h.2 hc
    refine ⟨h.1, ?_⟩
    have h := h.2
    refine ⟨fun hc => ?_, fun hc => ?_⟩
    · have h := h.1 hc
      exact hP21 _ _ _ hF hL h
    · have h := h.2 hc
      exact hQ _ _ _ hF hL h
set_option maxRecDepth 10000 in
theorem mnX3_placeHere_h21 {I0 : Ix} {L0 : Lx} {Q Q' : Int32 → Ix → Lx → Prop} (hQ : ∀ (r : Int32) (I1 : Ix) (L1 : Lx), FrI (wsI_X3_placeHere) (fsI_X3_placeHere) I0 I1 → FrL (wsL_X3_placeHere) (fsL_X3_placeHere) L0 L1 → Q r I1 L1 → Q' r I1 L1) {v1 : Int32} {I : Ix} {L : Lx} (hF : FrI (wsI_X3_placeHere) (fsI_X3_placeHere) I0 I) (hL : FrL (wsL_X3_placeHere) (fsL_X3_placeHere) L0 L) (h : wpX3_placeHere_h21 Q v1 I L) : wpX3_placeHere_h21 Q' v1 I L := by
  unfold wpX3_placeHere_h21 at h
  refine Lfp.ind (P := fun z => FrI (wsI_X3_placeHere) (fsI_X3_placeHere) I0 z.2.1 → FrL (wsL_X3_placeHere) (fsL_X3_placeHere) L0 z.2.2 → wpX3_placeHere_h21 Q' z.1 z.2.1 z.2.2) ?_ h hF hL
  intro z P' hP' h hF hL
  obtain ⟨v1, I, L⟩ := z
  exact wpX3_placeHere_h21_fold (mnX3_placeHere_l21 hQ (fun v1 I L hF hL h9 => hP' (v1, I, L) h9 hF hL) hF hL h)
set_option maxRecDepth 10000 in
theorem mnX3_placeHere {I : Ix} {L : Lx} {Q Q' : Int32 → Ix → Lx → Prop} (hQ : ∀ (r : Int32) (I1 : Ix) (L1 : Lx), FrI (wsI_X3_placeHere) (fsI_X3_placeHere) I I1 → FrL (wsL_X3_placeHere) (fsL_X3_placeHere) L L1 → Q r I1 L1 → Q' r I1 L1) (h : wpX3_placeHere I L Q) : wpX3_placeHere I L Q' := by
  have hF : FrI (wsI_X3_placeHere) (fsI_X3_placeHere) I I := FrI.rf
  have hL : FrL (wsL_X3_placeHere) (fsL_X3_placeHere) L L := FrL.rf
  unfold wpX3_placeHere at h ⊢
  refine ⟨fun hc => ?_, fun hc => ?_⟩
  · have h := h.1 hc
    exact mnX3_placeHere_h21 hQ hF hL h
  · have h := h.2 hc
    refine mnX3_refuse (fun r3 I1 L2 hf hl h => ?_) h
    have hF := hF.tr hf (by decide) (by decide)
    have hL := hL.tr hl (by decide) (by decide)
    exact hQ _ _ _ hF hL h
abbrev wsI_X1_isJoined_27 : List Nat := []
abbrev wsL_X1_isJoined_27 : List Nat := []
abbrev fsI_X1_isJoined_27 : List (Nat × Nat) := []
abbrev fsL_X1_isJoined_27 : List (Nat × Nat) := []
set_option maxRecDepth 10000 in
theorem mnX1_isJoined_27 {a1 : Int32} {a2 : Int32} {I : Ix} {L : Lx} {Q Q' : Bool → Ix → Lx → Prop} (hQ : ∀ (r : Bool) (I1 : Ix) (L1 : Lx), FrI (wsI_X1_isJoined_27) (fsI_X1_isJoined_27) I I1 → FrL (wsL_X1_isJoined_27) (fsL_X1_isJoined_27) L L1 → Q r I1 L1 → Q' r I1 L1) (h : wpX1_isJoined_27 a1 a2 I L Q) : wpX1_isJoined_27 a1 a2 I L Q' := by
  have hF : FrI (wsI_X1_isJoined_27) (fsI_X1_isJoined_27) I I := FrI.rf
  have hL : FrL (wsL_X1_isJoined_27) (fsL_X1_isJoined_27) L L := FrL.rf
  unfold wpX1_isJoined_27 at h ⊢
  refine ⟨h.1, ?_⟩
  have h := h.2
  refine ⟨fun hc => ?_, fun hc => ?_⟩
  · have h := h.1 hc
    exact hQ _ _ _ hF hL h
  · have h := h.2 hc
    exact hQ _ _ _ hF hL h
abbrev wsI_X1_join_27 : List Nat := [31]
abbrev wsL_X1_join_27 : List Nat := []
abbrev fsI_X1_join_27 : List (Nat × Nat) := [(27, 1)]
abbrev fsL_X1_join_27 : List (Nat × Nat) := []
set_option maxRecDepth 10000 in
theorem mnX1_join_27 {a1 : Int32} {a2 : Int32} {a3 : Int32} {I : Ix} {L : Lx} {Q Q' : Ix → Lx → Prop} (hQ : ∀ (I1 : Ix) (L1 : Lx), FrI (wsI_X1_join_27) (fsI_X1_join_27) I I1 → FrL (wsL_X1_join_27) (fsL_X1_join_27) L L1 → Q I1 L1 → Q' I1 L1) (h : wpX1_join_27 a1 a2 a3 I L Q) : wpX1_join_27 a1 a2 a3 I L Q' := by
  have hF : FrI (wsI_X1_join_27) (fsI_X1_join_27) I I := FrI.rf
  have hL : FrL (wsL_X1_join_27) (fsL_X1_join_27) L L := FrL.rf
  unfold wpX1_join_27 at h ⊢
  refine ⟨h.1, ?_⟩
  have h := h.2
  intro I1 eI1
  have h := h I1 eI1
  have hF := hF.pw eI1 (by decide)
  refine ⟨h.1, ?_⟩
  have h := h.2
  intro I2 eI2
  have h := h I2 eI2
  have hF := hF.pw eI2 (by decide)
  intro I3 eI3
  have h := h I3 eI3
  have hF := hF.pf eI3 (by decide)
  exact hQ _ _ hF hL h
abbrev wsI_X3_roadLine : List Nat := [50, 31]
abbrev wsL_X3_roadLine : List Nat := []
abbrev fsI_X3_roadLine : List (Nat × Nat) := [(49, 7), (49, 8), (51, 3), (51, 5), (51, 2), (51, 4), (27, 1)]
abbrev fsL_X3_roadLine : List (Nat × Nat) := [(51, 6)]
set_option maxRecDepth 10000 in
theorem mnX3_roadLine_b73 {I0 : Ix} {L0 : Lx} {Q Q' : Bool → Ix → Lx → Prop} (hQ : ∀ (r : Bool) (I1 : Ix) (L1 : Lx), FrI (wsI_X3_roadLine) (fsI_X3_roadLine) I0 I1 → FrL (wsL_X3_roadLine) (fsL_X3_roadLine) L0 L1 → Q r I1 L1 → Q' r I1 L1) {I : Ix} {L : Lx} (hF : FrI (wsI_X3_roadLine) (fsI_X3_roadLine) I0 I) (hL : FrL (wsL_X3_roadLine) (fsL_X3_roadLine) L0 L) (h : wpX3_roadLine_b73 Q I L) : wpX3_roadLine_b73 Q' I L := by
  unfold wpX3_roadLine_b73 at h ⊢
  refine mnX3_refuse (fun r3 I1 L2 hf hl h => ?_) h
  have hF := hF.tr hf (by decide) (by decide)
  have hL := hL.tr hl (by decide) (by decide)
  exact hQ _ _ _ hF hL h
set_option maxRecDepth 10000 in
theorem mnX3_roadLine {I : Ix} {L : Lx} {Q Q' : Bool → Ix → Lx → Prop} (hQ : ∀ (r : Bool) (I1 : Ix) (L1 : Lx), FrI (wsI_X3_roadLine) (fsI_X3_roadLine) I I1 → FrL (wsL_X3_roadLine) (fsL_X3_roadLine) L L1 → Q r I1 L1 → Q' r I1 L1) (h : wpX3_roadLine I L Q) : wpX3_roadLine I L Q' := by
  have hF : FrI (wsI_X3_roadLine) (fsI_X3_roadLine) I I := FrI.rf
  have hL : FrL (wsL_X3_roadLine) (fsL_X3_roadLine) L L := FrL.rf
  unfold wpX3_roadLine at h ⊢
  refine ⟨fun hc => ?_, fun hc => ?_⟩
  · have h := h.1 hc
    refine mnX8_step (fun I1 L2 hf hl h => ?_) h
    have hF := hF.tr hf (by decide) (by decide)
    have hL := hL.tr hl (by decide) (by decide)
    refine mnX3_placeHere (fun r5 I3 L4 hf hl h => ?_) h
    have hF := hF.tr hf (by decide) (by decide)
    have hL := hL.tr hl (by decide) (by decide)
    refine ⟨fun hc => ?_, fun hc => ?_⟩
    · have h := h.1 hc
      refine mnX8_step (fun I6 L7 hf hl h => ?_) h
      have hF := hF.tr hf (by decide) (by decide)
      have hL := hL.tr hl (by decide) (by decide)
      refine mnX3_placeHere (fun r10 I8 L9 hf hl h => ?_) h
      have hF := hF.tr hf (by decide) (by decide)
      have hL := hL.tr hl (by decide) (by decide)
      refine ⟨fun hc => ?_, fun hc => ?_⟩
      · have h := h.1 hc
        refine ⟨fun hc => ?_, fun hc => ?_⟩
        · have h := h.1 hc
          exact mnX3_roadLine_b73 hQ hF hL h
        · have h := h.2 hc
          refine mnX1_isJoined_27 (fun r13 I11 L12 hf hl h => ?_) h
          have hF := hF.tr hf (by decide) (by decide)
          have hL := hL.tr hl (by decide) (by decide)
          refine ⟨fun hc => ?_, fun hc => ?_⟩
          · have h := h.1 hc
            refine mnX8_step (fun I14 L15 hf hl h => ?_) h
            have hF := hF.tr hf (by decide) (by decide)
            have hL := hL.tr hl (by decide) (by decide)
            refine mnX3_number (fun r18 I16 L17 hf hl h => ?_) h
            have hF := hF.tr hf (by decide) (by decide)
            have hL := hL.tr hl (by decide) (by decide)
            refine ⟨fun hc => ?_, fun hc => ?_⟩
            · have h := h.1 hc
              refine mnX1_join_27 (fun I19 L20 hf hl h => ?_) h
              have hF := hF.tr hf (by decide) (by decide)
              have hL := hL.tr hl (by decide) (by decide)
              refine mnX3_sign (fun r23 I21 L22 hf hl h => ?_) h
              have hF := hF.tr hf (by decide) (by decide)
              have hL := hL.tr hl (by decide) (by decide)
              exact hQ _ _ _ hF hL h
            · have h := h.2 hc
              exact hQ _ _ _ hF hL h
          · have h := h.2 hc
            exact mnX3_roadLine_b73 hQ hF hL h
      · have h := h.2 hc
        exact hQ _ _ _ hF hL h
    · have h := h.2 hc
      exact hQ _ _ _ hF hL h
  · have h := h.2 hc
    refine mnX3_refuse (fun r26 I24 L25 hf hl h => ?_) h
    have hF := hF.tr hf (by decide) (by decide)
    have hL := hL.tr hl (by decide) (by decide)
    exact hQ _ _ _ hF hL h
abbrev wsI_X3_atPlace (r1 : Nat) : List Nat := [r1]
abbrev wsL_X3_atPlace (r1 : Nat) : List Nat := []
abbrev fsI_X3_atPlace (r1 : Nat) : List (Nat × Nat) := [(51, 3), (51, 5), (51, 2), (51, 4), (49, 7), (49, 8)]
abbrev fsL_X3_atPlace (r1 : Nat) : List (Nat × Nat) := [(51, 6)]
set_option maxRecDepth 10000 in
theorem mnX3_atPlace {r1 : Nat} {N1 : Nat} {a2 : Int32} {I : Ix} {L : Lx} {Q Q' : Bool → Ix → Lx → Prop} (hQ : ∀ (r : Bool) (I1 : Ix) (L1 : Lx), FrI (wsI_X3_atPlace r1) (fsI_X3_atPlace r1) I I1 → FrL (wsL_X3_atPlace r1) (fsL_X3_atPlace r1) L L1 → Q r I1 L1 → Q' r I1 L1) (h : wpX3_atPlace r1 N1 a2 I L Q) : wpX3_atPlace r1 N1 a2 I L Q' := by
  have hF : FrI (wsI_X3_atPlace r1) (fsI_X3_atPlace r1) I I := FrI.rf
  have hL : FrL (wsL_X3_atPlace r1) (fsL_X3_atPlace r1) L L := FrL.rf
  unfold wpX3_atPlace at h ⊢
  refine mnX8_isWord (fun r3 I1 L2 hf hl h => ?_) h
  have hF := hF.tr hf (by intro k hk; first | (simp only [List.mem_cons, List.not_mem_nil, or_false] at hk ⊢; omega) | (simp at hk; done) | (simp at hk ⊢; omega)) (by intro q hq; obtain ⟨k, j⟩ := q; first | (simp only [List.mem_cons, List.not_mem_nil, or_false, Prod.mk.injEq] at hq ⊢; omega) | (simp at hq; done))
  have hL := hL.tr hl (by intro k hk; first | (simp only [List.mem_cons, List.not_mem_nil, or_false] at hk ⊢; omega) | (simp at hk; done) | (simp at hk ⊢; omega)) (by intro q hq; obtain ⟨k, j⟩ := q; first | (simp only [List.mem_cons, List.not_mem_nil, or_false, Prod.mk.injEq] at hq ⊢; omega) | (simp at hq; done))
  refine ⟨fun hc => ?_, fun hc => ?_⟩
  · have h := h.1 hc
    refine mnX8_step (fun I4 L5 hf hl h => ?_) h
    have hF := hF.tr hf (by intro k hk; first | (simp only [List.mem_cons, List.not_mem_nil, or_false] at hk ⊢; omega) | (simp at hk; done) | (simp at hk ⊢; omega)) (by intro q hq; obtain ⟨k, j⟩ := q; first | (simp only [List.mem_cons, List.not_mem_nil, or_false, Prod.mk.injEq] at hq ⊢; omega) | (simp at hq; done))
    have hL := hL.tr hl (by intro k hk; first | (simp only [List.mem_cons, List.not_mem_nil, or_false] at hk ⊢; omega) | (simp at hk; done) | (simp at hk ⊢; omega)) (by intro q hq; obtain ⟨k, j⟩ := q; first | (simp only [List.mem_cons, List.not_mem_nil, or_false, Prod.mk.injEq] at hq ⊢; omega) | (simp at hq; done))
    refine mnX3_placeHere (fun r8 I6 L7 hf hl h => ?_) h
    have hF := hF.tr hf (by intro k hk; first | (simp only [List.mem_cons, List.not_mem_nil, or_false] at hk ⊢; omega) | (simp at hk; done) | (simp at hk ⊢; omega)) (by intro q hq; obtain ⟨k, j⟩ := q; first | (simp only [List.mem_cons, List.not_mem_nil, or_false, Prod.mk.injEq] at hq ⊢; omega) | (simp at hq; done))
    have hL := hL.tr hl (by intro k hk; first | (simp only [List.mem_cons, List.not_mem_nil, or_false] at hk ⊢; omega) | (simp at hk; done) | (simp at hk ⊢; omega)) (by intro q hq; obtain ⟨k, j⟩ := q; first | (simp only [List.mem_cons, List.not_mem_nil, or_false, Prod.mk.injEq] at hq ⊢; omega) | (simp at hq; done))
    refine ⟨fun hc => ?_, fun hc => ?_⟩
    · have h := h.1 hc
      refine ⟨h.1, ?_⟩
      have h := h.2
      intro I9 eI9
      have h := h I9 eI9
      have hF := hF.pw eI9 (by simp)
      refine mnX8_step (fun I10 L11 hf hl h => ?_) h
      have hF := hF.tr hf (by intro k hk; first | (simp only [List.mem_cons, List.not_mem_nil, or_false] at hk ⊢; omega) | (simp at hk; done) | (simp at hk ⊢; omega)) (by intro q hq; obtain ⟨k, j⟩ := q; first | (simp only [List.mem_cons, List.not_mem_nil, or_false, Prod.mk.injEq] at hq ⊢; omega) | (simp at hq; done))
      have hL := hL.tr hl (by intro k hk; first | (simp only [List.mem_cons, List.not_mem_nil, or_false] at hk ⊢; omega) | (simp at hk; done) | (simp at hk ⊢; omega)) (by intro q hq; obtain ⟨k, j⟩ := q; first | (simp only [List.mem_cons, List.not_mem_nil, or_false, Prod.mk.injEq] at hq ⊢; omega) | (simp at hq; done))
      exact hQ _ _ _ hF hL h
    · have h := h.2 hc
      exact hQ _ _ _ hF hL h
  · have h := h.2 hc
    refine mnX3_refuse (fun r14 I12 L13 hf hl h => ?_) h
    have hF := hF.tr hf (by intro k hk; first | (simp only [List.mem_cons, List.not_mem_nil, or_false] at hk ⊢; omega) | (simp at hk; done) | (simp at hk ⊢; omega)) (by intro q hq; obtain ⟨k, j⟩ := q; first | (simp only [List.mem_cons, List.not_mem_nil, or_false, Prod.mk.injEq] at hq ⊢; omega) | (simp at hq; done))
    have hL := hL.tr hl (by intro k hk; first | (simp only [List.mem_cons, List.not_mem_nil, or_false] at hk ⊢; omega) | (simp at hk; done) | (simp at hk ⊢; omega)) (by intro q hq; obtain ⟨k, j⟩ := q; first | (simp only [List.mem_cons, List.not_mem_nil, or_false, Prod.mk.injEq] at hq ⊢; omega) | (simp at hq; done))
    exact hQ _ _ _ hF hL h
abbrev wsI_X3_thingLine : List Nat := [43, 39, 40, 41, 42]
abbrev wsL_X3_thingLine : List Nat := [38]
abbrev fsI_X3_thingLine : List (Nat × Nat) := [(26, 2), (51, 3), (51, 5), (51, 2), (51, 4), (49, 7), (49, 8)]
abbrev fsL_X3_thingLine : List (Nat × Nat) := [(51, 6)]
set_option maxRecDepth 10000 in
theorem mnX3_thingLine_b164 {I0 : Ix} {L0 : Lx} {Q Q' : Bool → Ix → Lx → Prop} (hQ : ∀ (r : Bool) (I1 : Ix) (L1 : Lx), FrI (wsI_X3_thingLine) (fsI_X3_thingLine) I0 I1 → FrL (wsL_X3_thingLine) (fsL_X3_thingLine) L0 L1 → Q r I1 L1 → Q' r I1 L1) {I : Ix} {L : Lx} (hF : FrI (wsI_X3_thingLine) (fsI_X3_thingLine) I0 I) (hL : FrL (wsL_X3_thingLine) (fsL_X3_thingLine) L0 L) (h : wpX3_thingLine_b164 Q I L) : wpX3_thingLine_b164 Q' I L := by
  unfold wpX3_thingLine_b164 at h ⊢
  intro I1 eI1
  have h := h I1 eI1
  have hF := hF.pf eI1 (by decide)
  refine mnX3_sign (fun r4 I2 L3 hf hl h => ?_) h
  have hF := hF.tr hf (by decide) (by decide)
  have hL := hL.tr hl (by decide) (by decide)
  exact hQ _ _ _ hF hL h
set_option maxRecDepth 10000 in
theorem mnX3_thingLine_b120 {I0 : Ix} {L0 : Lx} {Q Q' : Bool → Ix → Lx → Prop} (hQ : ∀ (r : Bool) (I1 : Ix) (L1 : Lx), FrI (wsI_X3_thingLine) (fsI_X3_thingLine) I0 I1 → FrL (wsL_X3_thingLine) (fsL_X3_thingLine) L0 L1 → Q r I1 L1 → Q' r I1 L1) {v1 : Int32} {t0 : Int32} {I : Ix} {L : Lx} (hF : FrI (wsI_X3_thingLine) (fsI_X3_thingLine) I0 I) (hL : FrL (wsL_X3_thingLine) (fsL_X3_thingLine) L0 L) (h : wpX3_thingLine_b120 Q v1 t0 I L) : wpX3_thingLine_b120 Q' v1 t0 I L := by
  unfold wpX3_thingLine_b120 at h ⊢
  refine ⟨fun hc => ?_, fun hc => ?_⟩
  · have h := h.1 hc
    refine mnX8_isWord (fun r3 I1 L2 hf hl h => ?_) h
    have hF := hF.tr hf (by decide) (by decide)
    have hL := hL.tr hl (by decide) (by decide)
    refine ⟨h.1, ?_⟩
    have h := h.2
    intro I4 eI4
    have h := h I4 eI4
    have hF := hF.pw eI4 (by decide)
    refine ⟨h.1, ?_⟩
    have h := h.2
    refine ⟨fun hc => ?_, fun hc => ?_⟩
    · have h := h.1 hc
      exact mnX3_thingLine_b164 hQ hF hL h
    · have h := h.2 hc
      refine mnX8_step (fun I5 L6 hf hl h => ?_) h
      have hF := hF.tr hf (by decide) (by decide)
      have hL := hL.tr hl (by decide) (by decide)
      exact mnX3_thingLine_b164 hQ hF hL h
  · have h := h.2 hc
    exact hQ _ _ _ hF hL h
set_option maxRecDepth 10000 in
theorem mnX3_thingLine_b119 {I0 : Ix} {L0 : Lx} {Q Q' : Bool → Ix → Lx → Prop} (hQ : ∀ (r : Bool) (I1 : Ix) (L1 : Lx), FrI (wsI_X3_thingLine) (fsI_X3_thingLine) I0 I1 → FrL (wsL_X3_thingLine) (fsL_X3_thingLine) L0 L1 → Q r I1 L1 → Q' r I1 L1) {v1 : Int32} {I : Ix} {L : Lx} (hF : FrI (wsI_X3_thingLine) (fsI_X3_thingLine) I0 I) (hL : FrL (wsL_X3_thingLine) (fsL_X3_thingLine) L0 L) (h : wpX3_thingLine_b119 Q v1 I L) : wpX3_thingLine_b119 Q' v1 I L := by
  unfold wpX3_thingLine_b119 at h ⊢
  exact mnX3_thingLine_b120 hQ hF hL h
set_option maxRecDepth 10000 in
theorem mnX3_thingLine {I : Ix} {L : Lx} {Q Q' : Bool → Ix → Lx → Prop} (hQ : ∀ (r : Bool) (I1 : Ix) (L1 : Lx), FrI (wsI_X3_thingLine) (fsI_X3_thingLine) I I1 → FrL (wsL_X3_thingLine) (fsL_X3_thingLine) L L1 → Q r I1 L1 → Q' r I1 L1) (h : wpX3_thingLine I L Q) : wpX3_thingLine I L Q' := by
  have hF : FrI (wsI_X3_thingLine) (fsI_X3_thingLine) I I := FrI.rf
  have hL : FrL (wsL_X3_thingLine) (fsL_X3_thingLine) L L := FrL.rf
  unfold wpX3_thingLine at h ⊢
  refine ⟨fun hc => ?_, fun hc => ?_⟩
  · have h := h.1 hc
    refine mnX8_step (fun I1 L2 hf hl h => ?_) h
    have hF := hF.tr hf (by decide) (by decide)
    have hL := hL.tr hl (by decide) (by decide)
    refine mnX3_newName (fun r5 I3 L4 hf hl h => ?_) h
    have hF := hF.tr hf (by decide) (by decide)
    have hL := hL.tr hl (by decide) (by decide)
    refine ⟨fun hc => ?_, fun hc => ?_⟩
    · have h := h.1 hc
      exact mnX3_thingLine_b119 hQ hF hL h
    · have h := h.2 hc
      refine mnX3_atPlace (fun r8 I6 L7 hf hl h => ?_) h
      have hF := hF.tr hf (by decide) (by decide)
      have hL := hL.tr hl (by decide) (by decide)
      refine ⟨fun hc => ?_, fun hc => ?_⟩
      · have h := h.1 hc
        exact mnX3_thingLine_b119 hQ hF hL h
      · have h := h.2 hc
        refine mnX3_number (fun r11 I9 L10 hf hl h => ?_) h
        have hF := hF.tr hf (by decide) (by decide)
        have hL := hL.tr hl (by decide) (by decide)
        refine ⟨fun hc => ?_, fun hc => ?_⟩
        · have h := h.1 hc
          exact mnX3_thingLine_b119 hQ hF hL h
        · have h := h.2 hc
          refine mnX3_number (fun r14 I12 L13 hf hl h => ?_) h
          have hF := hF.tr hf (by decide) (by decide)
          have hL := hL.tr hl (by decide) (by decide)
          refine ⟨fun hc => ?_, fun hc => ?_⟩
          · have h := h.1 hc
            exact mnX3_thingLine_b119 hQ hF hL h
          · have h := h.2 hc
            refine mnX3_number (fun r17 I15 L16 hf hl h => ?_) h
            have hF := hF.tr hf (by decide) (by decide)
            have hL := hL.tr hl (by decide) (by decide)
            refine ⟨fun hc => ?_, fun hc => ?_⟩
            · have h := h.1 hc
              exact mnX3_thingLine_b119 hQ hF hL h
            · have h := h.2 hc
              exact mnX3_thingLine_b120 hQ hF hL h
  · have h := h.2 hc
    refine mnX3_refuse (fun r20 I18 L19 hf hl h => ?_) h
    have hF := hF.tr hf (by decide) (by decide)
    have hL := hL.tr hl (by decide) (by decide)
    exact hQ _ _ _ hF hL h
abbrev wsI_X3_enclosed : List Nat := [36]
abbrev wsL_X3_enclosed : List Nat := []
abbrev fsI_X3_enclosed : List (Nat × Nat) := [(51, 3), (51, 5), (51, 2), (51, 4), (49, 7), (49, 8), (33, 0), (33, 1)]
abbrev fsL_X3_enclosed : List (Nat × Nat) := [(51, 6)]
set_option maxRecDepth 10000 in
theorem mnX3_enclosed {E O : Int32 → Ix → Lx → (Bool → Ix → Lx → Prop) → Prop} (mE : ∀ w I L Q Q', (∀ (r : Bool) (I1 : Ix) (L1 : Lx), FrI wsI_grp fsI_grp I I1 → FrL wsL_grp fsL_grp L L1 → Q r I1 L1 → Q' r I1 L1) → E w I L Q → E w I L Q') (mO : ∀ w I L Q Q', (∀ (r : Bool) (I1 : Ix) (L1 : Lx), FrI wsI_grp fsI_grp I I1 → FrL wsL_grp fsL_grp L L1 → Q r I1 L1 → Q' r I1 L1) → O w I L Q → O w I L Q') {a1 : Int32} {I : Ix} {L : Lx} {Q Q' : Bool → Ix → Lx → Prop} (hQ : ∀ (r : Bool) (I1 : Ix) (L1 : Lx), FrI (wsI_X3_enclosed) (fsI_X3_enclosed) I I1 → FrL (wsL_X3_enclosed) (fsL_X3_enclosed) L L1 → Q r I1 L1 → Q' r I1 L1) (h : wpX3_enclosed E O a1 I L Q) : wpX3_enclosed E O a1 I L Q' := by
  have hF : FrI (wsI_X3_enclosed) (fsI_X3_enclosed) I I := FrI.rf
  have hL : FrL (wsL_X3_enclosed) (fsL_X3_enclosed) L L := FrL.rf
  unfold wpX3_enclosed at h ⊢
  refine mE _ _ _ _ _ (fun r3 I1 L2 hf hl h => ?_) h
  have hF := hF.tr hf (by decide) (by decide)
  have hL := hL.tr hl (by decide) (by decide)
  refine ⟨fun hc => ?_, fun hc => ?_⟩
  · have h := h.1 hc
    refine mnX8_isSign (fun r6 I4 L5 hf hl h => ?_) h
    have hF := hF.tr hf (by decide) (by decide)
    have hL := hL.tr hl (by decide) (by decide)
    refine ⟨fun hc => ?_, fun hc => ?_⟩
    · have h := h.1 hc
      refine mnX8_step (fun I7 L8 hf hl h => ?_) h
      have hF := hF.tr hf (by decide) (by decide)
      have hL := hL.tr hl (by decide) (by decide)
      exact hQ _ _ _ hF hL h
    · have h := h.2 hc
      refine mnX3_refuse (fun r11 I9 L10 hf hl h => ?_) h
      have hF := hF.tr hf (by decide) (by decide)
      have hL := hL.tr hl (by decide) (by decide)
      exact hQ _ _ _ hF hL h
  · have h := h.2 hc
    exact hQ _ _ _ hF hL h
abbrev wsI_X4_add_33 : List Nat := [36]
abbrev wsL_X4_add_33 : List Nat := []
abbrev fsI_X4_add_33 : List (Nat × Nat) := [(33, 1)]
abbrev fsL_X4_add_33 : List (Nat × Nat) := []
set_option maxRecDepth 10000 in
theorem mnX4_add_33 {a1 : Int32} {I : Ix} {L : Lx} {Q Q' : Ix → Lx → Prop} (hQ : ∀ (I1 : Ix) (L1 : Lx), FrI (wsI_X4_add_33) (fsI_X4_add_33) I I1 → FrL (wsL_X4_add_33) (fsL_X4_add_33) L L1 → Q I1 L1 → Q' I1 L1) (h : wpX4_add_33 a1 I L Q) : wpX4_add_33 a1 I L Q' := by
  have hF : FrI (wsI_X4_add_33) (fsI_X4_add_33) I I := FrI.rf
  have hL : FrL (wsL_X4_add_33) (fsL_X4_add_33) L L := FrL.rf
  unfold wpX4_add_33 at h ⊢
  refine ⟨fun hc => ?_, fun hc => ?_⟩
  · have h := h.1 hc
    exact hQ _ _ hF hL h
  · have h := h.2 hc
    refine ⟨h.1, ?_⟩
    have h := h.2
    intro I1 eI1
    have h := h I1 eI1
    have hF := hF.pw eI1 (by decide)
    intro I2 eI2
    have h := h I2 eI2
    have hF := hF.pf eI2 (by decide)
    exact hQ _ _ hF hL h
abbrev wsI_X3_unit : List Nat := [36]
abbrev wsL_X3_unit : List Nat := []
abbrev fsI_X3_unit : List (Nat × Nat) := [(51, 3), (51, 5), (51, 2), (51, 4), (49, 7), (49, 8), (33, 0), (33, 1)]
abbrev fsL_X3_unit : List (Nat × Nat) := [(51, 6)]
set_option maxRecDepth 10000 in
theorem mnX3_unit_b174 {E O : Int32 → Ix → Lx → (Bool → Ix → Lx → Prop) → Prop} (mE : ∀ w I L Q Q', (∀ (r : Bool) (I1 : Ix) (L1 : Lx), FrI wsI_grp fsI_grp I I1 → FrL wsL_grp fsL_grp L L1 → Q r I1 L1 → Q' r I1 L1) → E w I L Q → E w I L Q') (mO : ∀ w I L Q Q', (∀ (r : Bool) (I1 : Ix) (L1 : Lx), FrI wsI_grp fsI_grp I I1 → FrL wsL_grp fsL_grp L L1 → Q r I1 L1 → Q' r I1 L1) → O w I L Q → O w I L Q') {I0 : Ix} {L0 : Lx} {Q Q' : Bool → Ix → Lx → Prop} (hQ : ∀ (r : Bool) (I1 : Ix) (L1 : Lx), FrI (wsI_X3_unit) (fsI_X3_unit) I0 I1 → FrL (wsL_X3_unit) (fsL_X3_unit) L0 L1 → Q r I1 L1 → Q' r I1 L1) {I : Ix} {L : Lx} (hF : FrI (wsI_X3_unit) (fsI_X3_unit) I0 I) (hL : FrL (wsL_X3_unit) (fsL_X3_unit) L0 L) (h : wpX3_unit_b174 E O Q I L) : wpX3_unit_b174 E O Q' I L := by
  unfold wpX3_unit_b174 at h ⊢
  exact hQ _ _ _ hF hL h
set_option maxRecDepth 10000 in
theorem mnX3_unit_b152 {E O : Int32 → Ix → Lx → (Bool → Ix → Lx → Prop) → Prop} (mE : ∀ w I L Q Q', (∀ (r : Bool) (I1 : Ix) (L1 : Lx), FrI wsI_grp fsI_grp I I1 → FrL wsL_grp fsL_grp L L1 → Q r I1 L1 → Q' r I1 L1) → E w I L Q → E w I L Q') (mO : ∀ w I L Q Q', (∀ (r : Bool) (I1 : Ix) (L1 : Lx), FrI wsI_grp fsI_grp I I1 → FrL wsL_grp fsL_grp L L1 → Q r I1 L1 → Q' r I1 L1) → O w I L Q → O w I L Q') {I0 : Ix} {L0 : Lx} {Q Q' : Bool → Ix → Lx → Prop} (hQ : ∀ (r : Bool) (I1 : Ix) (L1 : Lx), FrI (wsI_X3_unit) (fsI_X3_unit) I0 I1 → FrL (wsL_X3_unit) (fsL_X3_unit) L0 L1 → Q r I1 L1 → Q' r I1 L1) {v1 : Int32} {v4 : Int32} {I : Ix} {L : Lx} (hF : FrI (wsI_X3_unit) (fsI_X3_unit) I0 I) (hL : FrL (wsL_X3_unit) (fsL_X3_unit) L0 L) (h : wpX3_unit_b152 E O Q v1 v4 I L) : wpX3_unit_b152 E O Q' v1 v4 I L := by
  unfold wpX3_unit_b152 at h ⊢
  refine mnX8_step (fun I1 L2 hf hl h => ?_) h
  have hF := hF.tr hf (by decide) (by decide)
  have hL := hL.tr hl (by decide) (by decide)
  refine ⟨fun hc => ?_, fun hc => ?_⟩
  · have h := h.1 hc
    exact mnX3_unit_b174 mE mO hQ hF hL h
  · have h := h.2 hc
    refine mnX3_enclosed mE mO (fun r5 I3 L4 hf hl h => ?_) h
    have hF := hF.tr hf (by decide) (by decide)
    have hL := hL.tr hl (by decide) (by decide)
    refine ⟨fun hc => ?_, fun hc => ?_⟩
    · have h := h.1 hc
      exact hQ _ _ _ hF hL h
    · have h := h.2 hc
      exact mnX3_unit_b174 mE mO hQ hF hL h
set_option maxRecDepth 10000 in
theorem mnX3_unit_b149 {E O : Int32 → Ix → Lx → (Bool → Ix → Lx → Prop) → Prop} (mE : ∀ w I L Q Q', (∀ (r : Bool) (I1 : Ix) (L1 : Lx), FrI wsI_grp fsI_grp I I1 → FrL wsL_grp fsL_grp L L1 → Q r I1 L1 → Q' r I1 L1) → E w I L Q → E w I L Q') (mO : ∀ w I L Q Q', (∀ (r : Bool) (I1 : Ix) (L1 : Lx), FrI wsI_grp fsI_grp I I1 → FrL wsL_grp fsL_grp L L1 → Q r I1 L1 → Q' r I1 L1) → O w I L Q → O w I L Q') {I0 : Ix} {L0 : Lx} {Q Q' : Bool → Ix → Lx → Prop} (hQ : ∀ (r : Bool) (I1 : Ix) (L1 : Lx), FrI (wsI_X3_unit) (fsI_X3_unit) I0 I1 → FrL (wsL_X3_unit) (fsL_X3_unit) L0 L1 → Q r I1 L1 → Q' r I1 L1) {v1 : Int32} {v4 : Int32} {t1 : Int32} {I : Ix} {L : Lx} (hF : FrI (wsI_X3_unit) (fsI_X3_unit) I0 I) (hL : FrL (wsL_X3_unit) (fsL_X3_unit) L0 L) (h : wpX3_unit_b149 E O Q v1 v4 t1 I L) : wpX3_unit_b149 E O Q' v1 v4 t1 I L := by
  unfold wpX3_unit_b149 at h ⊢
  refine mnX4_add_33 (fun I1 L2 hf hl h => ?_) h
  have hF := hF.tr hf (by decide) (by decide)
  have hL := hL.tr hl (by decide) (by decide)
  exact mnX3_unit_b152 mE mO hQ hF hL h
set_option maxRecDepth 10000 in
theorem mnX3_unit_b102 {E O : Int32 → Ix → Lx → (Bool → Ix → Lx → Prop) → Prop} (mE : ∀ w I L Q Q', (∀ (r : Bool) (I1 : Ix) (L1 : Lx), FrI wsI_grp fsI_grp I I1 → FrL wsL_grp fsL_grp L L1 → Q r I1 L1 → Q' r I1 L1) → E w I L Q → E w I L Q') (mO : ∀ w I L Q Q', (∀ (r : Bool) (I1 : Ix) (L1 : Lx), FrI wsI_grp fsI_grp I I1 → FrL wsL_grp fsL_grp L L1 → Q r I1 L1 → Q' r I1 L1) → O w I L Q → O w I L Q') {I0 : Ix} {L0 : Lx} {Q Q' : Bool → Ix → Lx → Prop} (hQ : ∀ (r : Bool) (I1 : Ix) (L1 : Lx), FrI (wsI_X3_unit) (fsI_X3_unit) I0 I1 → FrL (wsL_X3_unit) (fsL_X3_unit) L0 L1 → Q r I1 L1 → Q' r I1 L1) {v1 : Int32} {v2 : Int32} {v4 : Int32} {I : Ix} {L : Lx} (hF : FrI (wsI_X3_unit) (fsI_X3_unit) I0 I) (hL : FrL (wsL_X3_unit) (fsL_X3_unit) L0 L) (h : wpX3_unit_b102 E O Q v1 v2 v4 I L) : wpX3_unit_b102 E O Q' v1 v2 v4 I L := by
  unfold wpX3_unit_b102 at h ⊢
  intro I1 eI1
  have h := h I1 eI1
  have hF := hF.pf eI1 (by decide)
  refine ⟨fun hc => ?_, fun hc => ?_⟩
  · have h := h.1 hc
    exact mnX3_unit_b152 mE mO hQ hF hL h
  · have h := h.2 hc
    refine ⟨fun hc => ?_, fun hc => ?_⟩
    · have h := h.1 hc
      exact mnX3_unit_b149 mE mO hQ hF hL h
    · have h := h.2 hc
      exact mnX3_unit_b149 mE mO hQ hF hL h
set_option maxRecDepth 10000 in
theorem mnX3_unit_b96 {E O : Int32 → Ix → Lx → (Bool → Ix → Lx → Prop) → Prop} (mE : ∀ w I L Q Q', (∀ (r : Bool) (I1 : Ix) (L1 : Lx), FrI wsI_grp fsI_grp I I1 → FrL wsL_grp fsL_grp L L1 → Q r I1 L1 → Q' r I1 L1) → E w I L Q → E w I L Q') (mO : ∀ w I L Q Q', (∀ (r : Bool) (I1 : Ix) (L1 : Lx), FrI wsI_grp fsI_grp I I1 → FrL wsL_grp fsL_grp L L1 → Q r I1 L1 → Q' r I1 L1) → O w I L Q → O w I L Q') {I0 : Ix} {L0 : Lx} {Q Q' : Bool → Ix → Lx → Prop} (hQ : ∀ (r : Bool) (I1 : Ix) (L1 : Lx), FrI (wsI_X3_unit) (fsI_X3_unit) I0 I1 → FrL (wsL_X3_unit) (fsL_X3_unit) L0 L1 → Q r I1 L1 → Q' r I1 L1) {I : Ix} {L : Lx} (hF : FrI (wsI_X3_unit) (fsI_X3_unit) I0 I) (hL : FrL (wsL_X3_unit) (fsL_X3_unit) L0 L) (h : wpX3_unit_b96 E O Q I L) : wpX3_unit_b96 E O Q' I L := by
  unfold wpX3_unit_b96 at h ⊢
  refine mnX3_refuse (fun r3 I1 L2 hf hl h => ?_) h
  have hF := hF.tr hf (by decide) (by decide)
  have hL := hL.tr hl (by decide) (by decide)
  exact hQ _ _ _ hF hL h
set_option maxRecDepth 10000 in
theorem mnX3_unit_b69 {E O : Int32 → Ix → Lx → (Bool → Ix → Lx → Prop) → Prop} (mE : ∀ w I L Q Q', (∀ (r : Bool) (I1 : Ix) (L1 : Lx), FrI wsI_grp fsI_grp I I1 → FrL wsL_grp fsL_grp L L1 → Q r I1 L1 → Q' r I1 L1) → E w I L Q → E w I L Q') (mO : ∀ w I L Q Q', (∀ (r : Bool) (I1 : Ix) (L1 : Lx), FrI wsI_grp fsI_grp I I1 → FrL wsL_grp fsL_grp L L1 → Q r I1 L1 → Q' r I1 L1) → O w I L Q → O w I L Q') {I0 : Ix} {L0 : Lx} {Q Q' : Bool → Ix → Lx → Prop} (hQ : ∀ (r : Bool) (I1 : Ix) (L1 : Lx), FrI (wsI_X3_unit) (fsI_X3_unit) I0 I1 → FrL (wsL_X3_unit) (fsL_X3_unit) L0 L1 → Q r I1 L1 → Q' r I1 L1) {v1 : Int32} {v2 : Int32} {v3 : Int32} {t0 : Int32} {I : Ix} {L : Lx} (hF : FrI (wsI_X3_unit) (fsI_X3_unit) I0 I) (hL : FrL (wsL_X3_unit) (fsL_X3_unit) L0 L) (h : wpX3_unit_b69 E O Q v1 v2 v3 t0 I L) : wpX3_unit_b69 E O Q' v1 v2 v3 t0 I L := by
  unfold wpX3_unit_b69 at h ⊢
  refine ⟨fun hc => ?_, fun hc => ?_⟩
  · have h := h.1 hc
    exact mnX3_unit_b96 mE mO hQ hF hL h
  · have h := h.2 hc
    refine ⟨fun hc => ?_, fun hc => ?_⟩
    · have h := h.1 hc
      exact mnX3_unit_b102 mE mO hQ hF hL h
    · have h := h.2 hc
      refine ⟨fun hc => ?_, fun hc => ?_⟩
      · have h := h.1 hc
        exact mnX3_unit_b102 mE mO hQ hF hL h
      · have h := h.2 hc
        refine ⟨fun hc => ?_, fun hc => ?_⟩
        · have h := h.1 hc
          exact mnX3_unit_b102 mE mO hQ hF hL h
        · have h := h.2 hc
          exact mnX3_unit_b96 mE mO hQ hF hL h
set_option maxRecDepth 10000 in
theorem mnX3_unit_b68 {E O : Int32 → Ix → Lx → (Bool → Ix → Lx → Prop) → Prop} (mE : ∀ w I L Q Q', (∀ (r : Bool) (I1 : Ix) (L1 : Lx), FrI wsI_grp fsI_grp I I1 → FrL wsL_grp fsL_grp L L1 → Q r I1 L1 → Q' r I1 L1) → E w I L Q → E w I L Q') (mO : ∀ w I L Q Q', (∀ (r : Bool) (I1 : Ix) (L1 : Lx), FrI wsI_grp fsI_grp I I1 → FrL wsL_grp fsL_grp L L1 → Q r I1 L1 → Q' r I1 L1) → O w I L Q → O w I L Q') {I0 : Ix} {L0 : Lx} {Q Q' : Bool → Ix → Lx → Prop} (hQ : ∀ (r : Bool) (I1 : Ix) (L1 : Lx), FrI (wsI_X3_unit) (fsI_X3_unit) I0 I1 → FrL (wsL_X3_unit) (fsL_X3_unit) L0 L1 → Q r I1 L1 → Q' r I1 L1) {v1 : Int32} {v2 : Int32} {v3 : Int32} {I : Ix} {L : Lx} (hF : FrI (wsI_X3_unit) (fsI_X3_unit) I0 I) (hL : FrL (wsL_X3_unit) (fsL_X3_unit) L0 L) (h : wpX3_unit_b68 E O Q v1 v2 v3 I L) : wpX3_unit_b68 E O Q' v1 v2 v3 I L := by
  unfold wpX3_unit_b68 at h ⊢
  exact mnX3_unit_b69 mE mO hQ hF hL h
set_option maxRecDepth 10000 in
theorem mnX3_unit_b45 {E O : Int32 → Ix → Lx → (Bool → Ix → Lx → Prop) → Prop} (mE : ∀ w I L Q Q', (∀ (r : Bool) (I1 : Ix) (L1 : Lx), FrI wsI_grp fsI_grp I I1 → FrL wsL_grp fsL_grp L L1 → Q r I1 L1 → Q' r I1 L1) → E w I L Q → E w I L Q') (mO : ∀ w I L Q Q', (∀ (r : Bool) (I1 : Ix) (L1 : Lx), FrI wsI_grp fsI_grp I I1 → FrL wsL_grp fsL_grp L L1 → Q r I1 L1 → Q' r I1 L1) → O w I L Q → O w I L Q') {I0 : Ix} {L0 : Lx} {Q Q' : Bool → Ix → Lx → Prop} (hQ : ∀ (r : Bool) (I1 : Ix) (L1 : Lx), FrI (wsI_X3_unit) (fsI_X3_unit) I0 I1 → FrL (wsL_X3_unit) (fsL_X3_unit) L0 L1 → Q r I1 L1 → Q' r I1 L1) {v1 : Int32} {v2 : Int32} {t0 : Int32} {I : Ix} {L : Lx} (hF : FrI (wsI_X3_unit) (fsI_X3_unit) I0 I) (hL : FrL (wsL_X3_unit) (fsL_X3_unit) L0 L) (h : wpX3_unit_b45 E O Q v1 v2 t0 I L) : wpX3_unit_b45 E O Q' v1 v2 t0 I L := by
  unfold wpX3_unit_b45 at h ⊢
  refine mnX8_isSign (fun r3 I1 L2 hf hl h => ?_) h
  have hF := hF.tr hf (by decide) (by decide)
  have hL := hL.tr hl (by decide) (by decide)
  refine ⟨fun hc => ?_, fun hc => ?_⟩
  · have h := h.1 hc
    exact mnX3_unit_b68 mE mO hQ hF hL h
  · have h := h.2 hc
    refine ⟨fun hc => ?_, fun hc => ?_⟩
    · have h := h.1 hc
      exact mnX3_unit_b68 mE mO hQ hF hL h
    · have h := h.2 hc
      exact mnX3_unit_b69 mE mO hQ hF hL h
set_option maxRecDepth 10000 in
theorem mnX3_unit_b44 {E O : Int32 → Ix → Lx → (Bool → Ix → Lx → Prop) → Prop} (mE : ∀ w I L Q Q', (∀ (r : Bool) (I1 : Ix) (L1 : Lx), FrI wsI_grp fsI_grp I I1 → FrL wsL_grp fsL_grp L L1 → Q r I1 L1 → Q' r I1 L1) → E w I L Q → E w I L Q') (mO : ∀ w I L Q Q', (∀ (r : Bool) (I1 : Ix) (L1 : Lx), FrI wsI_grp fsI_grp I I1 → FrL wsL_grp fsL_grp L L1 → Q r I1 L1 → Q' r I1 L1) → O w I L Q → O w I L Q') {I0 : Ix} {L0 : Lx} {Q Q' : Bool → Ix → Lx → Prop} (hQ : ∀ (r : Bool) (I1 : Ix) (L1 : Lx), FrI (wsI_X3_unit) (fsI_X3_unit) I0 I1 → FrL (wsL_X3_unit) (fsL_X3_unit) L0 L1 → Q r I1 L1 → Q' r I1 L1) {v1 : Int32} {v2 : Int32} {I : Ix} {L : Lx} (hF : FrI (wsI_X3_unit) (fsI_X3_unit) I0 I) (hL : FrL (wsL_X3_unit) (fsL_X3_unit) L0 L) (h : wpX3_unit_b44 E O Q v1 v2 I L) : wpX3_unit_b44 E O Q' v1 v2 I L := by
  unfold wpX3_unit_b44 at h ⊢
  exact mnX3_unit_b45 mE mO hQ hF hL h
set_option maxRecDepth 10000 in
theorem mnX3_unit_b16 {E O : Int32 → Ix → Lx → (Bool → Ix → Lx → Prop) → Prop} (mE : ∀ w I L Q Q', (∀ (r : Bool) (I1 : Ix) (L1 : Lx), FrI wsI_grp fsI_grp I I1 → FrL wsL_grp fsL_grp L L1 → Q r I1 L1 → Q' r I1 L1) → E w I L Q → E w I L Q') (mO : ∀ w I L Q Q', (∀ (r : Bool) (I1 : Ix) (L1 : Lx), FrI wsI_grp fsI_grp I I1 → FrL wsL_grp fsL_grp L L1 → Q r I1 L1 → Q' r I1 L1) → O w I L Q → O w I L Q') {I0 : Ix} {L0 : Lx} {Q Q' : Bool → Ix → Lx → Prop} (hQ : ∀ (r : Bool) (I1 : Ix) (L1 : Lx), FrI (wsI_X3_unit) (fsI_X3_unit) I0 I1 → FrL (wsL_X3_unit) (fsL_X3_unit) L0 L1 → Q r I1 L1 → Q' r I1 L1) {v1 : Int32} {t0 : Int32} {I : Ix} {L : Lx} (hF : FrI (wsI_X3_unit) (fsI_X3_unit) I0 I) (hL : FrL (wsL_X3_unit) (fsL_X3_unit) L0 L) (h : wpX3_unit_b16 E O Q v1 t0 I L) : wpX3_unit_b16 E O Q' v1 t0 I L := by
  unfold wpX3_unit_b16 at h ⊢
  refine ⟨fun hc => ?_, fun hc => ?_⟩
  · have h := h.1 hc
    exact mnX3_unit_b44 mE mO hQ hF hL h
  · have h := h.2 hc
    refine ⟨fun hc => ?_, fun hc => ?_⟩
    · have h := h.1 hc
      exact mnX3_unit_b44 mE mO hQ hF hL h
    · have h := h.2 hc
      exact mnX3_unit_b45 mE mO hQ hF hL h
set_option maxRecDepth 10000 in
theorem mnX3_unit {E O : Int32 → Ix → Lx → (Bool → Ix → Lx → Prop) → Prop} (mE : ∀ w I L Q Q', (∀ (r : Bool) (I1 : Ix) (L1 : Lx), FrI wsI_grp fsI_grp I I1 → FrL wsL_grp fsL_grp L L1 → Q r I1 L1 → Q' r I1 L1) → E w I L Q → E w I L Q') (mO : ∀ w I L Q Q', (∀ (r : Bool) (I1 : Ix) (L1 : Lx), FrI wsI_grp fsI_grp I I1 → FrL wsL_grp fsL_grp L L1 → Q r I1 L1 → Q' r I1 L1) → O w I L Q → O w I L Q') {a1 : Int32} {I : Ix} {L : Lx} {Q Q' : Bool → Ix → Lx → Prop} (hQ : ∀ (r : Bool) (I1 : Ix) (L1 : Lx), FrI (wsI_X3_unit) (fsI_X3_unit) I I1 → FrL (wsL_X3_unit) (fsL_X3_unit) L L1 → Q r I1 L1 → Q' r I1 L1) (h : wpX3_unit E O a1 I L Q) : wpX3_unit E O a1 I L Q' := by
  have hF : FrI (wsI_X3_unit) (fsI_X3_unit) I I := FrI.rf
  have hL : FrL (wsL_X3_unit) (fsL_X3_unit) L L := FrL.rf
  unfold wpX3_unit at h ⊢
  refine ⟨fun hc => ?_, fun hc => ?_⟩
  · have h := h.1 hc
    exact mnX3_unit_b16 mE mO hQ hF hL h
  · have h := h.2 hc
    exact mnX3_unit_b16 mE mO hQ hF hL h
abbrev wsI_X3_term : List Nat := [36]
abbrev wsL_X3_term : List Nat := []
abbrev fsI_X3_term : List (Nat × Nat) := [(51, 3), (51, 5), (51, 2), (51, 4), (49, 7), (49, 8), (33, 0), (33, 1)]
abbrev fsL_X3_term : List (Nat × Nat) := [(51, 6)]
set_option maxRecDepth 10000 in
theorem mnX3_term_l12 {E O : Int32 → Ix → Lx → (Bool → Ix → Lx → Prop) → Prop} (mE : ∀ w I L Q Q', (∀ (r : Bool) (I1 : Ix) (L1 : Lx), FrI wsI_grp fsI_grp I I1 → FrL wsL_grp fsL_grp L L1 → Q r I1 L1 → Q' r I1 L1) → E w I L Q → E w I L Q') (mO : ∀ w I L Q Q', (∀ (r : Bool) (I1 : Ix) (L1 : Lx), FrI wsI_grp fsI_grp I I1 → FrL wsL_grp fsL_grp L L1 → Q r I1 L1 → Q' r I1 L1) → O w I L Q → O w I L Q') {I0 : Ix} {L0 : Lx} {Q Q' : Bool → Ix → Lx → Prop} {P12 P12' : Int32 → Int32 → Ix → Lx → Prop} (hQ : ∀ (r : Bool) (I1 : Ix) (L1 : Lx), FrI (wsI_X3_term) (fsI_X3_term) I0 I1 → FrL (wsL_X3_term) (fsL_X3_term) L0 L1 → Q r I1 L1 → Q' r I1 L1) (hP12 : ∀ (v1 : Int32) (v2 : Int32) (I1 : Ix) (L1 : Lx), FrI (wsI_X3_term) (fsI_X3_term) I0 I1 → FrL (wsL_X3_term) (fsL_X3_term) L0 L1 → P12 v1 v2 I1 L1 → P12' v1 v2 I1 L1) {v1 : Int32} {v2 : Int32} {I : Ix} {L : Lx} (hF : FrI (wsI_X3_term) (fsI_X3_term) I0 I) (hL : FrL (wsL_X3_term) (fsL_X3_term) L0 L) (h : wpX3_term_l12 E O Q P12 v1 v2 I L) : wpX3_term_l12 E O Q' P12' v1 v2 I L := by
  unfold wpX3_term_l12 at h ⊢
  refine ⟨fun hc => ?_, fun hc => ?_⟩
  · have h := h.1 hc
    exact hQ _ _ _ hF hL h
  · have h := h.2 hc
    refine mnX8_isSign (fun r3 I1 L2 hf hl h => ?_) h
    have hF := hF.tr hf (by decide) (by decide)
    have hL := hL.tr hl (by decide) (by decide)
    refine ⟨fun hc => ?_, fun hc => ?_⟩
    · have h := h.1 hc
      exact hQ _ _ _ hF hL h
    · have h := h.2 hc
      refine mnX8_step (fun I4 L5 hf hl h => ?_) h
      have hF := hF.tr hf (by decide) (by decide)
      have hL := hL.tr hl (by decide) (by decide)
      refine mnX3_unit mE mO (fun r8 I6 L7 hf hl h => ?_) h
      have hF := hF.tr hf (by decide) (by decide)
      have hL := hL.tr hl (by decide) (by decide)
      refine ⟨fun hc => ?_, fun hc => ?_⟩
      · have h := h.1 hc
        refine mnX4_add_33 (fun I9 L10 hf hl h => ?_) h
        have hF := hF.tr hf (by decide) (by decide)
        have hL := hL.tr hl (by decide) (by decide)
        exact hP12 _ _ _ _ hF hL h
      · have h := h.2 hc
        exact hQ _ _ _ hF hL h
set_option maxRecDepth 10000 in
theorem mnX3_term_h12 {E O : Int32 → Ix → Lx → (Bool → Ix → Lx → Prop) → Prop} (mE : ∀ w I L Q Q', (∀ (r : Bool) (I1 : Ix) (L1 : Lx), FrI wsI_grp fsI_grp I I1 → FrL wsL_grp fsL_grp L L1 → Q r I1 L1 → Q' r I1 L1) → E w I L Q → E w I L Q') (mO : ∀ w I L Q Q', (∀ (r : Bool) (I1 : Ix) (L1 : Lx), FrI wsI_grp fsI_grp I I1 → FrL wsL_grp fsL_grp L L1 → Q r I1 L1 → Q' r I1 L1) → O w I L Q → O w I L Q') {I0 : Ix} {L0 : Lx} {Q Q' : Bool → Ix → Lx → Prop} (hQ : ∀ (r : Bool) (I1 : Ix) (L1 : Lx), FrI (wsI_X3_term) (fsI_X3_term) I0 I1 → FrL (wsL_X3_term) (fsL_X3_term) L0 L1 → Q r I1 L1 → Q' r I1 L1) {v1 : Int32} {v2 : Int32} {I : Ix} {L : Lx} (hF : FrI (wsI_X3_term) (fsI_X3_term) I0 I) (hL : FrL (wsL_X3_term) (fsL_X3_term) L0 L) (h : wpX3_term_h12 E O Q v1 v2 I L) : wpX3_term_h12 E O Q' v1 v2 I L := by
  unfold wpX3_term_h12 at h
  refine Lfp.ind (P := fun z => FrI (wsI_X3_term) (fsI_X3_term) I0 z.2.2.1 → FrL (wsL_X3_term) (fsL_X3_term) L0 z.2.2.2 → wpX3_term_h12 E O Q' z.1 z.2.1 z.2.2.1 z.2.2.2) ?_ h hF hL
  intro z P' hP' h hF hL
  obtain ⟨v1, v2, I, L⟩ := z
  exact wpX3_term_h12_fold (mnX3_term_l12 mE mO hQ (fun v1 v2 I L hF hL h9 => hP' (v1, v2, I, L) h9 hF hL) hF hL h)
set_option maxRecDepth 10000 in
theorem mnX3_term {E O : Int32 → Ix → Lx → (Bool → Ix → Lx → Prop) → Prop} (mE : ∀ w I L Q Q', (∀ (r : Bool) (I1 : Ix) (L1 : Lx), FrI wsI_grp fsI_grp I I1 → FrL wsL_grp fsL_grp L L1 → Q r I1 L1 → Q' r I1 L1) → E w I L Q → E w I L Q') (mO : ∀ w I L Q Q', (∀ (r : Bool) (I1 : Ix) (L1 : Lx), FrI wsI_grp fsI_grp I I1 → FrL wsL_grp fsL_grp L L1 → Q r I1 L1 → Q' r I1 L1) → O w I L Q → O w I L Q') {a1 : Int32} {I : Ix} {L : Lx} {Q Q' : Bool → Ix → Lx → Prop} (hQ : ∀ (r : Bool) (I1 : Ix) (L1 : Lx), FrI (wsI_X3_term) (fsI_X3_term) I I1 → FrL (wsL_X3_term) (fsL_X3_term) L L1 → Q r I1 L1 → Q' r I1 L1) (h : wpX3_term E O a1 I L Q) : wpX3_term E O a1 I L Q' := by
  have hF : FrI (wsI_X3_term) (fsI_X3_term) I I := FrI.rf
  have hL : FrL (wsL_X3_term) (fsL_X3_term) L L := FrL.rf
  unfold wpX3_term at h ⊢
  refine mnX3_unit mE mO (fun r3 I1 L2 hf hl h => ?_) h
  have hF := hF.tr hf (by decide) (by decide)
  have hL := hL.tr hl (by decide) (by decide)
  refine ⟨fun hc => ?_, fun hc => ?_⟩
  · have h := h.1 hc
    exact mnX3_term_h12 mE mO hQ hF hL h
  · have h := h.2 hc
    exact hQ _ _ _ hF hL h
abbrev wsI_X3_sum : List Nat := [36]
abbrev wsL_X3_sum : List Nat := []
abbrev fsI_X3_sum : List (Nat × Nat) := [(51, 3), (51, 5), (51, 2), (51, 4), (49, 7), (49, 8), (33, 0), (33, 1)]
abbrev fsL_X3_sum : List (Nat × Nat) := [(51, 6)]
set_option maxRecDepth 10000 in
theorem mnX3_sum_b43 {E O : Int32 → Ix → Lx → (Bool → Ix → Lx → Prop) → Prop} (mE : ∀ w I L Q Q', (∀ (r : Bool) (I1 : Ix) (L1 : Lx), FrI wsI_grp fsI_grp I I1 → FrL wsL_grp fsL_grp L L1 → Q r I1 L1 → Q' r I1 L1) → E w I L Q → E w I L Q') (mO : ∀ w I L Q Q', (∀ (r : Bool) (I1 : Ix) (L1 : Lx), FrI wsI_grp fsI_grp I I1 → FrL wsL_grp fsL_grp L L1 → Q r I1 L1 → Q' r I1 L1) → O w I L Q → O w I L Q') {I0 : Ix} {L0 : Lx} {Q Q' : Bool → Ix → Lx → Prop} {P12 P12' : Int32 → Int32 → Ix → Lx → Prop} (hQ : ∀ (r : Bool) (I1 : Ix) (L1 : Lx), FrI (wsI_X3_sum) (fsI_X3_sum) I0 I1 → FrL (wsL_X3_sum) (fsL_X3_sum) L0 L1 → Q r I1 L1 → Q' r I1 L1) (hP12 : ∀ (v1 : Int32) (v2 : Int32) (I1 : Ix) (L1 : Lx), FrI (wsI_X3_sum) (fsI_X3_sum) I0 I1 → FrL (wsL_X3_sum) (fsL_X3_sum) L0 L1 → P12 v1 v2 I1 L1 → P12' v1 v2 I1 L1) {v1 : Int32} {v2 : Int32} {I : Ix} {L : Lx} (hF : FrI (wsI_X3_sum) (fsI_X3_sum) I0 I) (hL : FrL (wsL_X3_sum) (fsL_X3_sum) L0 L) (h : wpX3_sum_b43 E O Q P12 v1 v2 I L) : wpX3_sum_b43 E O Q' P12' v1 v2 I L := by
  unfold wpX3_sum_b43 at h ⊢
  refine mnX8_step (fun I1 L2 hf hl h => ?_) h
  have hF := hF.tr hf (by decide) (by decide)
  have hL := hL.tr hl (by decide) (by decide)
  refine mnX3_term mE mO (fun r5 I3 L4 hf hl h => ?_) h
  have hF := hF.tr hf (by decide) (by decide)
  have hL := hL.tr hl (by decide) (by decide)
  refine ⟨fun hc => ?_, fun hc => ?_⟩
  · have h := h.1 hc
    refine mnX4_add_33 (fun I6 L7 hf hl h => ?_) h
    have hF := hF.tr hf (by decide) (by decide)
    have hL := hL.tr hl (by decide) (by decide)
    exact hP12 _ _ _ _ hF hL h
  · have h := h.2 hc
    exact hQ _ _ _ hF hL h
set_option maxRecDepth 10000 in
theorem mnX3_sum_l12 {E O : Int32 → Ix → Lx → (Bool → Ix → Lx → Prop) → Prop} (mE : ∀ w I L Q Q', (∀ (r : Bool) (I1 : Ix) (L1 : Lx), FrI wsI_grp fsI_grp I I1 → FrL wsL_grp fsL_grp L L1 → Q r I1 L1 → Q' r I1 L1) → E w I L Q → E w I L Q') (mO : ∀ w I L Q Q', (∀ (r : Bool) (I1 : Ix) (L1 : Lx), FrI wsI_grp fsI_grp I I1 → FrL wsL_grp fsL_grp L L1 → Q r I1 L1 → Q' r I1 L1) → O w I L Q → O w I L Q') {I0 : Ix} {L0 : Lx} {Q Q' : Bool → Ix → Lx → Prop} {P12 P12' : Int32 → Int32 → Ix → Lx → Prop} (hQ : ∀ (r : Bool) (I1 : Ix) (L1 : Lx), FrI (wsI_X3_sum) (fsI_X3_sum) I0 I1 → FrL (wsL_X3_sum) (fsL_X3_sum) L0 L1 → Q r I1 L1 → Q' r I1 L1) (hP12 : ∀ (v1 : Int32) (v2 : Int32) (I1 : Ix) (L1 : Lx), FrI (wsI_X3_sum) (fsI_X3_sum) I0 I1 → FrL (wsL_X3_sum) (fsL_X3_sum) L0 L1 → P12 v1 v2 I1 L1 → P12' v1 v2 I1 L1) {v1 : Int32} {v2 : Int32} {I : Ix} {L : Lx} (hF : FrI (wsI_X3_sum) (fsI_X3_sum) I0 I) (hL : FrL (wsL_X3_sum) (fsL_X3_sum) L0 L) (h : wpX3_sum_l12 E O Q P12 v1 v2 I L) : wpX3_sum_l12 E O Q' P12' v1 v2 I L := by
  unfold wpX3_sum_l12 at h ⊢
  refine ⟨fun hc => ?_, fun hc => ?_⟩
  · have h := h.1 hc
    exact hQ _ _ _ hF hL h
  · have h := h.2 hc
    refine mnX8_isSign (fun r3 I1 L2 hf hl h => ?_) h
    have hF := hF.tr hf (by decide) (by decide)
    have hL := hL.tr hl (by decide) (by decide)
    refine ⟨fun hc => ?_, fun hc => ?_⟩
    · have h := h.1 hc
      exact mnX3_sum_b43 mE mO hQ hP12 hF hL h
    · have h := h.2 hc
      refine mnX8_isSign (fun r6 I4 L5 hf hl h => ?_) h
      have hF := hF.tr hf (by decide) (by decide)
      have hL := hL.tr hl (by decide) (by decide)
      refine ⟨fun hc => ?_, fun hc => ?_⟩
      · have h := h.1 hc
        exact hQ _ _ _ hF hL h
      · have h := h.2 hc
        exact mnX3_sum_b43 mE mO hQ hP12 hF hL h
set_option maxRecDepth 10000 in
theorem mnX3_sum_h12 {E O : Int32 → Ix → Lx → (Bool → Ix → Lx → Prop) → Prop} (mE : ∀ w I L Q Q', (∀ (r : Bool) (I1 : Ix) (L1 : Lx), FrI wsI_grp fsI_grp I I1 → FrL wsL_grp fsL_grp L L1 → Q r I1 L1 → Q' r I1 L1) → E w I L Q → E w I L Q') (mO : ∀ w I L Q Q', (∀ (r : Bool) (I1 : Ix) (L1 : Lx), FrI wsI_grp fsI_grp I I1 → FrL wsL_grp fsL_grp L L1 → Q r I1 L1 → Q' r I1 L1) → O w I L Q → O w I L Q') {I0 : Ix} {L0 : Lx} {Q Q' : Bool → Ix → Lx → Prop} (hQ : ∀ (r : Bool) (I1 : Ix) (L1 : Lx), FrI (wsI_X3_sum) (fsI_X3_sum) I0 I1 → FrL (wsL_X3_sum) (fsL_X3_sum) L0 L1 → Q r I1 L1 → Q' r I1 L1) {v1 : Int32} {v2 : Int32} {I : Ix} {L : Lx} (hF : FrI (wsI_X3_sum) (fsI_X3_sum) I0 I) (hL : FrL (wsL_X3_sum) (fsL_X3_sum) L0 L) (h : wpX3_sum_h12 E O Q v1 v2 I L) : wpX3_sum_h12 E O Q' v1 v2 I L := by
  unfold wpX3_sum_h12 at h
  refine Lfp.ind (P := fun z => FrI (wsI_X3_sum) (fsI_X3_sum) I0 z.2.2.1 → FrL (wsL_X3_sum) (fsL_X3_sum) L0 z.2.2.2 → wpX3_sum_h12 E O Q' z.1 z.2.1 z.2.2.1 z.2.2.2) ?_ h hF hL
  intro z P' hP' h hF hL
  obtain ⟨v1, v2, I, L⟩ := z
  exact wpX3_sum_h12_fold (mnX3_sum_l12 mE mO hQ (fun v1 v2 I L hF hL h9 => hP' (v1, v2, I, L) h9 hF hL) hF hL h)
set_option maxRecDepth 10000 in
theorem mnX3_sum {E O : Int32 → Ix → Lx → (Bool → Ix → Lx → Prop) → Prop} (mE : ∀ w I L Q Q', (∀ (r : Bool) (I1 : Ix) (L1 : Lx), FrI wsI_grp fsI_grp I I1 → FrL wsL_grp fsL_grp L L1 → Q r I1 L1 → Q' r I1 L1) → E w I L Q → E w I L Q') (mO : ∀ w I L Q Q', (∀ (r : Bool) (I1 : Ix) (L1 : Lx), FrI wsI_grp fsI_grp I I1 → FrL wsL_grp fsL_grp L L1 → Q r I1 L1 → Q' r I1 L1) → O w I L Q → O w I L Q') {a1 : Int32} {I : Ix} {L : Lx} {Q Q' : Bool → Ix → Lx → Prop} (hQ : ∀ (r : Bool) (I1 : Ix) (L1 : Lx), FrI (wsI_X3_sum) (fsI_X3_sum) I I1 → FrL (wsL_X3_sum) (fsL_X3_sum) L L1 → Q r I1 L1 → Q' r I1 L1) (h : wpX3_sum E O a1 I L Q) : wpX3_sum E O a1 I L Q' := by
  have hF : FrI (wsI_X3_sum) (fsI_X3_sum) I I := FrI.rf
  have hL : FrL (wsL_X3_sum) (fsL_X3_sum) L L := FrL.rf
  unfold wpX3_sum at h ⊢
  refine mnX3_term mE mO (fun r3 I1 L2 hf hl h => ?_) h
  have hF := hF.tr hf (by decide) (by decide)
  have hL := hL.tr hl (by decide) (by decide)
  refine ⟨fun hc => ?_, fun hc => ?_⟩
  · have h := h.1 hc
    exact mnX3_sum_h12 mE mO hQ hF hL h
  · have h := h.2 hc
    exact hQ _ _ _ hF hL h
abbrev wsI_X3_negated : List Nat := [36]
abbrev wsL_X3_negated : List Nat := []
abbrev fsI_X3_negated : List (Nat × Nat) := [(51, 3), (51, 5), (51, 2), (51, 4), (49, 7), (49, 8), (33, 0), (33, 1)]
abbrev fsL_X3_negated : List (Nat × Nat) := [(51, 6)]
set_option maxRecDepth 10000 in
theorem mnX3_negated {E O : Int32 → Ix → Lx → (Bool → Ix → Lx → Prop) → Prop} (mE : ∀ w I L Q Q', (∀ (r : Bool) (I1 : Ix) (L1 : Lx), FrI wsI_grp fsI_grp I I1 → FrL wsL_grp fsL_grp L L1 → Q r I1 L1 → Q' r I1 L1) → E w I L Q → E w I L Q') (mO : ∀ w I L Q Q', (∀ (r : Bool) (I1 : Ix) (L1 : Lx), FrI wsI_grp fsI_grp I I1 → FrL wsL_grp fsL_grp L L1 → Q r I1 L1 → Q' r I1 L1) → O w I L Q → O w I L Q') {a1 : Int32} {I : Ix} {L : Lx} {Q Q' : Bool → Ix → Lx → Prop} (hQ : ∀ (r : Bool) (I1 : Ix) (L1 : Lx), FrI (wsI_X3_negated) (fsI_X3_negated) I I1 → FrL (wsL_X3_negated) (fsL_X3_negated) L L1 → Q r I1 L1 → Q' r I1 L1) (h : wpX3_negated E O a1 I L Q) : wpX3_negated E O a1 I L Q' := by
  have hF : FrI (wsI_X3_negated) (fsI_X3_negated) I I := FrI.rf
  have hL : FrL (wsL_X3_negated) (fsL_X3_negated) L L := FrL.rf
  unfold wpX3_negated at h ⊢
  refine ⟨fun hc => ?_, fun hc => ?_⟩
  · have h := h.1 hc
    refine mnX8_step (fun I1 L2 hf hl h => ?_) h
    have hF := hF.tr hf (by decide) (by decide)
    have hL := hL.tr hl (by decide) (by decide)
    refine mO _ _ _ _ _ (fun r5 I3 L4 hf hl h => ?_) h
    have hF := hF.tr hf (by decide) (by decide)
    have hL := hL.tr hl (by decide) (by decide)
    refine ⟨fun hc => ?_, fun hc => ?_⟩
    · have h := h.1 hc
      refine mnX4_add_33 (fun I6 L7 hf hl h => ?_) h
      have hF := hF.tr hf (by decide) (by decide)
      have hL := hL.tr hl (by decide) (by decide)
      exact hQ _ _ _ hF hL h
    · have h := h.2 hc
      exact hQ _ _ _ hF hL h
  · have h := h.2 hc
    refine mnX3_refuse (fun r10 I8 L9 hf hl h => ?_) h
    have hF := hF.tr hf (by decide) (by decide)
    have hL := hL.tr hl (by decide) (by decide)
    exact hQ _ _ _ hF hL h
abbrev wsI_X3_one : List Nat := [36]
abbrev wsL_X3_one : List Nat := []
abbrev fsI_X3_one : List (Nat × Nat) := [(51, 3), (51, 5), (51, 2), (51, 4), (49, 7), (49, 8), (33, 0), (33, 1)]
abbrev fsL_X3_one : List (Nat × Nat) := [(51, 6)]
set_option maxRecDepth 10000 in
theorem mnX3_one_b66 {E O : Int32 → Ix → Lx → (Bool → Ix → Lx → Prop) → Prop} (mE : ∀ w I L Q Q', (∀ (r : Bool) (I1 : Ix) (L1 : Lx), FrI wsI_grp fsI_grp I I1 → FrL wsL_grp fsL_grp L L1 → Q r I1 L1 → Q' r I1 L1) → E w I L Q → E w I L Q') (mO : ∀ w I L Q Q', (∀ (r : Bool) (I1 : Ix) (L1 : Lx), FrI wsI_grp fsI_grp I I1 → FrL wsL_grp fsL_grp L L1 → Q r I1 L1 → Q' r I1 L1) → O w I L Q → O w I L Q') {I0 : Ix} {L0 : Lx} {Q Q' : Bool → Ix → Lx → Prop} (hQ : ∀ (r : Bool) (I1 : Ix) (L1 : Lx), FrI (wsI_X3_one) (fsI_X3_one) I0 I1 → FrL (wsL_X3_one) (fsL_X3_one) L0 L1 → Q r I1 L1 → Q' r I1 L1) {v1 : Int32} {I : Ix} {L : Lx} (hF : FrI (wsI_X3_one) (fsI_X3_one) I0 I) (hL : FrL (wsL_X3_one) (fsL_X3_one) L0 L) (h : wpX3_one_b66 E O Q v1 I L) : wpX3_one_b66 E O Q' v1 I L := by
  unfold wpX3_one_b66 at h ⊢
  refine mnX8_step (fun I1 L2 hf hl h => ?_) h
  have hF := hF.tr hf (by decide) (by decide)
  have hL := hL.tr hl (by decide) (by decide)
  refine mnX3_sum mE mO (fun r5 I3 L4 hf hl h => ?_) h
  have hF := hF.tr hf (by decide) (by decide)
  have hL := hL.tr hl (by decide) (by decide)
  refine ⟨fun hc => ?_, fun hc => ?_⟩
  · have h := h.1 hc
    refine mnX4_add_33 (fun I6 L7 hf hl h => ?_) h
    have hF := hF.tr hf (by decide) (by decide)
    have hL := hL.tr hl (by decide) (by decide)
    exact hQ _ _ _ hF hL h
  · have h := h.2 hc
    exact hQ _ _ _ hF hL h
set_option maxRecDepth 10000 in
theorem mnX3_one {E O : Int32 → Ix → Lx → (Bool → Ix → Lx → Prop) → Prop} (mE : ∀ w I L Q Q', (∀ (r : Bool) (I1 : Ix) (L1 : Lx), FrI wsI_grp fsI_grp I I1 → FrL wsL_grp fsL_grp L L1 → Q r I1 L1 → Q' r I1 L1) → E w I L Q → E w I L Q') (mO : ∀ w I L Q Q', (∀ (r : Bool) (I1 : Ix) (L1 : Lx), FrI wsI_grp fsI_grp I I1 → FrL wsL_grp fsL_grp L L1 → Q r I1 L1 → Q' r I1 L1) → O w I L Q → O w I L Q') {a1 : Int32} {I : Ix} {L : Lx} {Q Q' : Bool → Ix → Lx → Prop} (hQ : ∀ (r : Bool) (I1 : Ix) (L1 : Lx), FrI (wsI_X3_one) (fsI_X3_one) I I1 → FrL (wsL_X3_one) (fsL_X3_one) L L1 → Q r I1 L1 → Q' r I1 L1) (h : wpX3_one E O a1 I L Q) : wpX3_one E O a1 I L Q' := by
  have hF : FrI (wsI_X3_one) (fsI_X3_one) I I := FrI.rf
  have hL : FrL (wsL_X3_one) (fsL_X3_one) L L := FrL.rf
  unfold wpX3_one at h ⊢
  refine mnX8_isWord (fun r3 I1 L2 hf hl h => ?_) h
  have hF := hF.tr hf (by decide) (by decide)
  have hL := hL.tr hl (by decide) (by decide)
  refine ⟨fun hc => ?_, fun hc => ?_⟩
  · have h := h.1 hc
    refine mnX3_sum mE mO (fun r6 I4 L5 hf hl h => ?_) h
    have hF := hF.tr hf (by decide) (by decide)
    have hL := hL.tr hl (by decide) (by decide)
    refine ⟨fun hc => ?_, fun hc => ?_⟩
    · have h := h.1 hc
      refine mnX8_isSign (fun r9 I7 L8 hf hl h => ?_) h
      have hF := hF.tr hf (by decide) (by decide)
      have hL := hL.tr hl (by decide) (by decide)
      refine ⟨fun hc => ?_, fun hc => ?_⟩
      · have h := h.1 hc
        exact mnX3_one_b66 mE mO hQ hF hL h
      · have h := h.2 hc
        refine mnX8_isSign (fun r12 I10 L11 hf hl h => ?_) h
        have hF := hF.tr hf (by decide) (by decide)
        have hL := hL.tr hl (by decide) (by decide)
        refine ⟨fun hc => ?_, fun hc => ?_⟩
        · have h := h.1 hc
          exact mnX3_one_b66 mE mO hQ hF hL h
        · have h := h.2 hc
          refine mnX8_isSign (fun r15 I13 L14 hf hl h => ?_) h
          have hF := hF.tr hf (by decide) (by decide)
          have hL := hL.tr hl (by decide) (by decide)
          refine ⟨fun hc => ?_, fun hc => ?_⟩
          · have h := h.1 hc
            exact mnX3_one_b66 mE mO hQ hF hL h
          · have h := h.2 hc
            exact hQ _ _ _ hF hL h
    · have h := h.2 hc
      exact hQ _ _ _ hF hL h
  · have h := h.2 hc
    refine mnX3_negated mE mO (fun r18 I16 L17 hf hl h => ?_) h
    have hF := hF.tr hf (by decide) (by decide)
    have hL := hL.tr hl (by decide) (by decide)
    exact hQ _ _ _ hF hL h
abbrev wsI_X3_both : List Nat := [36]
abbrev wsL_X3_both : List Nat := []
abbrev fsI_X3_both : List (Nat × Nat) := [(51, 3), (51, 5), (51, 2), (51, 4), (49, 7), (49, 8), (33, 0), (33, 1)]
abbrev fsL_X3_both : List (Nat × Nat) := [(51, 6)]
set_option maxRecDepth 10000 in
theorem mnX3_both_l12 {E O : Int32 → Ix → Lx → (Bool → Ix → Lx → Prop) → Prop} (mE : ∀ w I L Q Q', (∀ (r : Bool) (I1 : Ix) (L1 : Lx), FrI wsI_grp fsI_grp I I1 → FrL wsL_grp fsL_grp L L1 → Q r I1 L1 → Q' r I1 L1) → E w I L Q → E w I L Q') (mO : ∀ w I L Q Q', (∀ (r : Bool) (I1 : Ix) (L1 : Lx), FrI wsI_grp fsI_grp I I1 → FrL wsL_grp fsL_grp L L1 → Q r I1 L1 → Q' r I1 L1) → O w I L Q → O w I L Q') {I0 : Ix} {L0 : Lx} {Q Q' : Bool → Ix → Lx → Prop} {P12 P12' : Int32 → Int32 → Ix → Lx → Prop} (hQ : ∀ (r : Bool) (I1 : Ix) (L1 : Lx), FrI (wsI_X3_both) (fsI_X3_both) I0 I1 → FrL (wsL_X3_both) (fsL_X3_both) L0 L1 → Q r I1 L1 → Q' r I1 L1) (hP12 : ∀ (v1 : Int32) (v2 : Int32) (I1 : Ix) (L1 : Lx), FrI (wsI_X3_both) (fsI_X3_both) I0 I1 → FrL (wsL_X3_both) (fsL_X3_both) L0 L1 → P12 v1 v2 I1 L1 → P12' v1 v2 I1 L1) {v1 : Int32} {v2 : Int32} {I : Ix} {L : Lx} (hF : FrI (wsI_X3_both) (fsI_X3_both) I0 I) (hL : FrL (wsL_X3_both) (fsL_X3_both) L0 L) (h : wpX3_both_l12 E O Q P12 v1 v2 I L) : wpX3_both_l12 E O Q' P12' v1 v2 I L := by
  unfold wpX3_both_l12 at h ⊢
  refine ⟨fun hc => ?_, fun hc => ?_⟩
  · have h := h.1 hc
    exact hQ _ _ _ hF hL h
  · have h := h.2 hc
    refine mnX8_isWord (fun r3 I1 L2 hf hl h => ?_) h
    have hF := hF.tr hf (by decide) (by decide)
    have hL := hL.tr hl (by decide) (by decide)
    refine ⟨fun hc => ?_, fun hc => ?_⟩
    · have h := h.1 hc
      exact hQ _ _ _ hF hL h
    · have h := h.2 hc
      refine mnX8_step (fun I4 L5 hf hl h => ?_) h
      have hF := hF.tr hf (by decide) (by decide)
      have hL := hL.tr hl (by decide) (by decide)
      refine mnX3_one mE mO (fun r8 I6 L7 hf hl h => ?_) h
      have hF := hF.tr hf (by decide) (by decide)
      have hL := hL.tr hl (by decide) (by decide)
      refine ⟨fun hc => ?_, fun hc => ?_⟩
      · have h := h.1 hc
        refine mnX4_add_33 (fun I9 L10 hf hl h => ?_) h
        have hF := hF.tr hf (by decide) (by decide)
        have hL := hL.tr hl (by decide) (by decide)
        exact hP12 _ _ _ _ hF hL h
      · have h := h.2 hc
        exact hQ _ _ _ hF hL h
set_option maxRecDepth 10000 in
theorem mnX3_both_h12 {E O : Int32 → Ix → Lx → (Bool → Ix → Lx → Prop) → Prop} (mE : ∀ w I L Q Q', (∀ (r : Bool) (I1 : Ix) (L1 : Lx), FrI wsI_grp fsI_grp I I1 → FrL wsL_grp fsL_grp L L1 → Q r I1 L1 → Q' r I1 L1) → E w I L Q → E w I L Q') (mO : ∀ w I L Q Q', (∀ (r : Bool) (I1 : Ix) (L1 : Lx), FrI wsI_grp fsI_grp I I1 → FrL wsL_grp fsL_grp L L1 → Q r I1 L1 → Q' r I1 L1) → O w I L Q → O w I L Q') {I0 : Ix} {L0 : Lx} {Q Q' : Bool → Ix → Lx → Prop} (hQ : ∀ (r : Bool) (I1 : Ix) (L1 : Lx), FrI (wsI_X3_both) (fsI_X3_both) I0 I1 → FrL (wsL_X3_both) (fsL_X3_both) L0 L1 → Q r I1 L1 → Q' r I1 L1) {v1 : Int32} {v2 : Int32} {I : Ix} {L : Lx} (hF : FrI (wsI_X3_both) (fsI_X3_both) I0 I) (hL : FrL (wsL_X3_both) (fsL_X3_both) L0 L) (h : wpX3_both_h12 E O Q v1 v2 I L) : wpX3_both_h12 E O Q' v1 v2 I L := by
  unfold wpX3_both_h12 at h
  refine Lfp.ind (P := fun z => FrI (wsI_X3_both) (fsI_X3_both) I0 z.2.2.1 → FrL (wsL_X3_both) (fsL_X3_both) L0 z.2.2.2 → wpX3_both_h12 E O Q' z.1 z.2.1 z.2.2.1 z.2.2.2) ?_ h hF hL
  intro z P' hP' h hF hL
  obtain ⟨v1, v2, I, L⟩ := z
  exact wpX3_both_h12_fold (mnX3_both_l12 mE mO hQ (fun v1 v2 I L hF hL h9 => hP' (v1, v2, I, L) h9 hF hL) hF hL h)
set_option maxRecDepth 10000 in
theorem mnX3_both {E O : Int32 → Ix → Lx → (Bool → Ix → Lx → Prop) → Prop} (mE : ∀ w I L Q Q', (∀ (r : Bool) (I1 : Ix) (L1 : Lx), FrI wsI_grp fsI_grp I I1 → FrL wsL_grp fsL_grp L L1 → Q r I1 L1 → Q' r I1 L1) → E w I L Q → E w I L Q') (mO : ∀ w I L Q Q', (∀ (r : Bool) (I1 : Ix) (L1 : Lx), FrI wsI_grp fsI_grp I I1 → FrL wsL_grp fsL_grp L L1 → Q r I1 L1 → Q' r I1 L1) → O w I L Q → O w I L Q') {a1 : Int32} {I : Ix} {L : Lx} {Q Q' : Bool → Ix → Lx → Prop} (hQ : ∀ (r : Bool) (I1 : Ix) (L1 : Lx), FrI (wsI_X3_both) (fsI_X3_both) I I1 → FrL (wsL_X3_both) (fsL_X3_both) L L1 → Q r I1 L1 → Q' r I1 L1) (h : wpX3_both E O a1 I L Q) : wpX3_both E O a1 I L Q' := by
  have hF : FrI (wsI_X3_both) (fsI_X3_both) I I := FrI.rf
  have hL : FrL (wsL_X3_both) (fsL_X3_both) L L := FrL.rf
  unfold wpX3_both at h ⊢
  refine mnX3_one mE mO (fun r3 I1 L2 hf hl h => ?_) h
  have hF := hF.tr hf (by decide) (by decide)
  have hL := hL.tr hl (by decide) (by decide)
  refine ⟨fun hc => ?_, fun hc => ?_⟩
  · have h := h.1 hc
    exact mnX3_both_h12 mE mO hQ hF hL h
  · have h := h.2 hc
    exact hQ _ _ _ hF hL h
abbrev wsI_X3_either : List Nat := [36]
abbrev wsL_X3_either : List Nat := []
abbrev fsI_X3_either : List (Nat × Nat) := [(51, 3), (51, 5), (51, 2), (51, 4), (49, 7), (49, 8), (33, 0), (33, 1)]
abbrev fsL_X3_either : List (Nat × Nat) := [(51, 6)]
set_option maxRecDepth 10000 in
theorem mnX3_either_l12 {E O : Int32 → Ix → Lx → (Bool → Ix → Lx → Prop) → Prop} (mE : ∀ w I L Q Q', (∀ (r : Bool) (I1 : Ix) (L1 : Lx), FrI wsI_grp fsI_grp I I1 → FrL wsL_grp fsL_grp L L1 → Q r I1 L1 → Q' r I1 L1) → E w I L Q → E w I L Q') (mO : ∀ w I L Q Q', (∀ (r : Bool) (I1 : Ix) (L1 : Lx), FrI wsI_grp fsI_grp I I1 → FrL wsL_grp fsL_grp L L1 → Q r I1 L1 → Q' r I1 L1) → O w I L Q → O w I L Q') {I0 : Ix} {L0 : Lx} {Q Q' : Bool → Ix → Lx → Prop} {P12 P12' : Int32 → Int32 → Ix → Lx → Prop} (hQ : ∀ (r : Bool) (I1 : Ix) (L1 : Lx), FrI (wsI_X3_either) (fsI_X3_either) I0 I1 → FrL (wsL_X3_either) (fsL_X3_either) L0 L1 → Q r I1 L1 → Q' r I1 L1) (hP12 : ∀ (v1 : Int32) (v2 : Int32) (I1 : Ix) (L1 : Lx), FrI (wsI_X3_either) (fsI_X3_either) I0 I1 → FrL (wsL_X3_either) (fsL_X3_either) L0 L1 → P12 v1 v2 I1 L1 → P12' v1 v2 I1 L1) {v1 : Int32} {v2 : Int32} {I : Ix} {L : Lx} (hF : FrI (wsI_X3_either) (fsI_X3_either) I0 I) (hL : FrL (wsL_X3_either) (fsL_X3_either) L0 L) (h : wpX3_either_l12 E O Q P12 v1 v2 I L) : wpX3_either_l12 E O Q' P12' v1 v2 I L := by
  unfold wpX3_either_l12 at h ⊢
  refine ⟨fun hc => ?_, fun hc => ?_⟩
  · have h := h.1 hc
    exact hQ _ _ _ hF hL h
  · have h := h.2 hc
    refine mnX8_isWord (fun r3 I1 L2 hf hl h => ?_) h
    have hF := hF.tr hf (by decide) (by decide)
    have hL := hL.tr hl (by decide) (by decide)
    refine ⟨fun hc => ?_, fun hc => ?_⟩
    · have h := h.1 hc
      exact hQ _ _ _ hF hL h
    · have h := h.2 hc
      refine mnX8_step (fun I4 L5 hf hl h => ?_) h
      have hF := hF.tr hf (by decide) (by decide)
      have hL := hL.tr hl (by decide) (by decide)
      refine mnX3_both mE mO (fun r8 I6 L7 hf hl h => ?_) h
      have hF := hF.tr hf (by decide) (by decide)
      have hL := hL.tr hl (by decide) (by decide)
      refine ⟨fun hc => ?_, fun hc => ?_⟩
      · have h := h.1 hc
        refine mnX4_add_33 (fun I9 L10 hf hl h => ?_) h
        have hF := hF.tr hf (by decide) (by decide)
        have hL := hL.tr hl (by decide) (by decide)
        exact hP12 _ _ _ _ hF hL h
      · have h := h.2 hc
        exact hQ _ _ _ hF hL h
set_option maxRecDepth 10000 in
theorem mnX3_either_h12 {E O : Int32 → Ix → Lx → (Bool → Ix → Lx → Prop) → Prop} (mE : ∀ w I L Q Q', (∀ (r : Bool) (I1 : Ix) (L1 : Lx), FrI wsI_grp fsI_grp I I1 → FrL wsL_grp fsL_grp L L1 → Q r I1 L1 → Q' r I1 L1) → E w I L Q → E w I L Q') (mO : ∀ w I L Q Q', (∀ (r : Bool) (I1 : Ix) (L1 : Lx), FrI wsI_grp fsI_grp I I1 → FrL wsL_grp fsL_grp L L1 → Q r I1 L1 → Q' r I1 L1) → O w I L Q → O w I L Q') {I0 : Ix} {L0 : Lx} {Q Q' : Bool → Ix → Lx → Prop} (hQ : ∀ (r : Bool) (I1 : Ix) (L1 : Lx), FrI (wsI_X3_either) (fsI_X3_either) I0 I1 → FrL (wsL_X3_either) (fsL_X3_either) L0 L1 → Q r I1 L1 → Q' r I1 L1) {v1 : Int32} {v2 : Int32} {I : Ix} {L : Lx} (hF : FrI (wsI_X3_either) (fsI_X3_either) I0 I) (hL : FrL (wsL_X3_either) (fsL_X3_either) L0 L) (h : wpX3_either_h12 E O Q v1 v2 I L) : wpX3_either_h12 E O Q' v1 v2 I L := by
  unfold wpX3_either_h12 at h
  refine Lfp.ind (P := fun z => FrI (wsI_X3_either) (fsI_X3_either) I0 z.2.2.1 → FrL (wsL_X3_either) (fsL_X3_either) L0 z.2.2.2 → wpX3_either_h12 E O Q' z.1 z.2.1 z.2.2.1 z.2.2.2) ?_ h hF hL
  intro z P' hP' h hF hL
  obtain ⟨v1, v2, I, L⟩ := z
  exact wpX3_either_h12_fold (mnX3_either_l12 mE mO hQ (fun v1 v2 I L hF hL h9 => hP' (v1, v2, I, L) h9 hF hL) hF hL h)
set_option maxRecDepth 10000 in
theorem mnX3_either {E O : Int32 → Ix → Lx → (Bool → Ix → Lx → Prop) → Prop} (mE : ∀ w I L Q Q', (∀ (r : Bool) (I1 : Ix) (L1 : Lx), FrI wsI_grp fsI_grp I I1 → FrL wsL_grp fsL_grp L L1 → Q r I1 L1 → Q' r I1 L1) → E w I L Q → E w I L Q') (mO : ∀ w I L Q Q', (∀ (r : Bool) (I1 : Ix) (L1 : Lx), FrI wsI_grp fsI_grp I I1 → FrL wsL_grp fsL_grp L L1 → Q r I1 L1 → Q' r I1 L1) → O w I L Q → O w I L Q') {a1 : Int32} {I : Ix} {L : Lx} {Q Q' : Bool → Ix → Lx → Prop} (hQ : ∀ (r : Bool) (I1 : Ix) (L1 : Lx), FrI (wsI_X3_either) (fsI_X3_either) I I1 → FrL (wsL_X3_either) (fsL_X3_either) L L1 → Q r I1 L1 → Q' r I1 L1) (h : wpX3_either E O a1 I L Q) : wpX3_either E O a1 I L Q' := by
  have hF : FrI (wsI_X3_either) (fsI_X3_either) I I := FrI.rf
  have hL : FrL (wsL_X3_either) (fsL_X3_either) L L := FrL.rf
  unfold wpX3_either at h ⊢
  refine mnX3_both mE mO (fun r3 I1 L2 hf hl h => ?_) h
  have hF := hF.tr hf (by decide) (by decide)
  have hL := hL.tr hl (by decide) (by decide)
  refine ⟨fun hc => ?_, fun hc => ?_⟩
  · have h := h.1 hc
    exact mnX3_either_h12 mE mO hQ hF hL h
  · have h := h.2 hc
    exact hQ _ _ _ hF hL h
theorem mnR : ∀ d, (∀ w I L Q Q', (∀ (r : Bool) (I1 : Ix) (L1 : Lx), FrI wsI_grp fsI_grp I I1 → FrL wsL_grp fsL_grp L L1 → Q r I1 L1 → Q' r I1 L1) → (wpR d).1 w I L Q → (wpR d).1 w I L Q') ∧ (∀ w I L Q Q', (∀ (r : Bool) (I1 : Ix) (L1 : Lx), FrI wsI_grp fsI_grp I I1 → FrL wsL_grp fsL_grp L L1 → Q r I1 L1 → Q' r I1 L1) → (wpR d).2 w I L Q → (wpR d).2 w I L Q')
  | 0 => ⟨fun _ _ _ _ _ _ h => h.elim, fun _ _ _ _ _ _ h => h.elim⟩
  | d + 1 => ⟨fun _ _ _ _ _ hQ h => mnX3_either (mnR d).1 (mnR d).2 hQ h, fun _ _ _ _ _ hQ h => mnX3_one (mnR d).1 (mnR d).2 hQ h⟩
theorem mnR_either (d : Nat) {w : Int32} {I : Ix} {L : Lx} {Q Q' : Bool → Ix → Lx → Prop} (hQ : ∀ (r : Bool) (I1 : Ix) (L1 : Lx), FrI wsI_grp fsI_grp I I1 → FrL wsL_grp fsL_grp L L1 → Q r I1 L1 → Q' r I1 L1) (h : (wpR d).1 w I L Q) : (wpR d).1 w I L Q' := (mnR d).1 _ _ _ _ _ hQ h
abbrev wsI_X3_word : List Nat := []
abbrev wsL_X3_word : List Nat := []
abbrev fsI_X3_word : List (Nat × Nat) := [(51, 3), (51, 5), (51, 2), (51, 4), (49, 7), (49, 8)]
abbrev fsL_X3_word : List (Nat × Nat) := [(51, 6)]
set_option maxRecDepth 10000 in
theorem mnX3_word {a1 : Int32} {I : Ix} {L : Lx} {Q Q' : Bool → Ix → Lx → Prop} (hQ : ∀ (r : Bool) (I1 : Ix) (L1 : Lx), FrI (wsI_X3_word) (fsI_X3_word) I I1 → FrL (wsL_X3_word) (fsL_X3_word) L L1 → Q r I1 L1 → Q' r I1 L1) (h : wpX3_word a1 I L Q) : wpX3_word a1 I L Q' := by
  have hF : FrI (wsI_X3_word) (fsI_X3_word) I I := FrI.rf
  have hL : FrL (wsL_X3_word) (fsL_X3_word) L L := FrL.rf
  unfold wpX3_word at h ⊢
  refine mnX8_isWord (fun r3 I1 L2 hf hl h => ?_) h
  have hF := hF.tr hf (by decide) (by decide)
  have hL := hL.tr hl (by decide) (by decide)
  refine ⟨fun hc => ?_, fun hc => ?_⟩
  · have h := h.1 hc
    refine mnX8_step (fun I4 L5 hf hl h => ?_) h
    have hF := hF.tr hf (by decide) (by decide)
    have hL := hL.tr hl (by decide) (by decide)
    exact hQ _ _ _ hF hL h
  · have h := h.2 hc
    refine mnX3_refuse (fun r8 I6 L7 hf hl h => ?_) h
    have hF := hF.tr hf (by decide) (by decide)
    have hL := hL.tr hl (by decide) (by decide)
    exact hQ _ _ _ hF hL h
abbrev wsI_X3_personLine : List Nat := [34, 35, 36, 45, 46, 47, 48]
abbrev wsL_X3_personLine : List Nat := [44]
abbrev fsI_X3_personLine : List (Nat × Nat) := [(26, 3), (51, 3), (51, 5), (51, 2), (51, 4), (49, 7), (49, 8), (33, 0), (33, 1)]
abbrev fsL_X3_personLine : List (Nat × Nat) := [(51, 6)]
set_option maxRecDepth 10000 in
theorem mnX3_personLine_b131 {I0 : Ix} {L0 : Lx} {Q Q' : Bool → Ix → Lx → Prop} (hQ : ∀ (r : Bool) (I1 : Ix) (L1 : Lx), FrI (wsI_X3_personLine) (fsI_X3_personLine) I0 I1 → FrL (wsL_X3_personLine) (fsL_X3_personLine) L0 L1 → Q r I1 L1 → Q' r I1 L1) {v1 : Int32} {t0 : Int32} {I : Ix} {L : Lx} (hF : FrI (wsI_X3_personLine) (fsI_X3_personLine) I0 I) (hL : FrL (wsL_X3_personLine) (fsL_X3_personLine) L0 L) (h : wpX3_personLine_b131 Q v1 t0 I L) : wpX3_personLine_b131 Q' v1 t0 I L := by
  unfold wpX3_personLine_b131 at h ⊢
  refine ⟨fun hc => ?_, fun hc => ?_⟩
  · have h := h.1 hc
    refine ⟨h.1, ?_⟩
    have h := h.2
    intro I1 eI1
    have h := h I1 eI1
    have hF := hF.pw eI1 (by decide)
    refine mnR_either 9 (fun r4 I2 L3 hf hl h => ?_) h
    have hF := hF.tr hf (by decide) (by decide)
    have hL := hL.tr hl (by decide) (by decide)
    refine ⟨fun hc => ?_, fun hc => ?_⟩
    · have h := h.1 hc
      refine ⟨h.1, ?_⟩
      have h := h.2
      intro I5 eI5
      have h := h I5 eI5
      have hF := hF.pw eI5 (by decide)
      intro I6 eI6
      have h := h I6 eI6
      have hF := hF.pf eI6 (by decide)
      refine mnX3_sign (fun r9 I7 L8 hf hl h => ?_) h
      have hF := hF.tr hf (by decide) (by decide)
      have hL := hL.tr hl (by decide) (by decide)
      exact hQ _ _ _ hF hL h
    · have h := h.2 hc
      exact hQ _ _ _ hF hL h
  · have h := h.2 hc
    exact hQ _ _ _ hF hL h
set_option maxRecDepth 10000 in
theorem mnX3_personLine_b130 {I0 : Ix} {L0 : Lx} {Q Q' : Bool → Ix → Lx → Prop} (hQ : ∀ (r : Bool) (I1 : Ix) (L1 : Lx), FrI (wsI_X3_personLine) (fsI_X3_personLine) I0 I1 → FrL (wsL_X3_personLine) (fsL_X3_personLine) L0 L1 → Q r I1 L1 → Q' r I1 L1) {v1 : Int32} {I : Ix} {L : Lx} (hF : FrI (wsI_X3_personLine) (fsI_X3_personLine) I0 I) (hL : FrL (wsL_X3_personLine) (fsL_X3_personLine) L0 L) (h : wpX3_personLine_b130 Q v1 I L) : wpX3_personLine_b130 Q' v1 I L := by
  unfold wpX3_personLine_b130 at h ⊢
  exact mnX3_personLine_b131 hQ hF hL h
set_option maxRecDepth 10000 in
theorem mnX3_personLine {I : Ix} {L : Lx} {Q Q' : Bool → Ix → Lx → Prop} (hQ : ∀ (r : Bool) (I1 : Ix) (L1 : Lx), FrI (wsI_X3_personLine) (fsI_X3_personLine) I I1 → FrL (wsL_X3_personLine) (fsL_X3_personLine) L L1 → Q r I1 L1 → Q' r I1 L1) (h : wpX3_personLine I L Q) : wpX3_personLine I L Q' := by
  have hF : FrI (wsI_X3_personLine) (fsI_X3_personLine) I I := FrI.rf
  have hL : FrL (wsL_X3_personLine) (fsL_X3_personLine) L L := FrL.rf
  unfold wpX3_personLine at h ⊢
  refine ⟨fun hc => ?_, fun hc => ?_⟩
  · have h := h.1 hc
    refine mnX8_step (fun I1 L2 hf hl h => ?_) h
    have hF := hF.tr hf (by decide) (by decide)
    have hL := hL.tr hl (by decide) (by decide)
    refine mnX3_newName (fun r5 I3 L4 hf hl h => ?_) h
    have hF := hF.tr hf (by decide) (by decide)
    have hL := hL.tr hl (by decide) (by decide)
    refine ⟨fun hc => ?_, fun hc => ?_⟩
    · have h := h.1 hc
      exact mnX3_personLine_b130 hQ hF hL h
    · have h := h.2 hc
      refine mnX3_atPlace (fun r8 I6 L7 hf hl h => ?_) h
      have hF := hF.tr hf (by decide) (by decide)
      have hL := hL.tr hl (by decide) (by decide)
      refine ⟨fun hc => ?_, fun hc => ?_⟩
      · have h := h.1 hc
        exact mnX3_personLine_b130 hQ hF hL h
      · have h := h.2 hc
        refine mnX3_number (fun r11 I9 L10 hf hl h => ?_) h
        have hF := hF.tr hf (by decide) (by decide)
        have hL := hL.tr hl (by decide) (by decide)
        refine ⟨fun hc => ?_, fun hc => ?_⟩
        · have h := h.1 hc
          exact mnX3_personLine_b130 hQ hF hL h
        · have h := h.2 hc
          refine mnX3_number (fun r14 I12 L13 hf hl h => ?_) h
          have hF := hF.tr hf (by decide) (by decide)
          have hL := hL.tr hl (by decide) (by decide)
          refine ⟨fun hc => ?_, fun hc => ?_⟩
          · have h := h.1 hc
            exact mnX3_personLine_b130 hQ hF hL h
          · have h := h.2 hc
            refine mnX3_number (fun r17 I15 L16 hf hl h => ?_) h
            have hF := hF.tr hf (by decide) (by decide)
            have hL := hL.tr hl (by decide) (by decide)
            refine ⟨fun hc => ?_, fun hc => ?_⟩
            · have h := h.1 hc
              exact mnX3_personLine_b130 hQ hF hL h
            · have h := h.2 hc
              refine mnX3_word (fun r20 I18 L19 hf hl h => ?_) h
              have hF := hF.tr hf (by decide) (by decide)
              have hL := hL.tr hl (by decide) (by decide)
              refine ⟨fun hc => ?_, fun hc => ?_⟩
              · have h := h.1 hc
                exact mnX3_personLine_b130 hQ hF hL h
              · have h := h.2 hc
                exact mnX3_personLine_b131 hQ hF hL h
  · have h := h.2 hc
    refine mnX3_refuse (fun r23 I21 L22 hf hl h => ?_) h
    have hF := hF.tr hf (by decide) (by decide)
    have hL := hL.tr hl (by decide) (by decide)
    exact hQ _ _ _ hF hL h
abbrev wsI_X3_lawLine : List Nat := []
abbrev wsL_X3_lawLine : List Nat := []
abbrev fsI_X3_lawLine : List (Nat × Nat) := [(49, 4), (26, 4), (51, 3), (51, 5), (51, 2), (51, 4), (49, 7), (49, 8)]
abbrev fsL_X3_lawLine : List (Nat × Nat) := [(51, 6)]
set_option maxRecDepth 10000 in
theorem mnX3_lawLine_b100 {I0 : Ix} {L0 : Lx} {Q Q' : Bool → Ix → Lx → Prop} (hQ : ∀ (r : Bool) (I1 : Ix) (L1 : Lx), FrI (wsI_X3_lawLine) (fsI_X3_lawLine) I0 I1 → FrL (wsL_X3_lawLine) (fsL_X3_lawLine) L0 L1 → Q r I1 L1 → Q' r I1 L1) {I : Ix} {L : Lx} (hF : FrI (wsI_X3_lawLine) (fsI_X3_lawLine) I0 I) (hL : FrL (wsL_X3_lawLine) (fsL_X3_lawLine) L0 L) (h : wpX3_lawLine_b100 Q I L) : wpX3_lawLine_b100 Q' I L := by
  unfold wpX3_lawLine_b100 at h ⊢
  refine mnX8_step (fun I1 L2 hf hl h => ?_) h
  have hF := hF.tr hf (by decide) (by decide)
  have hL := hL.tr hl (by decide) (by decide)
  refine mnX3_sign (fun r5 I3 L4 hf hl h => ?_) h
  have hF := hF.tr hf (by decide) (by decide)
  have hL := hL.tr hl (by decide) (by decide)
  exact hQ _ _ _ hF hL h
set_option maxRecDepth 10000 in
theorem mnX3_lawLine {I : Ix} {L : Lx} {Q Q' : Bool → Ix → Lx → Prop} (hQ : ∀ (r : Bool) (I1 : Ix) (L1 : Lx), FrI (wsI_X3_lawLine) (fsI_X3_lawLine) I I1 → FrL (wsL_X3_lawLine) (fsL_X3_lawLine) L L1 → Q r I1 L1 → Q' r I1 L1) (h : wpX3_lawLine I L Q) : wpX3_lawLine I L Q' := by
  have hF : FrI (wsI_X3_lawLine) (fsI_X3_lawLine) I I := FrI.rf
  have hL : FrL (wsL_X3_lawLine) (fsL_X3_lawLine) L L := FrL.rf
  unfold wpX3_lawLine at h ⊢
  refine ⟨fun hc => ?_, fun hc => ?_⟩
  · have h := h.1 hc
    intro I1 eI1
    have h := h I1 eI1
    have hF := hF.pf eI1 (by decide)
    refine mnX8_step (fun I2 L3 hf hl h => ?_) h
    have hF := hF.tr hf (by decide) (by decide)
    have hL := hL.tr hl (by decide) (by decide)
    refine mnX8_isWord (fun r6 I4 L5 hf hl h => ?_) h
    have hF := hF.tr hf (by decide) (by decide)
    have hL := hL.tr hl (by decide) (by decide)
    refine ⟨fun hc => ?_, fun hc => ?_⟩
    · have h := h.1 hc
      refine mnX8_isWord (fun r9 I7 L8 hf hl h => ?_) h
      have hF := hF.tr hf (by decide) (by decide)
      have hL := hL.tr hl (by decide) (by decide)
      refine ⟨fun hc => ?_, fun hc => ?_⟩
      · have h := h.1 hc
        refine mnX8_isWord (fun r12 I10 L11 hf hl h => ?_) h
        have hF := hF.tr hf (by decide) (by decide)
        have hL := hL.tr hl (by decide) (by decide)
        refine ⟨fun hc => ?_, fun hc => ?_⟩
        · have h := h.1 hc
          refine mnX3_refuse (fun r15 I13 L14 hf hl h => ?_) h
          have hF := hF.tr hf (by decide) (by decide)
          have hL := hL.tr hl (by decide) (by decide)
          exact hQ _ _ _ hF hL h
        · have h := h.2 hc
          intro I16 eI16
          have h := h I16 eI16
          have hF := hF.pf eI16 (by decide)
          exact mnX3_lawLine_b100 hQ hF hL h
      · have h := h.2 hc
        intro I17 eI17
        have h := h I17 eI17
        have hF := hF.pf eI17 (by decide)
        exact mnX3_lawLine_b100 hQ hF hL h
    · have h := h.2 hc
      intro I18 eI18
      have h := h I18 eI18
      have hF := hF.pf eI18 (by decide)
      exact mnX3_lawLine_b100 hQ hF hL h
  · have h := h.2 hc
    refine mnX3_refuse (fun r21 I19 L20 hf hl h => ?_) h
    have hF := hF.tr hf (by decide) (by decide)
    have hL := hL.tr hl (by decide) (by decide)
    exact hQ _ _ _ hF hL h
abbrev wsI_X3_lateLine : List Nat := [50]
abbrev wsL_X3_lateLine : List Nat := []
abbrev fsI_X3_lateLine : List (Nat × Nat) := [(49, 5), (26, 5), (49, 7), (49, 8), (51, 3), (51, 5), (51, 2), (51, 4)]
abbrev fsL_X3_lateLine : List (Nat × Nat) := [(51, 6)]
set_option maxRecDepth 10000 in
theorem mnX3_lateLine {I : Ix} {L : Lx} {Q Q' : Bool → Ix → Lx → Prop} (hQ : ∀ (r : Bool) (I1 : Ix) (L1 : Lx), FrI (wsI_X3_lateLine) (fsI_X3_lateLine) I I1 → FrL (wsL_X3_lateLine) (fsL_X3_lateLine) L L1 → Q r I1 L1 → Q' r I1 L1) (h : wpX3_lateLine I L Q) : wpX3_lateLine I L Q' := by
  have hF : FrI (wsI_X3_lateLine) (fsI_X3_lateLine) I I := FrI.rf
  have hL : FrL (wsL_X3_lateLine) (fsL_X3_lateLine) L L := FrL.rf
  unfold wpX3_lateLine at h ⊢
  refine ⟨fun hc => ?_, fun hc => ?_⟩
  · have h := h.1 hc
    intro I1 eI1
    have h := h I1 eI1
    have hF := hF.pf eI1 (by decide)
    refine mnX3_number (fun r4 I2 L3 hf hl h => ?_) h
    have hF := hF.tr hf (by decide) (by decide)
    have hL := hL.tr hl (by decide) (by decide)
    refine ⟨fun hc => ?_, fun hc => ?_⟩
    · have h := h.1 hc
      intro I5 eI5
      have h := h I5 eI5
      have hF := hF.pf eI5 (by decide)
      refine mnX3_sign (fun r8 I6 L7 hf hl h => ?_) h
      have hF := hF.tr hf (by decide) (by decide)
      have hL := hL.tr hl (by decide) (by decide)
      exact hQ _ _ _ hF hL h
    · have h := h.2 hc
      exact hQ _ _ _ hF hL h
  · have h := h.2 hc
    refine mnX3_refuse (fun r11 I9 L10 hf hl h => ?_) h
    have hF := hF.tr hf (by decide) (by decide)
    have hL := hL.tr hl (by decide) (by decide)
    exact hQ _ _ _ hF hL h
abbrev wsI_X3_line : List Nat := [29, 50, 31, 43, 39, 40, 41, 42, 34, 35, 36, 45, 46, 47, 48]
abbrev wsL_X3_line : List Nat := [28, 38, 44]
abbrev fsI_X3_line : List (Nat × Nat) := [(27, 0), (51, 3), (51, 5), (51, 2), (51, 4), (49, 7), (49, 8), (27, 1), (26, 2), (26, 3), (33, 0), (33, 1), (49, 4), (26, 4), (49, 5), (26, 5)]
abbrev fsL_X3_line : List (Nat × Nat) := [(51, 6)]
set_option maxRecDepth 10000 in
theorem mnX3_line {I : Ix} {L : Lx} {Q Q' : Bool → Ix → Lx → Prop} (hQ : ∀ (r : Bool) (I1 : Ix) (L1 : Lx), FrI (wsI_X3_line) (fsI_X3_line) I I1 → FrL (wsL_X3_line) (fsL_X3_line) L L1 → Q r I1 L1 → Q' r I1 L1) (h : wpX3_line I L Q) : wpX3_line I L Q' := by
  have hF : FrI (wsI_X3_line) (fsI_X3_line) I I := FrI.rf
  have hL : FrL (wsL_X3_line) (fsL_X3_line) L L := FrL.rf
  unfold wpX3_line at h ⊢
  refine ⟨fun hc => ?_, fun hc => ?_⟩
  · have h := h.1 hc
    refine ⟨fun hc => ?_, fun hc => ?_, fun hc => ?_, fun hc => ?_, fun hc => ?_, fun hc => ?_, ?_⟩
    · have h := h.1 hc
      refine mnX3_placeLine (fun r3 I1 L2 hf hl h => ?_) h
      have hF := hF.tr hf (by decide) (by decide)
      have hL := hL.tr hl (by decide) (by decide)
      exact hQ _ _ _ hF hL h
    · have h := h.2.1 hc
      refine mnX3_roadLine (fun r6 I4 L5 hf hl h => ?_) h
      have hF := hF.tr hf (by decide) (by decide)
      have hL := hL.tr hl (by decide) (by decide)
      exact hQ _ _ _ hF hL h
    · have h := h.2.2.1 hc
      refine mnX3_thingLine (fun r9 I7 L8 hf hl h => ?_) h
      have hF := hF.tr hf (by decide) (by decide)
      have hL := hL.tr hl (by decide) (by decide)
      exact hQ _ _ _ hF hL h
    · have h := h.2.2.2.1 hc
      refine mnX3_personLine (fun r12 I10 L11 hf hl h => ?_) h
      have hF := hF.tr hf (by decide) (by decide)
      have hL := hL.tr hl (by decide) (by decide)
      exact hQ _ _ _ hF hL h
    · have h := h.2.2.2.2.1 hc
      refine mnX3_lawLine (fun r15 I13 L14 hf hl h => ?_) h
      have hF := hF.tr hf (by decide) (by decide)
      have hL := hL.tr hl (by decide) (by decide)
      exact hQ _ _ _ hF hL h
    · have h := h.2.2.2.2.2.1 hc
      refine mnX3_lateLine (fun r18 I16 L17 hf hl h => ?_) h
      have hF := hF.tr hf (by decide) (by decide)
      have hL := hL.tr hl (by decide) (by decide)
      exact hQ _ _ _ hF hL h
    · intro e0 e1 e2 e3 e4 e5
      have h := h.2.2.2.2.2.2 e0 e1 e2 e3 e4 e5
      refine mnX3_refuse (fun r21 I19 L20 hf hl h => ?_) h
      have hF := hF.tr hf (by decide) (by decide)
      have hL := hL.tr hl (by decide) (by decide)
      exact hQ _ _ _ hF hL h
  · have h := h.2 hc
    refine mnX3_refuse (fun r24 I22 L23 hf hl h => ?_) h
    have hF := hF.tr hf (by decide) (by decide)
    have hL := hL.tr hl (by decide) (by decide)
    exact hQ _ _ _ hF hL h
abbrev wsI_X1_clear_27 : List Nat := [31]
abbrev wsL_X1_clear_27 : List Nat := []
abbrev fsI_X1_clear_27 : List (Nat × Nat) := [(27, 0), (27, 1)]
abbrev fsL_X1_clear_27 : List (Nat × Nat) := []
set_option maxRecDepth 10000 in
theorem mnX1_clear_27_b37 {I0 : Ix} {L0 : Lx} {Q Q' : Ix → Lx → Prop} {P12 P12' : Int32 → Ix → Lx → Prop} (hQ : ∀ (I1 : Ix) (L1 : Lx), FrI (wsI_X1_clear_27) (fsI_X1_clear_27) I0 I1 → FrL (wsL_X1_clear_27) (fsL_X1_clear_27) L0 L1 → Q I1 L1 → Q' I1 L1) (hP12 : ∀ (v1 : Int32) (I1 : Ix) (L1 : Lx), FrI (wsI_X1_clear_27) (fsI_X1_clear_27) I0 I1 → FrL (wsL_X1_clear_27) (fsL_X1_clear_27) L0 L1 → P12 v1 I1 L1 → P12' v1 I1 L1) {v1 : Int32} {t1 : Int32} {t2 : Int32} {I : Ix} {L : Lx} (hF : FrI (wsI_X1_clear_27) (fsI_X1_clear_27) I0 I) (hL : FrL (wsL_X1_clear_27) (fsL_X1_clear_27) L0 L) (h : wpX1_clear_27_b37 Q P12 v1 t1 t2 I L) : wpX1_clear_27_b37 Q' P12' v1 t1 t2 I L := by
  unfold wpX1_clear_27_b37 at h ⊢
  refine ⟨h.1, ?_⟩
  have h := h.2
  intro I1 eI1
  have h := h I1 eI1
  have hF := hF.pw eI1 (by decide)
  exact hP12 _ _ _ hF hL h
set_option maxRecDepth 10000 in
theorem mnX1_clear_27_l12 {I0 : Ix} {L0 : Lx} {Q Q' : Ix → Lx → Prop} {P12 P12' : Int32 → Ix → Lx → Prop} (hQ : ∀ (I1 : Ix) (L1 : Lx), FrI (wsI_X1_clear_27) (fsI_X1_clear_27) I0 I1 → FrL (wsL_X1_clear_27) (fsL_X1_clear_27) L0 L1 → Q I1 L1 → Q' I1 L1) (hP12 : ∀ (v1 : Int32) (I1 : Ix) (L1 : Lx), FrI (wsI_X1_clear_27) (fsI_X1_clear_27) I0 I1 → FrL (wsL_X1_clear_27) (fsL_X1_clear_27) L0 L1 → P12 v1 I1 L1 → P12' v1 I1 L1) {v1 : Int32} {I : Ix} {L : Lx} (hF : FrI (wsI_X1_clear_27) (fsI_X1_clear_27) I0 I) (hL : FrL (wsL_X1_clear_27) (fsL_X1_clear_27) L0 L) (h : wpX1_clear_27_l12 Q P12 v1 I L) : wpX1_clear_27_l12 Q' P12' v1 I L := by
  unfold wpX1_clear_27_l12 at h ⊢
  refine ⟨fun hc => ?_, fun hc => ?_⟩
  · have h := h.1 hc
    exact hQ _ _ hF hL h
  · have h := h.2 hc
    refine ⟨fun hc => ?_, fun hc => ?_⟩
    · have h := h.1 hc
      exact mnX1_clear_27_b37 hQ hP12 hF hL h
    · have h := h.2 hc
      exact mnX1_clear_27_b37 hQ hP12 hF hL h
set_option maxRecDepth 10000 in
theorem mnX1_clear_27_h12 {I0 : Ix} {L0 : Lx} {Q Q' : Ix → Lx → Prop} (hQ : ∀ (I1 : Ix) (L1 : Lx), FrI (wsI_X1_clear_27) (fsI_X1_clear_27) I0 I1 → FrL (wsL_X1_clear_27) (fsL_X1_clear_27) L0 L1 → Q I1 L1 → Q' I1 L1) {v1 : Int32} {I : Ix} {L : Lx} (hF : FrI (wsI_X1_clear_27) (fsI_X1_clear_27) I0 I) (hL : FrL (wsL_X1_clear_27) (fsL_X1_clear_27) L0 L) (h : wpX1_clear_27_h12 Q v1 I L) : wpX1_clear_27_h12 Q' v1 I L := by
  unfold wpX1_clear_27_h12 at h
  refine Lfp.ind (P := fun z => FrI (wsI_X1_clear_27) (fsI_X1_clear_27) I0 z.2.1 → FrL (wsL_X1_clear_27) (fsL_X1_clear_27) L0 z.2.2 → wpX1_clear_27_h12 Q' z.1 z.2.1 z.2.2) ?_ h hF hL
  intro z P' hP' h hF hL
  obtain ⟨v1, I, L⟩ := z
  exact wpX1_clear_27_h12_fold (mnX1_clear_27_l12 hQ (fun v1 I L hF hL h9 => hP' (v1, I, L) h9 hF hL) hF hL h)
set_option maxRecDepth 10000 in
theorem mnX1_clear_27 {I : Ix} {L : Lx} {Q Q' : Ix → Lx → Prop} (hQ : ∀ (I1 : Ix) (L1 : Lx), FrI (wsI_X1_clear_27) (fsI_X1_clear_27) I I1 → FrL (wsL_X1_clear_27) (fsL_X1_clear_27) L L1 → Q I1 L1 → Q' I1 L1) (h : wpX1_clear_27 I L Q) : wpX1_clear_27 I L Q' := by
  have hF : FrI (wsI_X1_clear_27) (fsI_X1_clear_27) I I := FrI.rf
  have hL : FrL (wsL_X1_clear_27) (fsL_X1_clear_27) L L := FrL.rf
  unfold wpX1_clear_27 at h ⊢
  intro I1 eI1
  have h := h I1 eI1
  have hF := hF.pf eI1 (by decide)
  intro I2 eI2
  have h := h I2 eI2
  have hF := hF.pf eI2 (by decide)
  exact mnX1_clear_27_h12 hQ hF hL h
abbrev wsI_X4_clear_33 : List Nat := []
abbrev wsL_X4_clear_33 : List Nat := []
abbrev fsI_X4_clear_33 : List (Nat × Nat) := [(33, 0), (33, 1)]
abbrev fsL_X4_clear_33 : List (Nat × Nat) := []
set_option maxRecDepth 10000 in
theorem mnX4_clear_33 {I : Ix} {L : Lx} {Q Q' : Ix → Lx → Prop} (hQ : ∀ (I1 : Ix) (L1 : Lx), FrI (wsI_X4_clear_33) (fsI_X4_clear_33) I I1 → FrL (wsL_X4_clear_33) (fsL_X4_clear_33) L L1 → Q I1 L1 → Q' I1 L1) (h : wpX4_clear_33 I L Q) : wpX4_clear_33 I L Q' := by
  have hF : FrI (wsI_X4_clear_33) (fsI_X4_clear_33) I I := FrI.rf
  have hL : FrL (wsL_X4_clear_33) (fsL_X4_clear_33) L L := FrL.rf
  unfold wpX4_clear_33 at h ⊢
  intro I1 eI1
  have h := h I1 eI1
  have hF := hF.pf eI1 (by decide)
  intro I2 eI2
  have h := h I2 eI2
  have hF := hF.pf eI2 (by decide)
  exact hQ _ _ hF hL h
abbrev wsI_X10_clear_26 : List Nat := [31]
abbrev wsL_X10_clear_26 : List Nat := []
abbrev fsI_X10_clear_26 : List (Nat × Nat) := [(26, 2), (26, 3), (26, 4), (26, 5), (27, 0), (27, 1), (33, 0), (33, 1)]
abbrev fsL_X10_clear_26 : List (Nat × Nat) := []
set_option maxRecDepth 10000 in
theorem mnX10_clear_26 {I : Ix} {L : Lx} {Q Q' : Ix → Lx → Prop} (hQ : ∀ (I1 : Ix) (L1 : Lx), FrI (wsI_X10_clear_26) (fsI_X10_clear_26) I I1 → FrL (wsL_X10_clear_26) (fsL_X10_clear_26) L L1 → Q I1 L1 → Q' I1 L1) (h : wpX10_clear_26 I L Q) : wpX10_clear_26 I L Q' := by
  have hF : FrI (wsI_X10_clear_26) (fsI_X10_clear_26) I I := FrI.rf
  have hL : FrL (wsL_X10_clear_26) (fsL_X10_clear_26) L L := FrL.rf
  unfold wpX10_clear_26 at h ⊢
  refine mnX1_clear_27 (fun I1 L2 hf hl h => ?_) h
  have hF := hF.tr hf (by decide) (by decide)
  have hL := hL.tr hl (by decide) (by decide)
  refine mnX4_clear_33 (fun I3 L4 hf hl h => ?_) h
  have hF := hF.tr hf (by decide) (by decide)
  have hL := hL.tr hl (by decide) (by decide)
  intro I5 eI5
  have h := h I5 eI5
  have hF := hF.pf eI5 (by decide)
  intro I6 eI6
  have h := h I6 eI6
  have hF := hF.pf eI6 (by decide)
  intro I7 eI7
  have h := h I7 eI7
  have hF := hF.pf eI7 (by decide)
  intro I8 eI8
  have h := h I8 eI8
  have hF := hF.pf eI8 (by decide)
  exact hQ _ _ hF hL h
abbrev wsI_X8_begin : List Nat := []
abbrev wsL_X8_begin : List Nat := []
abbrev fsI_X8_begin : List (Nat × Nat) := [(51, 2), (51, 3), (51, 5), (51, 4)]
abbrev fsL_X8_begin : List (Nat × Nat) := [(51, 6)]
set_option maxRecDepth 10000 in
theorem mnX8_begin {I : Ix} {L : Lx} {Q Q' : Ix → Lx → Prop} (hQ : ∀ (I1 : Ix) (L1 : Lx), FrI (wsI_X8_begin) (fsI_X8_begin) I I1 → FrL (wsL_X8_begin) (fsL_X8_begin) L L1 → Q I1 L1 → Q' I1 L1) (h : wpX8_begin I L Q) : wpX8_begin I L Q' := by
  have hF : FrI (wsI_X8_begin) (fsI_X8_begin) I I := FrI.rf
  have hL : FrL (wsL_X8_begin) (fsL_X8_begin) L L := FrL.rf
  unfold wpX8_begin at h ⊢
  intro I1 eI1
  have h := h I1 eI1
  have hF := hF.pf eI1 (by decide)
  refine mnX8_step (fun I2 L3 hf hl h => ?_) h
  have hF := hF.tr hf (by decide) (by decide)
  have hL := hL.tr hl (by decide) (by decide)
  exact hQ _ _ hF hL h
abbrev wsI_X3_readTape : List Nat := [30, 31, 29, 50, 43, 39, 40, 41, 42, 34, 35, 36, 45, 46, 47, 48]
abbrev wsL_X3_readTape : List Nat := [28, 38, 44]
abbrev fsI_X3_readTape : List (Nat × Nat) := [(49, 4), (49, 5), (49, 7), (49, 8), (27, 0), (51, 3), (51, 5), (51, 2), (51, 4), (27, 1), (26, 2), (26, 3), (33, 0), (33, 1), (26, 4), (26, 5)]
abbrev fsL_X3_readTape : List (Nat × Nat) := [(51, 6)]
set_option maxRecDepth 10000 in
theorem mnX3_readTape_b70 {I0 : Ix} {L0 : Lx} {Q Q' : Bool → Ix → Lx → Prop} (hQ : ∀ (r : Bool) (I1 : Ix) (L1 : Lx), FrI (wsI_X3_readTape) (fsI_X3_readTape) I0 I1 → FrL (wsL_X3_readTape) (fsL_X3_readTape) L0 L1 → Q r I1 L1 → Q' r I1 L1) {v1 : Int32} {I : Ix} {L : Lx} (hF : FrI (wsI_X3_readTape) (fsI_X3_readTape) I0 I) (hL : FrL (wsL_X3_readTape) (fsL_X3_readTape) L0 L) (h : wpX3_readTape_b70 Q v1 I L) : wpX3_readTape_b70 Q' v1 I L := by
  unfold wpX3_readTape_b70 at h ⊢
  refine ⟨fun hc => ?_, fun hc => ?_⟩
  · have h := h.1 hc
    obtain ⟨b, e, h⟩ := h
    exact ⟨b, e, hQ _ _ _ hF hL h⟩
  · have h := h.2 hc
    refine mnX1_measure_27 (fun I1 L2 hf hl h => ?_) h
    have hF := hF.tr hf (by decide) (by decide)
    have hL := hL.tr hl (by decide) (by decide)
    obtain ⟨b, e, h⟩ := h
    exact ⟨b, e, hQ _ _ _ hF hL h⟩
set_option maxRecDepth 10000 in
theorem mnX3_readTape_l38 {I0 : Ix} {L0 : Lx} {Q Q' : Bool → Ix → Lx → Prop} {P38 P38' : Int32 → Int32 → Ix → Lx → Prop} (hQ : ∀ (r : Bool) (I1 : Ix) (L1 : Lx), FrI (wsI_X3_readTape) (fsI_X3_readTape) I0 I1 → FrL (wsL_X3_readTape) (fsL_X3_readTape) L0 L1 → Q r I1 L1 → Q' r I1 L1) (hP38 : ∀ (v1 : Int32) (v2 : Int32) (I1 : Ix) (L1 : Lx), FrI (wsI_X3_readTape) (fsI_X3_readTape) I0 I1 → FrL (wsL_X3_readTape) (fsL_X3_readTape) L0 L1 → P38 v1 v2 I1 L1 → P38' v1 v2 I1 L1) {v1 : Int32} {v2 : Int32} {I : Ix} {L : Lx} (hF : FrI (wsI_X3_readTape) (fsI_X3_readTape) I0 I) (hL : FrL (wsL_X3_readTape) (fsL_X3_readTape) L0 L) (h : wpX3_readTape_l38 Q P38 v1 v2 I L) : wpX3_readTape_l38 Q' P38' v1 v2 I L := by
  unfold wpX3_readTape_l38 at h ⊢
  refine ⟨fun hc => ?_, fun hc => ?_⟩
  · have h := h.1 hc
    exact mnX3_readTape_b70 hQ hF hL h
  · have h := h.2 hc
    refine ⟨fun hc => ?_, fun hc => ?_⟩
    · have h := h.1 hc
      exact mnX3_readTape_b70 hQ hF hL h
    · have h := h.2 hc
      refine ⟨fun hc => ?_, fun hc => ?_⟩
      · have h := h.1 hc
        exact mnX3_readTape_b70 hQ hF hL h
      · have h := h.2 hc
        refine mnX3_line (fun r3 I1 L2 hf hl h => ?_) h
        have hF := hF.tr hf (by decide) (by decide)
        have hL := hL.tr hl (by decide) (by decide)
        exact hP38 _ _ _ _ hF hL h
set_option maxRecDepth 10000 in
theorem mnX3_readTape_h38 {I0 : Ix} {L0 : Lx} {Q Q' : Bool → Ix → Lx → Prop} (hQ : ∀ (r : Bool) (I1 : Ix) (L1 : Lx), FrI (wsI_X3_readTape) (fsI_X3_readTape) I0 I1 → FrL (wsL_X3_readTape) (fsL_X3_readTape) L0 L1 → Q r I1 L1 → Q' r I1 L1) {v1 : Int32} {v2 : Int32} {I : Ix} {L : Lx} (hF : FrI (wsI_X3_readTape) (fsI_X3_readTape) I0 I) (hL : FrL (wsL_X3_readTape) (fsL_X3_readTape) L0 L) (h : wpX3_readTape_h38 Q v1 v2 I L) : wpX3_readTape_h38 Q' v1 v2 I L := by
  unfold wpX3_readTape_h38 at h
  refine Lfp.ind (P := fun z => FrI (wsI_X3_readTape) (fsI_X3_readTape) I0 z.2.2.1 → FrL (wsL_X3_readTape) (fsL_X3_readTape) L0 z.2.2.2 → wpX3_readTape_h38 Q' z.1 z.2.1 z.2.2.1 z.2.2.2) ?_ h hF hL
  intro z P' hP' h hF hL
  obtain ⟨v1, v2, I, L⟩ := z
  exact wpX3_readTape_h38_fold (mnX3_readTape_l38 hQ (fun v1 v2 I L hF hL h9 => hP' (v1, v2, I, L) h9 hF hL) hF hL h)
set_option maxRecDepth 10000 in
theorem mnX3_readTape {I : Ix} {L : Lx} {Q Q' : Bool → Ix → Lx → Prop} (hQ : ∀ (r : Bool) (I1 : Ix) (L1 : Lx), FrI (wsI_X3_readTape) (fsI_X3_readTape) I I1 → FrL (wsL_X3_readTape) (fsL_X3_readTape) L L1 → Q r I1 L1 → Q' r I1 L1) (h : wpX3_readTape I L Q) : wpX3_readTape I L Q' := by
  have hF : FrI (wsI_X3_readTape) (fsI_X3_readTape) I I := FrI.rf
  have hL : FrL (wsL_X3_readTape) (fsL_X3_readTape) L L := FrL.rf
  unfold wpX3_readTape at h ⊢
  refine mnX10_clear_26 (fun I1 L2 hf hl h => ?_) h
  have hF := hF.tr hf (by decide) (by decide)
  have hL := hL.tr hl (by decide) (by decide)
  intro I3 eI3
  have h := h I3 eI3
  have hF := hF.pf eI3 (by decide)
  intro I4 eI4
  have h := h I4 eI4
  have hF := hF.pf eI4 (by decide)
  intro I5 eI5
  have h := h I5 eI5
  have hF := hF.pf eI5 (by decide)
  intro I6 eI6
  have h := h I6 eI6
  have hF := hF.pf eI6 (by decide)
  refine mnX8_begin (fun I7 L8 hf hl h => ?_) h
  have hF := hF.tr hf (by decide) (by decide)
  have hL := hL.tr hl (by decide) (by decide)
  exact mnX3_readTape_h38 hQ hF hL h
abbrev wsI_X1_copyFrom_4 : List Nat := [6, 7, 8]
abbrev wsL_X1_copyFrom_4 : List Nat := []
abbrev fsI_X1_copyFrom_4 : List (Nat × Nat) := [(4, 0), (4, 1)]
abbrev fsL_X1_copyFrom_4 : List (Nat × Nat) := []
set_option maxRecDepth 10000 in
theorem mnX1_copyFrom_4 {I : Ix} {L : Lx} {Q Q' : Ix → Lx → Prop} (hQ : ∀ (I1 : Ix) (L1 : Lx), FrI (wsI_X1_copyFrom_4) (fsI_X1_copyFrom_4) I I1 → FrL (wsL_X1_copyFrom_4) (fsL_X1_copyFrom_4) L L1 → Q I1 L1 → Q' I1 L1) (h : wpX1_copyFrom_4 I L Q) : wpX1_copyFrom_4 I L Q' := by
  have hF : FrI (wsI_X1_copyFrom_4) (fsI_X1_copyFrom_4) I I := FrI.rf
  have hL : FrL (wsL_X1_copyFrom_4) (fsL_X1_copyFrom_4) L L := FrL.rf
  unfold wpX1_copyFrom_4 at h ⊢
  intro I1 eI1
  have h := h I1 eI1
  have hF := hF.pf eI1 (by decide)
  intro I2 eI2
  have h := h I2 eI2
  have hF := hF.pf eI2 (by decide)
  intro I3 eI3
  have h := h I3 eI3
  have hF := hF.up eI3 (by decide)
  intro I4 eI4
  have h := h I4 eI4
  have hF := hF.up eI4 (by decide)
  intro I5 eI5
  have h := h I5 eI5
  have hF := hF.up eI5 (by decide)
  exact hQ _ _ hF hL h
abbrev wsI_X4_copyFrom_10 : List Nat := [11, 12, 13]
abbrev wsL_X4_copyFrom_10 : List Nat := []
abbrev fsI_X4_copyFrom_10 : List (Nat × Nat) := [(10, 0)]
abbrev fsL_X4_copyFrom_10 : List (Nat × Nat) := []
set_option maxRecDepth 10000 in
theorem mnX4_copyFrom_10 {I : Ix} {L : Lx} {Q Q' : Ix → Lx → Prop} (hQ : ∀ (I1 : Ix) (L1 : Lx), FrI (wsI_X4_copyFrom_10) (fsI_X4_copyFrom_10) I I1 → FrL (wsL_X4_copyFrom_10) (fsL_X4_copyFrom_10) L L1 → Q I1 L1 → Q' I1 L1) (h : wpX4_copyFrom_10 I L Q) : wpX4_copyFrom_10 I L Q' := by
  have hF : FrI (wsI_X4_copyFrom_10) (fsI_X4_copyFrom_10) I I := FrI.rf
  have hL : FrL (wsL_X4_copyFrom_10) (fsL_X4_copyFrom_10) L L := FrL.rf
  unfold wpX4_copyFrom_10 at h ⊢
  intro I1 eI1
  have h := h I1 eI1
  have hF := hF.pf eI1 (by decide)
  intro I2 eI2
  have h := h I2 eI2
  have hF := hF.up eI2 (by decide)
  intro I3 eI3
  have h := h I3 eI3
  have hF := hF.up eI3 (by decide)
  intro I4 eI4
  have h := h I4 eI4
  have hF := hF.up eI4 (by decide)
  exact hQ _ _ hF hL h
abbrev wsI_X10_copyFrom_3 : List Nat := [22, 23, 24, 25, 20, 16, 17, 18, 19, 6, 7, 8, 11, 12, 13]
abbrev wsL_X10_copyFrom_3 : List Nat := []
abbrev fsI_X10_copyFrom_3 : List (Nat × Nat) := [(3, 2), (3, 3), (3, 4), (3, 5), (4, 0), (4, 1), (10, 0)]
abbrev fsL_X10_copyFrom_3 : List (Nat × Nat) := []
set_option maxRecDepth 10000 in
theorem mnX10_copyFrom_3_l116 {I0 : Ix} {L0 : Lx} {Q Q' : Ix → Lx → Prop} {P116 P116' : Int32 → Ix → Lx → Prop} (hQ : ∀ (I1 : Ix) (L1 : Lx), FrI (wsI_X10_copyFrom_3) (fsI_X10_copyFrom_3) I0 I1 → FrL (wsL_X10_copyFrom_3) (fsL_X10_copyFrom_3) L0 L1 → Q I1 L1 → Q' I1 L1) (hP116 : ∀ (v2 : Int32) (I1 : Ix) (L1 : Lx), FrI (wsI_X10_copyFrom_3) (fsI_X10_copyFrom_3) I0 I1 → FrL (wsL_X10_copyFrom_3) (fsL_X10_copyFrom_3) L0 L1 → P116 v2 I1 L1 → P116' v2 I1 L1) {v2 : Int32} {I : Ix} {L : Lx} (hF : FrI (wsI_X10_copyFrom_3) (fsI_X10_copyFrom_3) I0 I) (hL : FrL (wsL_X10_copyFrom_3) (fsL_X10_copyFrom_3) L0 L) (h : wpX10_copyFrom_3_l116 Q P116 v2 I L) : wpX10_copyFrom_3_l116 Q' P116' v2 I L := by
  unfold wpX10_copyFrom_3_l116 at h ⊢
  refine ⟨fun hc => ?_, fun hc => ?_⟩
  · have h := h.1 hc
    intro I1 eI1
    have h := h I1 eI1
    have hF := hF.up eI1 (by decide)
    intro I2 eI2
    have h := h I2 eI2
    have hF := hF.up eI2 (by decide)
    intro I3 eI3
    have h := h I3 eI3
    have hF := hF.up eI3 (by decide)
    intro I4 eI4
    have h := h I4 eI4
    have hF := hF.up eI4 (by decide)
    exact hQ _ _ hF hL h
  · have h := h.2 hc
    refine ⟨h.1, ?_⟩
    have h := h.2
    refine ⟨h.1, ?_⟩
    have h := h.2
    intro I5 eI5
    have h := h I5 eI5
    have hF := hF.pw eI5 (by decide)
    exact hP116 _ _ _ hF hL h
set_option maxRecDepth 10000 in
theorem mnX10_copyFrom_3_h116 {I0 : Ix} {L0 : Lx} {Q Q' : Ix → Lx → Prop} (hQ : ∀ (I1 : Ix) (L1 : Lx), FrI (wsI_X10_copyFrom_3) (fsI_X10_copyFrom_3) I0 I1 → FrL (wsL_X10_copyFrom_3) (fsL_X10_copyFrom_3) L0 L1 → Q I1 L1 → Q' I1 L1) {v2 : Int32} {I : Ix} {L : Lx} (hF : FrI (wsI_X10_copyFrom_3) (fsI_X10_copyFrom_3) I0 I) (hL : FrL (wsL_X10_copyFrom_3) (fsL_X10_copyFrom_3) L0 L) (h : wpX10_copyFrom_3_h116 Q v2 I L) : wpX10_copyFrom_3_h116 Q' v2 I L := by
  unfold wpX10_copyFrom_3_h116 at h
  refine Lfp.ind (P := fun z => FrI (wsI_X10_copyFrom_3) (fsI_X10_copyFrom_3) I0 z.2.1 → FrL (wsL_X10_copyFrom_3) (fsL_X10_copyFrom_3) L0 z.2.2 → wpX10_copyFrom_3_h116 Q' z.1 z.2.1 z.2.2) ?_ h hF hL
  intro z P' hP' h hF hL
  obtain ⟨v2, I, L⟩ := z
  exact wpX10_copyFrom_3_h116_fold (mnX10_copyFrom_3_l116 hQ (fun v2 I L hF hL h9 => hP' (v2, I, L) h9 hF hL) hF hL h)
set_option maxRecDepth 10000 in
theorem mnX10_copyFrom_3 {I : Ix} {L : Lx} {Q Q' : Ix → Lx → Prop} (hQ : ∀ (I1 : Ix) (L1 : Lx), FrI (wsI_X10_copyFrom_3) (fsI_X10_copyFrom_3) I I1 → FrL (wsL_X10_copyFrom_3) (fsL_X10_copyFrom_3) L L1 → Q I1 L1 → Q' I1 L1) (h : wpX10_copyFrom_3 I L Q) : wpX10_copyFrom_3 I L Q' := by
  have hF : FrI (wsI_X10_copyFrom_3) (fsI_X10_copyFrom_3) I I := FrI.rf
  have hL : FrL (wsL_X10_copyFrom_3) (fsL_X10_copyFrom_3) L L := FrL.rf
  unfold wpX10_copyFrom_3 at h ⊢
  refine mnX1_copyFrom_4 (fun I1 L2 hf hl h => ?_) h
  have hF := hF.tr hf (by decide) (by decide)
  have hL := hL.tr hl (by decide) (by decide)
  refine mnX4_copyFrom_10 (fun I3 L4 hf hl h => ?_) h
  have hF := hF.tr hf (by decide) (by decide)
  have hL := hL.tr hl (by decide) (by decide)
  intro I5 eI5
  have h := h I5 eI5
  have hF := hF.pf eI5 (by decide)
  intro I6 eI6
  have h := h I6 eI6
  have hF := hF.pf eI6 (by decide)
  intro I7 eI7
  have h := h I7 eI7
  have hF := hF.pf eI7 (by decide)
  intro I8 eI8
  have h := h I8 eI8
  have hF := hF.pf eI8 (by decide)
  intro I9 eI9
  have h := h I9 eI9
  have hF := hF.up eI9 (by decide)
  intro I10 eI10
  have h := h I10 eI10
  have hF := hF.up eI10 (by decide)
  intro I11 eI11
  have h := h I11 eI11
  have hF := hF.up eI11 (by decide)
  intro I12 eI12
  have h := h I12 eI12
  have hF := hF.up eI12 (by decide)
  exact mnX10_copyFrom_3_h116 hQ hF hL h
abbrev wsI_X2_beginIn (o0 : Nat) : List Nat := [o0 + 6, o0 + 7, o0 + 1, o0 + 2, o0 + 3, o0 + 4, o0 + 5]
abbrev wsL_X2_beginIn (o0 : Nat) : List Nat := []
abbrev fsI_X2_beginIn (o0 : Nat) : List (Nat × Nat) := [(o0, 0), (o0, 1)]
abbrev fsL_X2_beginIn (o0 : Nat) : List (Nat × Nat) := []
set_option maxRecDepth 10000 in
theorem mnX2_beginIn_l67 {o0 : Nat} {I0 : Ix} {L0 : Lx} {Q Q' : Ix → Lx → Prop} {P67 P67' : Int32 → Ix → Lx → Prop} (hQ : ∀ (I1 : Ix) (L1 : Lx), FrI (wsI_X2_beginIn o0) (fsI_X2_beginIn o0) I0 I1 → FrL (wsL_X2_beginIn o0) (fsL_X2_beginIn o0) L0 L1 → Q I1 L1 → Q' I1 L1) (hP67 : ∀ (v2 : Int32) (I1 : Ix) (L1 : Lx), FrI (wsI_X2_beginIn o0) (fsI_X2_beginIn o0) I0 I1 → FrL (wsL_X2_beginIn o0) (fsL_X2_beginIn o0) L0 L1 → P67 v2 I1 L1 → P67' v2 I1 L1) {v2 : Int32} {I : Ix} {L : Lx} (hF : FrI (wsI_X2_beginIn o0) (fsI_X2_beginIn o0) I0 I) (hL : FrL (wsL_X2_beginIn o0) (fsL_X2_beginIn o0) L0 L) (h : wpX2_beginIn_l67 o0 Q P67 v2 I L) : wpX2_beginIn_l67 o0 Q' P67' v2 I L := by
  unfold wpX2_beginIn_l67 at h ⊢
  refine ⟨fun hc => ?_, fun hc => ?_⟩
  · have h := h.1 hc
    exact hQ _ _ hF hL h
  · have h := h.2 hc
    refine ⟨h.1, ?_⟩
    have h := h.2
    refine ⟨h.1, ?_⟩
    have h := h.2
    intro I1 eI1
    have h := h I1 eI1
    have hF := hF.pw eI1 (by simp)
    refine ⟨h.1, ?_⟩
    have h := h.2
    intro I2 eI2
    have h := h I2 eI2
    have hF := hF.pw eI2 (by simp)
    exact hP67 _ _ _ hF hL h
set_option maxRecDepth 10000 in
theorem mnX2_beginIn_h67 {o0 : Nat} {I0 : Ix} {L0 : Lx} {Q Q' : Ix → Lx → Prop} (hQ : ∀ (I1 : Ix) (L1 : Lx), FrI (wsI_X2_beginIn o0) (fsI_X2_beginIn o0) I0 I1 → FrL (wsL_X2_beginIn o0) (fsL_X2_beginIn o0) L0 L1 → Q I1 L1 → Q' I1 L1) {v2 : Int32} {I : Ix} {L : Lx} (hF : FrI (wsI_X2_beginIn o0) (fsI_X2_beginIn o0) I0 I) (hL : FrL (wsL_X2_beginIn o0) (fsL_X2_beginIn o0) L0 L) (h : wpX2_beginIn_h67 o0 Q v2 I L) : wpX2_beginIn_h67 o0 Q' v2 I L := by
  unfold wpX2_beginIn_h67 at h
  refine Lfp.ind (P := fun z => FrI (wsI_X2_beginIn o0) (fsI_X2_beginIn o0) I0 z.2.1 → FrL (wsL_X2_beginIn o0) (fsL_X2_beginIn o0) L0 z.2.2 → wpX2_beginIn_h67 o0 Q' z.1 z.2.1 z.2.2) ?_ h hF hL
  intro z P' hP' h hF hL
  obtain ⟨v2, I, L⟩ := z
  exact wpX2_beginIn_h67_fold (mnX2_beginIn_l67 hQ (fun v2 I L hF hL h9 => hP' (v2, I, L) h9 hF hL) hF hL h)
set_option maxRecDepth 10000 in
theorem mnX2_beginIn_l12 {o0 : Nat} {I0 : Ix} {L0 : Lx} {Q Q' : Ix → Lx → Prop} {P12 P12' : Int32 → Ix → Lx → Prop} (hQ : ∀ (I1 : Ix) (L1 : Lx), FrI (wsI_X2_beginIn o0) (fsI_X2_beginIn o0) I0 I1 → FrL (wsL_X2_beginIn o0) (fsL_X2_beginIn o0) L0 L1 → Q I1 L1 → Q' I1 L1) (hP12 : ∀ (v2 : Int32) (I1 : Ix) (L1 : Lx), FrI (wsI_X2_beginIn o0) (fsI_X2_beginIn o0) I0 I1 → FrL (wsL_X2_beginIn o0) (fsL_X2_beginIn o0) L0 L1 → P12 v2 I1 L1 → P12' v2 I1 L1) {v2 : Int32} {I : Ix} {L : Lx} (hF : FrI (wsI_X2_beginIn o0) (fsI_X2_beginIn o0) I0 I) (hL : FrL (wsL_X2_beginIn o0) (fsL_X2_beginIn o0) L0 L) (h : wpX2_beginIn_l12 o0 Q P12 v2 I L) : wpX2_beginIn_l12 o0 Q' P12' v2 I L := by
  unfold wpX2_beginIn_l12 at h ⊢
  refine ⟨fun hc => ?_, fun hc => ?_⟩
  · have h := h.1 hc
    exact mnX2_beginIn_h67 hQ hF hL h
  · have h := h.2 hc
    refine ⟨h.1, ?_⟩
    have h := h.2
    intro I1 eI1
    have h := h I1 eI1
    have hF := hF.pw eI1 (by simp)
    refine ⟨h.1, ?_⟩
    have h := h.2
    intro I2 eI2
    have h := h I2 eI2
    have hF := hF.pw eI2 (by simp)
    refine ⟨h.1, ?_⟩
    have h := h.2
    intro I3 eI3
    have h := h I3 eI3
    have hF := hF.pw eI3 (by simp)
    refine ⟨h.1, ?_⟩
    have h := h.2
    refine ⟨h.1, ?_⟩
    have h := h.2
    intro I4 eI4
    have h := h I4 eI4
    have hF := hF.pw eI4 (by simp)
    refine ⟨h.1, ?_⟩
    have h := h.2
    intro I5 eI5
    have h := h I5 eI5
    have hF := hF.pw eI5 (by simp)
    exact hP12 _ _ _ hF hL h
set_option maxRecDepth 10000 in
theorem mnX2_beginIn_h12 {o0 : Nat} {I0 : Ix} {L0 : Lx} {Q Q' : Ix → Lx → Prop} (hQ : ∀ (I1 : Ix) (L1 : Lx), FrI (wsI_X2_beginIn o0) (fsI_X2_beginIn o0) I0 I1 → FrL (wsL_X2_beginIn o0) (fsL_X2_beginIn o0) L0 L1 → Q I1 L1 → Q' I1 L1) {v2 : Int32} {I : Ix} {L : Lx} (hF : FrI (wsI_X2_beginIn o0) (fsI_X2_beginIn o0) I0 I) (hL : FrL (wsL_X2_beginIn o0) (fsL_X2_beginIn o0) L0 L) (h : wpX2_beginIn_h12 o0 Q v2 I L) : wpX2_beginIn_h12 o0 Q' v2 I L := by
  unfold wpX2_beginIn_h12 at h
  refine Lfp.ind (P := fun z => FrI (wsI_X2_beginIn o0) (fsI_X2_beginIn o0) I0 z.2.1 → FrL (wsL_X2_beginIn o0) (fsL_X2_beginIn o0) L0 z.2.2 → wpX2_beginIn_h12 o0 Q' z.1 z.2.1 z.2.2) ?_ h hF hL
  intro z P' hP' h hF hL
  obtain ⟨v2, I, L⟩ := z
  exact wpX2_beginIn_h12_fold (mnX2_beginIn_l12 hQ (fun v2 I L hF hL h9 => hP' (v2, I, L) h9 hF hL) hF hL h)
set_option maxRecDepth 10000 in
theorem mnX2_beginIn {o0 : Nat} {I : Ix} {L : Lx} {Q Q' : Ix → Lx → Prop} (hQ : ∀ (I1 : Ix) (L1 : Lx), FrI (wsI_X2_beginIn o0) (fsI_X2_beginIn o0) I I1 → FrL (wsL_X2_beginIn o0) (fsL_X2_beginIn o0) L L1 → Q I1 L1 → Q' I1 L1) (h : wpX2_beginIn o0 I L Q) : wpX2_beginIn o0 I L Q' := by
  have hF : FrI (wsI_X2_beginIn o0) (fsI_X2_beginIn o0) I I := FrI.rf
  have hL : FrL (wsL_X2_beginIn o0) (fsL_X2_beginIn o0) L L := FrL.rf
  unfold wpX2_beginIn at h ⊢
  intro I1 eI1
  have h := h I1 eI1
  have hF := hF.pf eI1 (by simp)
  intro I2 eI2
  have h := h I2 eI2
  have hF := hF.pf eI2 (by simp)
  exact mnX2_beginIn_h12 hQ hF hL h
abbrev wsI_X11_valley : List Nat := [92, 30, 31, 29, 50, 43, 39, 40, 41, 42, 34, 35, 36, 45, 46, 47, 48, 22, 23, 24, 25, 20, 16, 17, 18, 19, 6, 7, 8, 11, 12, 13, 59, 60, 54, 55, 56, 57, 58]
abbrev wsL_X11_valley : List Nat := [28, 38, 44]
abbrev fsI_X11_valley : List (Nat × Nat) := [(1, 1), (85, 0), (49, 4), (49, 5), (49, 7), (49, 8), (27, 0), (51, 3), (51, 5), (51, 2), (51, 4), (27, 1), (26, 2), (26, 3), (33, 0), (33, 1), (26, 4), (26, 5), (3, 2), (3, 3), (3, 4), (3, 5), (4, 0), (4, 1), (10, 0), (53, 0), (53, 1)]
abbrev fsL_X11_valley : List (Nat × Nat) := [(51, 6)]
set_option maxRecDepth 10000 in
theorem mnX11_valley_l54 {I0 : Ix} {L0 : Lx} {Q Q' : Int32 → Ix → Lx → Prop} {P54 P54' : Int32 → Ix → Lx → Prop} (hQ : ∀ (r : Int32) (I1 : Ix) (L1 : Lx), FrI (wsI_X11_valley) (fsI_X11_valley) I0 I1 → FrL (wsL_X11_valley) (fsL_X11_valley) L0 L1 → Q r I1 L1 → Q' r I1 L1) (hP54 : ∀ (v2 : Int32) (I1 : Ix) (L1 : Lx), FrI (wsI_X11_valley) (fsI_X11_valley) I0 I1 → FrL (wsL_X11_valley) (fsL_X11_valley) L0 L1 → P54 v2 I1 L1 → P54' v2 I1 L1) {v2 : Int32} {I : Ix} {L : Lx} (hF : FrI (wsI_X11_valley) (fsI_X11_valley) I0 I) (hL : FrL (wsL_X11_valley) (fsL_X11_valley) L0 L) (h : wpX11_valley_l54 Q P54 v2 I L) : wpX11_valley_l54 Q' P54' v2 I L := by
  unfold wpX11_valley_l54 at h ⊢
  refine ⟨fun hc => ?_, fun hc => ?_⟩
  · have h := h.1 hc
    exact hQ _ _ _ hF hL h
  · have h := h.2 hc
    refine ⟨h.1, ?_⟩
    have h := h.2
    intro I1 eI1
    have h := h I1 eI1
    have hF := hF.pw eI1 (by decide)
    exact hP54 _ _ _ hF hL h
set_option maxRecDepth 10000 in
theorem mnX11_valley_h54 {I0 : Ix} {L0 : Lx} {Q Q' : Int32 → Ix → Lx → Prop} (hQ : ∀ (r : Int32) (I1 : Ix) (L1 : Lx), FrI (wsI_X11_valley) (fsI_X11_valley) I0 I1 → FrL (wsL_X11_valley) (fsL_X11_valley) L0 L1 → Q r I1 L1 → Q' r I1 L1) {v2 : Int32} {I : Ix} {L : Lx} (hF : FrI (wsI_X11_valley) (fsI_X11_valley) I0 I) (hL : FrL (wsL_X11_valley) (fsL_X11_valley) L0 L) (h : wpX11_valley_h54 Q v2 I L) : wpX11_valley_h54 Q' v2 I L := by
  unfold wpX11_valley_h54 at h
  refine Lfp.ind (P := fun z => FrI (wsI_X11_valley) (fsI_X11_valley) I0 z.2.1 → FrL (wsL_X11_valley) (fsL_X11_valley) L0 z.2.2 → wpX11_valley_h54 Q' z.1 z.2.1 z.2.2) ?_ h hF hL
  intro z P' hP' h hF hL
  obtain ⟨v2, I, L⟩ := z
  exact wpX11_valley_h54_fold (mnX11_valley_l54 hQ (fun v2 I L hF hL h9 => hP' (v2, I, L) h9 hF hL) hF hL h)
set_option maxRecDepth 10000 in
theorem mnX11_valley {I : Ix} {L : Lx} {Q Q' : Int32 → Ix → Lx → Prop} (hQ : ∀ (r : Int32) (I1 : Ix) (L1 : Lx), FrI (wsI_X11_valley) (fsI_X11_valley) I I1 → FrL (wsL_X11_valley) (fsL_X11_valley) L L1 → Q r I1 L1 → Q' r I1 L1) (h : wpX11_valley I L Q) : wpX11_valley I L Q' := by
  have hF : FrI (wsI_X11_valley) (fsI_X11_valley) I I := FrI.rf
  have hL : FrL (wsL_X11_valley) (fsL_X11_valley) L L := FrL.rf
  unfold wpX11_valley at h ⊢
  refine mnX3_readTape (fun r3 I1 L2 hf hl h => ?_) h
  have hF := hF.tr hf (by decide) (by decide)
  have hL := hL.tr hl (by decide) (by decide)
  intro I4 eI4
  have h := h I4 eI4
  have hF := hF.pf eI4 (by decide)
  refine ⟨fun hc => ?_, fun hc => ?_⟩
  · have h := h.1 hc
    refine mnX10_copyFrom_3 (fun I5 L6 hf hl h => ?_) h
    have hF := hF.tr hf (by decide) (by decide)
    have hL := hL.tr hl (by decide) (by decide)
    refine mnX2_beginIn (fun I7 L8 hf hl h => ?_) h
    have hF := hF.tr hf (by decide) (by decide)
    have hL := hL.tr hl (by decide) (by decide)
    intro I9 eI9
    have h := h I9 eI9
    have hF := hF.pf eI9 (by decide)
    exact mnX11_valley_h54 hQ hF hL h
  · have h := h.2 hc
    exact hQ _ _ _ hF hL h
abbrev wsI_X11_fault : List Nat := []
abbrev wsL_X11_fault : List Nat := []
abbrev fsI_X11_fault : List (Nat × Nat) := []
abbrev fsL_X11_fault : List (Nat × Nat) := []
set_option maxRecDepth 10000 in
theorem mnX11_fault {a1 : Int32} {I : Ix} {L : Lx} {Q Q' : Int32 → Ix → Lx → Prop} (hQ : ∀ (r : Int32) (I1 : Ix) (L1 : Lx), FrI (wsI_X11_fault) (fsI_X11_fault) I I1 → FrL (wsL_X11_fault) (fsL_X11_fault) L L1 → Q r I1 L1 → Q' r I1 L1) (h : wpX11_fault a1 I L Q) : wpX11_fault a1 I L Q' := by
  have hF : FrI (wsI_X11_fault) (fsI_X11_fault) I I := FrI.rf
  have hL : FrL (wsL_X11_fault) (fsL_X11_fault) L L := FrL.rf
  unfold wpX11_fault at h ⊢
  refine ⟨fun hc => ?_, fun hc => ?_, ?_⟩
  · have h := h.1 hc
    exact hQ _ _ _ hF hL h
  · have h := h.2.1 hc
    exact hQ _ _ _ hF hL h
  · intro e0 e1
    have h := h.2.2 e0 e1
    exact hQ _ _ _ hF hL h
abbrev wsI_X0_stoodAt : List Nat := []
abbrev wsL_X0_stoodAt : List Nat := []
abbrev fsI_X0_stoodAt : List (Nat × Nat) := []
abbrev fsL_X0_stoodAt : List (Nat × Nat) := []
set_option maxRecDepth 10000 in
theorem mnX0_stoodAt {a1 : Int32} {a2 : Int32} {I : Ix} {L : Lx} {Q Q' : Bool → Ix → Lx → Prop} (hQ : ∀ (r : Bool) (I1 : Ix) (L1 : Lx), FrI (wsI_X0_stoodAt) (fsI_X0_stoodAt) I I1 → FrL (wsL_X0_stoodAt) (fsL_X0_stoodAt) L L1 → Q r I1 L1 → Q' r I1 L1) (h : wpX0_stoodAt a1 a2 I L Q) : wpX0_stoodAt a1 a2 I L Q' := by
  have hF : FrI (wsI_X0_stoodAt) (fsI_X0_stoodAt) I I := FrI.rf
  have hL : FrL (wsL_X0_stoodAt) (fsL_X0_stoodAt) L L := FrL.rf
  unfold wpX0_stoodAt at h ⊢
  refine ⟨h.1, ?_⟩
  have h := h.2
  refine ⟨fun hc => ?_, fun hc => ?_⟩
  · have h := h.1 hc
    exact hQ _ _ _ hF hL h
  · have h := h.2 hc
    refine ⟨h.1, ?_⟩
    have h := h.2
    refine ⟨fun hc => ?_, fun hc => ?_⟩
    · have h := h.1 hc
      exact hQ _ _ _ hF hL h
    · have h := h.2 hc
      exact hQ _ _ _ hF hL h
abbrev wsI_X1_minutes_4 : List Nat := []
abbrev wsL_X1_minutes_4 : List Nat := []
abbrev fsI_X1_minutes_4 : List (Nat × Nat) := []
abbrev fsL_X1_minutes_4 : List (Nat × Nat) := []
set_option maxRecDepth 10000 in
theorem mnX1_minutes_4 {a1 : Int32} {a2 : Int32} {I : Ix} {L : Lx} {Q Q' : Int32 → Ix → Lx → Prop} (hQ : ∀ (r : Int32) (I1 : Ix) (L1 : Lx), FrI (wsI_X1_minutes_4) (fsI_X1_minutes_4) I I1 → FrL (wsL_X1_minutes_4) (fsL_X1_minutes_4) L L1 → Q r I1 L1 → Q' r I1 L1) (h : wpX1_minutes_4 a1 a2 I L Q) : wpX1_minutes_4 a1 a2 I L Q' := by
  have hF : FrI (wsI_X1_minutes_4) (fsI_X1_minutes_4) I I := FrI.rf
  have hL : FrL (wsL_X1_minutes_4) (fsL_X1_minutes_4) L L := FrL.rf
  unfold wpX1_minutes_4 at h ⊢
  refine ⟨h.1, ?_⟩
  have h := h.2
  exact hQ _ _ _ hF hL h
abbrev wsI_X0_isInTime (o1 : Nat) : List Nat := []
abbrev wsL_X0_isInTime (o1 : Nat) : List Nat := []
abbrev fsI_X0_isInTime (o1 : Nat) : List (Nat × Nat) := []
abbrev fsL_X0_isInTime (o1 : Nat) : List (Nat × Nat) := []
set_option maxRecDepth 10000 in
theorem mnX0_isInTime {o1 : Nat} {a2 : Int32} {a3 : Int32} {a4 : Int32} {I : Ix} {L : Lx} {Q Q' : Bool → Ix → Lx → Prop} (hQ : ∀ (r : Bool) (I1 : Ix) (L1 : Lx), FrI (wsI_X0_isInTime o1) (fsI_X0_isInTime o1) I I1 → FrL (wsL_X0_isInTime o1) (fsL_X0_isInTime o1) L L1 → Q r I1 L1 → Q' r I1 L1) (h : wpX0_isInTime o1 a2 a3 a4 I L Q) : wpX0_isInTime o1 a2 a3 a4 I L Q' := by
  have hF : FrI (wsI_X0_isInTime o1) (fsI_X0_isInTime o1) I I := FrI.rf
  have hL : FrL (wsL_X0_isInTime o1) (fsL_X0_isInTime o1) L L := FrL.rf
  unfold wpX0_isInTime at h ⊢
  refine ⟨h.1, ?_⟩
  have h := h.2
  refine ⟨h.1, ?_⟩
  have h := h.2
  refine ⟨fun hc => ?_, fun hc => ?_⟩
  · have h := h.1 hc
    exact hQ _ _ _ hF hL h
  · have h := h.2 hc
    refine ⟨h.1, ?_⟩
    have h := h.2
    refine mnX1_minutes_4 (fun r3 I1 L2 hf hl h => ?_) h
    have hF := hF.tr hf (by intro k hk; first | (simp only [List.mem_cons, List.not_mem_nil, or_false] at hk ⊢; omega) | (simp at hk; done) | (simp at hk ⊢; omega)) (by intro q hq; obtain ⟨k, j⟩ := q; first | (simp only [List.mem_cons, List.not_mem_nil, or_false, Prod.mk.injEq] at hq ⊢; omega) | (simp at hq; done))
    have hL := hL.tr hl (by intro k hk; first | (simp only [List.mem_cons, List.not_mem_nil, or_false] at hk ⊢; omega) | (simp at hk; done) | (simp at hk ⊢; omega)) (by intro q hq; obtain ⟨k, j⟩ := q; first | (simp only [List.mem_cons, List.not_mem_nil, or_false, Prod.mk.injEq] at hq ⊢; omega) | (simp at hq; done))
    refine ⟨fun hc => ?_, fun hc => ?_⟩
    · have h := h.1 hc
      exact hQ _ _ _ hF hL h
    · have h := h.2 hc
      exact hQ _ _ _ hF hL h
abbrev wsI_X4_value_10 : List Nat := [14]
abbrev wsL_X4_value_10 : List Nat := []
abbrev fsI_X4_value_10 : List (Nat × Nat) := []
abbrev fsL_X4_value_10 : List (Nat × Nat) := []
set_option maxRecDepth 10000 in
theorem mnX4_value_10_b330 {I0 : Ix} {L0 : Lx} {Q Q' : Int32 → Ix → Lx → Prop} {P10 P10' : Int32 → Int32 → Int32 → Ix → Lx → Prop} (hQ : ∀ (r : Int32) (I1 : Ix) (L1 : Lx), FrI (wsI_X4_value_10) (fsI_X4_value_10) I0 I1 → FrL (wsL_X4_value_10) (fsL_X4_value_10) L0 L1 → Q r I1 L1 → Q' r I1 L1) (hP10 : ∀ (v1 : Int32) (v3 : Int32) (v4 : Int32) (I1 : Ix) (L1 : Lx), FrI (wsI_X4_value_10) (fsI_X4_value_10) I0 I1 → FrL (wsL_X4_value_10) (fsL_X4_value_10) L0 L1 → P10 v1 v3 v4 I1 L1 → P10' v1 v3 v4 I1 L1) {v1 : Int32} {v3 : Int32} {v4 : Int32} {v6 : Int32} {I : Ix} {L : Lx} (hF : FrI (wsI_X4_value_10) (fsI_X4_value_10) I0 I) (hL : FrL (wsL_X4_value_10) (fsL_X4_value_10) L0 L) (h : wpX4_value_10_b330 Q P10 v1 v3 v4 v6 I L) : wpX4_value_10_b330 Q' P10' v1 v3 v4 v6 I L := by
  unfold wpX4_value_10_b330 at h ⊢
  refine ⟨h.1, ?_⟩
  have h := h.2
  intro I1 eI1
  have h := h I1 eI1
  have hF := hF.pw eI1 (by decide)
  exact hP10 _ _ _ _ _ hF hL h
set_option maxRecDepth 10000 in
theorem mnX4_value_10_b328 {I0 : Ix} {L0 : Lx} {Q Q' : Int32 → Ix → Lx → Prop} {P10 P10' : Int32 → Int32 → Int32 → Ix → Lx → Prop} (hQ : ∀ (r : Int32) (I1 : Ix) (L1 : Lx), FrI (wsI_X4_value_10) (fsI_X4_value_10) I0 I1 → FrL (wsL_X4_value_10) (fsL_X4_value_10) L0 L1 → Q r I1 L1 → Q' r I1 L1) (hP10 : ∀ (v1 : Int32) (v3 : Int32) (v4 : Int32) (I1 : Ix) (L1 : Lx), FrI (wsI_X4_value_10) (fsI_X4_value_10) I0 I1 → FrL (wsL_X4_value_10) (fsL_X4_value_10) L0 L1 → P10 v1 v3 v4 I1 L1 → P10' v1 v3 v4 I1 L1) {v1 : Int32} {v3 : Int32} {v4 : Int32} {t0 : Int32} {I : Ix} {L : Lx} (hF : FrI (wsI_X4_value_10) (fsI_X4_value_10) I0 I) (hL : FrL (wsL_X4_value_10) (fsL_X4_value_10) L0 L) (h : wpX4_value_10_b328 Q P10 v1 v3 v4 t0 I L) : wpX4_value_10_b328 Q' P10' v1 v3 v4 t0 I L := by
  unfold wpX4_value_10_b328 at h ⊢
  exact mnX4_value_10_b330 hQ hP10 hF hL h
set_option maxRecDepth 10000 in
theorem mnX4_value_10_b323 {I0 : Ix} {L0 : Lx} {Q Q' : Int32 → Ix → Lx → Prop} {P10 P10' : Int32 → Int32 → Int32 → Ix → Lx → Prop} (hQ : ∀ (r : Int32) (I1 : Ix) (L1 : Lx), FrI (wsI_X4_value_10) (fsI_X4_value_10) I0 I1 → FrL (wsL_X4_value_10) (fsL_X4_value_10) L0 L1 → Q r I1 L1 → Q' r I1 L1) (hP10 : ∀ (v1 : Int32) (v3 : Int32) (v4 : Int32) (I1 : Ix) (L1 : Lx), FrI (wsI_X4_value_10) (fsI_X4_value_10) I0 I1 → FrL (wsL_X4_value_10) (fsL_X4_value_10) L0 L1 → P10 v1 v3 v4 I1 L1 → P10' v1 v3 v4 I1 L1) {v1 : Int32} {v3 : Int32} {v4 : Int32} {I : Ix} {L : Lx} (hF : FrI (wsI_X4_value_10) (fsI_X4_value_10) I0 I) (hL : FrL (wsL_X4_value_10) (fsL_X4_value_10) L0 L) (h : wpX4_value_10_b323 Q P10 v1 v3 v4 I L) : wpX4_value_10_b323 Q' P10' v1 v3 v4 I L := by
  unfold wpX4_value_10_b323 at h ⊢
  exact mnX4_value_10_b328 hQ hP10 hF hL h
set_option maxRecDepth 10000 in
theorem mnX4_value_10_b308 {I0 : Ix} {L0 : Lx} {Q Q' : Int32 → Ix → Lx → Prop} {P10 P10' : Int32 → Int32 → Int32 → Ix → Lx → Prop} (hQ : ∀ (r : Int32) (I1 : Ix) (L1 : Lx), FrI (wsI_X4_value_10) (fsI_X4_value_10) I0 I1 → FrL (wsL_X4_value_10) (fsL_X4_value_10) L0 L1 → Q r I1 L1 → Q' r I1 L1) (hP10 : ∀ (v1 : Int32) (v3 : Int32) (v4 : Int32) (I1 : Ix) (L1 : Lx), FrI (wsI_X4_value_10) (fsI_X4_value_10) I0 I1 → FrL (wsL_X4_value_10) (fsL_X4_value_10) L0 L1 → P10 v1 v3 v4 I1 L1 → P10' v1 v3 v4 I1 L1) {v1 : Int32} {v3 : Int32} {v4 : Int32} {t0 : Int32} {I : Ix} {L : Lx} (hF : FrI (wsI_X4_value_10) (fsI_X4_value_10) I0 I) (hL : FrL (wsL_X4_value_10) (fsL_X4_value_10) L0 L) (h : wpX4_value_10_b308 Q P10 v1 v3 v4 t0 I L) : wpX4_value_10_b308 Q' P10' v1 v3 v4 t0 I L := by
  unfold wpX4_value_10_b308 at h ⊢
  exact mnX4_value_10_b330 hQ hP10 hF hL h
set_option maxRecDepth 10000 in
theorem mnX4_value_10_b307 {I0 : Ix} {L0 : Lx} {Q Q' : Int32 → Ix → Lx → Prop} {P10 P10' : Int32 → Int32 → Int32 → Ix → Lx → Prop} (hQ : ∀ (r : Int32) (I1 : Ix) (L1 : Lx), FrI (wsI_X4_value_10) (fsI_X4_value_10) I0 I1 → FrL (wsL_X4_value_10) (fsL_X4_value_10) L0 L1 → Q r I1 L1 → Q' r I1 L1) (hP10 : ∀ (v1 : Int32) (v3 : Int32) (v4 : Int32) (I1 : Ix) (L1 : Lx), FrI (wsI_X4_value_10) (fsI_X4_value_10) I0 I1 → FrL (wsL_X4_value_10) (fsL_X4_value_10) L0 L1 → P10 v1 v3 v4 I1 L1 → P10' v1 v3 v4 I1 L1) {v1 : Int32} {v3 : Int32} {v4 : Int32} {I : Ix} {L : Lx} (hF : FrI (wsI_X4_value_10) (fsI_X4_value_10) I0 I) (hL : FrL (wsL_X4_value_10) (fsL_X4_value_10) L0 L) (h : wpX4_value_10_b307 Q P10 v1 v3 v4 I L) : wpX4_value_10_b307 Q' P10' v1 v3 v4 I L := by
  unfold wpX4_value_10_b307 at h ⊢
  exact mnX4_value_10_b308 hQ hP10 hF hL h
set_option maxRecDepth 10000 in
theorem mnX4_value_10_b288 {I0 : Ix} {L0 : Lx} {Q Q' : Int32 → Ix → Lx → Prop} {P10 P10' : Int32 → Int32 → Int32 → Ix → Lx → Prop} (hQ : ∀ (r : Int32) (I1 : Ix) (L1 : Lx), FrI (wsI_X4_value_10) (fsI_X4_value_10) I0 I1 → FrL (wsL_X4_value_10) (fsL_X4_value_10) L0 L1 → Q r I1 L1 → Q' r I1 L1) (hP10 : ∀ (v1 : Int32) (v3 : Int32) (v4 : Int32) (I1 : Ix) (L1 : Lx), FrI (wsI_X4_value_10) (fsI_X4_value_10) I0 I1 → FrL (wsL_X4_value_10) (fsL_X4_value_10) L0 L1 → P10 v1 v3 v4 I1 L1 → P10' v1 v3 v4 I1 L1) {v1 : Int32} {v3 : Int32} {v4 : Int32} {t0 : Int32} {I : Ix} {L : Lx} (hF : FrI (wsI_X4_value_10) (fsI_X4_value_10) I0 I) (hL : FrL (wsL_X4_value_10) (fsL_X4_value_10) L0 L) (h : wpX4_value_10_b288 Q P10 v1 v3 v4 t0 I L) : wpX4_value_10_b288 Q' P10' v1 v3 v4 t0 I L := by
  unfold wpX4_value_10_b288 at h ⊢
  exact mnX4_value_10_b330 hQ hP10 hF hL h
set_option maxRecDepth 10000 in
theorem mnX4_value_10_b271 {I0 : Ix} {L0 : Lx} {Q Q' : Int32 → Ix → Lx → Prop} {P10 P10' : Int32 → Int32 → Int32 → Ix → Lx → Prop} (hQ : ∀ (r : Int32) (I1 : Ix) (L1 : Lx), FrI (wsI_X4_value_10) (fsI_X4_value_10) I0 I1 → FrL (wsL_X4_value_10) (fsL_X4_value_10) L0 L1 → Q r I1 L1 → Q' r I1 L1) (hP10 : ∀ (v1 : Int32) (v3 : Int32) (v4 : Int32) (I1 : Ix) (L1 : Lx), FrI (wsI_X4_value_10) (fsI_X4_value_10) I0 I1 → FrL (wsL_X4_value_10) (fsL_X4_value_10) L0 L1 → P10 v1 v3 v4 I1 L1 → P10' v1 v3 v4 I1 L1) {v1 : Int32} {v3 : Int32} {v4 : Int32} {t0 : Int32} {I : Ix} {L : Lx} (hF : FrI (wsI_X4_value_10) (fsI_X4_value_10) I0 I) (hL : FrL (wsL_X4_value_10) (fsL_X4_value_10) L0 L) (h : wpX4_value_10_b271 Q P10 v1 v3 v4 t0 I L) : wpX4_value_10_b271 Q' P10' v1 v3 v4 t0 I L := by
  unfold wpX4_value_10_b271 at h ⊢
  exact mnX4_value_10_b330 hQ hP10 hF hL h
set_option maxRecDepth 10000 in
theorem mnX4_value_10_b254 {I0 : Ix} {L0 : Lx} {Q Q' : Int32 → Ix → Lx → Prop} {P10 P10' : Int32 → Int32 → Int32 → Ix → Lx → Prop} (hQ : ∀ (r : Int32) (I1 : Ix) (L1 : Lx), FrI (wsI_X4_value_10) (fsI_X4_value_10) I0 I1 → FrL (wsL_X4_value_10) (fsL_X4_value_10) L0 L1 → Q r I1 L1 → Q' r I1 L1) (hP10 : ∀ (v1 : Int32) (v3 : Int32) (v4 : Int32) (I1 : Ix) (L1 : Lx), FrI (wsI_X4_value_10) (fsI_X4_value_10) I0 I1 → FrL (wsL_X4_value_10) (fsL_X4_value_10) L0 L1 → P10 v1 v3 v4 I1 L1 → P10' v1 v3 v4 I1 L1) {v1 : Int32} {v3 : Int32} {v4 : Int32} {t0 : Int32} {I : Ix} {L : Lx} (hF : FrI (wsI_X4_value_10) (fsI_X4_value_10) I0 I) (hL : FrL (wsL_X4_value_10) (fsL_X4_value_10) L0 L) (h : wpX4_value_10_b254 Q P10 v1 v3 v4 t0 I L) : wpX4_value_10_b254 Q' P10' v1 v3 v4 t0 I L := by
  unfold wpX4_value_10_b254 at h ⊢
  exact mnX4_value_10_b330 hQ hP10 hF hL h
set_option maxRecDepth 10000 in
theorem mnX4_value_10_b116 {I0 : Ix} {L0 : Lx} {Q Q' : Int32 → Ix → Lx → Prop} {P10 P10' : Int32 → Int32 → Int32 → Ix → Lx → Prop} (hQ : ∀ (r : Int32) (I1 : Ix) (L1 : Lx), FrI (wsI_X4_value_10) (fsI_X4_value_10) I0 I1 → FrL (wsL_X4_value_10) (fsL_X4_value_10) L0 L1 → Q r I1 L1 → Q' r I1 L1) (hP10 : ∀ (v1 : Int32) (v3 : Int32) (v4 : Int32) (I1 : Ix) (L1 : Lx), FrI (wsI_X4_value_10) (fsI_X4_value_10) I0 I1 → FrL (wsL_X4_value_10) (fsL_X4_value_10) L0 L1 → P10 v1 v3 v4 I1 L1 → P10' v1 v3 v4 I1 L1) {v1 : Int32} {v3 : Int32} {v4 : Int32} {v5 : Int32} {I : Ix} {L : Lx} (hF : FrI (wsI_X4_value_10) (fsI_X4_value_10) I0 I) (hL : FrL (wsL_X4_value_10) (fsL_X4_value_10) L0 L) (h : wpX4_value_10_b116 Q P10 v1 v3 v4 v5 I L) : wpX4_value_10_b116 Q' P10' v1 v3 v4 v5 I L := by
  unfold wpX4_value_10_b116 at h ⊢
  refine ⟨fun hc => ?_, fun hc => ?_⟩
  · have h := h.1 hc
    exact hP10 _ _ _ _ _ hF hL h
  · have h := h.2 hc
    refine ⟨h.1, ?_⟩
    have h := h.2
    refine ⟨h.1, ?_⟩
    have h := h.2
    refine ⟨fun hc => ?_, fun hc => ?_, fun hc => ?_, fun hc => ?_, fun hc => ?_, fun hc => ?_, fun hc => ?_, ?_⟩
    · have h := h.1 hc
      exact mnX4_value_10_b330 hQ hP10 hF hL h
    · have h := h.2.1 hc
      exact mnX4_value_10_b330 hQ hP10 hF hL h
    · have h := h.2.2.1 hc
      exact mnX4_value_10_b330 hQ hP10 hF hL h
    · have h := h.2.2.2.1 hc
      refine ⟨fun hc => ?_, fun hc => ?_⟩
      · have h := h.1 hc
        exact mnX4_value_10_b254 hQ hP10 hF hL h
      · have h := h.2 hc
        exact mnX4_value_10_b254 hQ hP10 hF hL h
    · have h := h.2.2.2.2.1 hc
      refine ⟨fun hc => ?_, fun hc => ?_⟩
      · have h := h.1 hc
        exact mnX4_value_10_b288 hQ hP10 hF hL h
      · have h := h.2 hc
        exact mnX4_value_10_b288 hQ hP10 hF hL h
    · have h := h.2.2.2.2.2.1 hc
      refine ⟨fun hc => ?_, fun hc => ?_⟩
      · have h := h.1 hc
        exact mnX4_value_10_b271 hQ hP10 hF hL h
      · have h := h.2 hc
        exact mnX4_value_10_b271 hQ hP10 hF hL h
    · have h := h.2.2.2.2.2.2.1 hc
      refine ⟨fun hc => ?_, fun hc => ?_⟩
      · have h := h.1 hc
        exact mnX4_value_10_b307 hQ hP10 hF hL h
      · have h := h.2 hc
        refine ⟨fun hc => ?_, fun hc => ?_⟩
        · have h := h.1 hc
          exact mnX4_value_10_b307 hQ hP10 hF hL h
        · have h := h.2 hc
          exact mnX4_value_10_b308 hQ hP10 hF hL h
    · intro e0 e1 e2 e3 e4 e5 e6
      have h := h.2.2.2.2.2.2.2 e0 e1 e2 e3 e4 e5 e6
      refine ⟨fun hc => ?_, fun hc => ?_⟩
      · have h := h.1 hc
        exact mnX4_value_10_b323 hQ hP10 hF hL h
      · have h := h.2 hc
        refine ⟨fun hc => ?_, fun hc => ?_⟩
        · have h := h.1 hc
          exact mnX4_value_10_b328 hQ hP10 hF hL h
        · have h := h.2 hc
          exact mnX4_value_10_b323 hQ hP10 hF hL h
set_option maxRecDepth 10000 in
theorem mnX4_value_10_b112 {I0 : Ix} {L0 : Lx} {Q Q' : Int32 → Ix → Lx → Prop} {P10 P10' : Int32 → Int32 → Int32 → Ix → Lx → Prop} (hQ : ∀ (r : Int32) (I1 : Ix) (L1 : Lx), FrI (wsI_X4_value_10) (fsI_X4_value_10) I0 I1 → FrL (wsL_X4_value_10) (fsL_X4_value_10) L0 L1 → Q r I1 L1 → Q' r I1 L1) (hP10 : ∀ (v1 : Int32) (v3 : Int32) (v4 : Int32) (I1 : Ix) (L1 : Lx), FrI (wsI_X4_value_10) (fsI_X4_value_10) I0 I1 → FrL (wsL_X4_value_10) (fsL_X4_value_10) L0 L1 → P10 v1 v3 v4 I1 L1 → P10' v1 v3 v4 I1 L1) {v1 : Int32} {v3 : Int32} {v4 : Int32} {t1 : Int32} {t2 : Int32} {I : Ix} {L : Lx} (hF : FrI (wsI_X4_value_10) (fsI_X4_value_10) I0 I) (hL : FrL (wsL_X4_value_10) (fsL_X4_value_10) L0 L) (h : wpX4_value_10_b112 Q P10 v1 v3 v4 t1 t2 I L) : wpX4_value_10_b112 Q' P10' v1 v3 v4 t1 t2 I L := by
  unfold wpX4_value_10_b112 at h ⊢
  refine ⟨h.1, ?_⟩
  have h := h.2
  intro I1 eI1
  have h := h I1 eI1
  have hF := hF.pw eI1 (by decide)
  exact hP10 _ _ _ _ _ hF hL h
set_option maxRecDepth 10000 in
theorem mnX4_value_10_b77 {I0 : Ix} {L0 : Lx} {Q Q' : Int32 → Ix → Lx → Prop} {P10 P10' : Int32 → Int32 → Int32 → Ix → Lx → Prop} (hQ : ∀ (r : Int32) (I1 : Ix) (L1 : Lx), FrI (wsI_X4_value_10) (fsI_X4_value_10) I0 I1 → FrL (wsL_X4_value_10) (fsL_X4_value_10) L0 L1 → Q r I1 L1 → Q' r I1 L1) (hP10 : ∀ (v1 : Int32) (v3 : Int32) (v4 : Int32) (I1 : Ix) (L1 : Lx), FrI (wsI_X4_value_10) (fsI_X4_value_10) I0 I1 → FrL (wsL_X4_value_10) (fsL_X4_value_10) L0 L1 → P10 v1 v3 v4 I1 L1 → P10' v1 v3 v4 I1 L1) {v1 : Int32} {v3 : Int32} {v4 : Int32} {v5 : Int32} {I : Ix} {L : Lx} (hF : FrI (wsI_X4_value_10) (fsI_X4_value_10) I0 I) (hL : FrL (wsL_X4_value_10) (fsL_X4_value_10) L0 L) (h : wpX4_value_10_b77 Q P10 v1 v3 v4 v5 I L) : wpX4_value_10_b77 Q' P10' v1 v3 v4 v5 I L := by
  unfold wpX4_value_10_b77 at h ⊢
  refine ⟨fun hc => ?_, fun hc => ?_⟩
  · have h := h.1 hc
    exact mnX4_value_10_b116 hQ hP10 hF hL h
  · have h := h.2 hc
    refine ⟨fun hc => ?_, fun hc => ?_⟩
    · have h := h.1 hc
      exact mnX4_value_10_b116 hQ hP10 hF hL h
    · have h := h.2 hc
      refine ⟨h.1, ?_⟩
      have h := h.2
      refine ⟨fun hc => ?_, fun hc => ?_⟩
      · have h := h.1 hc
        exact mnX4_value_10_b112 hQ hP10 hF hL h
      · have h := h.2 hc
        exact mnX4_value_10_b112 hQ hP10 hF hL h
set_option maxRecDepth 10000 in
theorem mnX4_value_10_b70 {I0 : Ix} {L0 : Lx} {Q Q' : Int32 → Ix → Lx → Prop} {P10 P10' : Int32 → Int32 → Int32 → Ix → Lx → Prop} (hQ : ∀ (r : Int32) (I1 : Ix) (L1 : Lx), FrI (wsI_X4_value_10) (fsI_X4_value_10) I0 I1 → FrL (wsL_X4_value_10) (fsL_X4_value_10) L0 L1 → Q r I1 L1 → Q' r I1 L1) (hP10 : ∀ (v1 : Int32) (v3 : Int32) (v4 : Int32) (I1 : Ix) (L1 : Lx), FrI (wsI_X4_value_10) (fsI_X4_value_10) I0 I1 → FrL (wsL_X4_value_10) (fsL_X4_value_10) L0 L1 → P10 v1 v3 v4 I1 L1 → P10' v1 v3 v4 I1 L1) {v1 : Int32} {v3 : Int32} {v4 : Int32} {t1 : Int32} {t2 : Int32} {I : Ix} {L : Lx} (hF : FrI (wsI_X4_value_10) (fsI_X4_value_10) I0 I) (hL : FrL (wsL_X4_value_10) (fsL_X4_value_10) L0 L) (h : wpX4_value_10_b70 Q P10 v1 v3 v4 t1 t2 I L) : wpX4_value_10_b70 Q' P10' v1 v3 v4 t1 t2 I L := by
  unfold wpX4_value_10_b70 at h ⊢
  refine ⟨h.1, ?_⟩
  have h := h.2
  intro I1 eI1
  have h := h I1 eI1
  have hF := hF.pw eI1 (by decide)
  exact hP10 _ _ _ _ _ hF hL h
set_option maxRecDepth 10000 in
theorem mnX4_value_10_l10 {I0 : Ix} {L0 : Lx} {Q Q' : Int32 → Ix → Lx → Prop} {P10 P10' : Int32 → Int32 → Int32 → Ix → Lx → Prop} (hQ : ∀ (r : Int32) (I1 : Ix) (L1 : Lx), FrI (wsI_X4_value_10) (fsI_X4_value_10) I0 I1 → FrL (wsL_X4_value_10) (fsL_X4_value_10) L0 L1 → Q r I1 L1 → Q' r I1 L1) (hP10 : ∀ (v1 : Int32) (v3 : Int32) (v4 : Int32) (I1 : Ix) (L1 : Lx), FrI (wsI_X4_value_10) (fsI_X4_value_10) I0 I1 → FrL (wsL_X4_value_10) (fsL_X4_value_10) L0 L1 → P10 v1 v3 v4 I1 L1 → P10' v1 v3 v4 I1 L1) {v1 : Int32} {v3 : Int32} {v4 : Int32} {I : Ix} {L : Lx} (hF : FrI (wsI_X4_value_10) (fsI_X4_value_10) I0 I) (hL : FrL (wsL_X4_value_10) (fsL_X4_value_10) L0 L) (h : wpX4_value_10_l10 Q P10 v1 v3 v4 I L) : wpX4_value_10_l10 Q' P10' v1 v3 v4 I L := by
  unfold wpX4_value_10_l10 at h ⊢
  refine ⟨h.1, ?_⟩
  have h := h.2
  refine ⟨fun hc => ?_, fun hc => ?_⟩
  · have h := h.1 hc
    refine ⟨fun hc => ?_, fun hc => ?_⟩
    · have h := h.1 hc
      exact hQ _ _ _ hF hL h
    · have h := h.2 hc
      exact hQ _ _ _ hF hL h
  · have h := h.2 hc
    refine ⟨h.1, ?_⟩
    have h := h.2
    refine ⟨fun hc => ?_, fun hc => ?_⟩
    · have h := h.1 hc
      exact mnX4_value_10_b77 hQ hP10 hF hL h
    · have h := h.2 hc
      refine ⟨fun hc => ?_, fun hc => ?_⟩
      · have h := h.1 hc
        exact mnX4_value_10_b77 hQ hP10 hF hL h
      · have h := h.2 hc
        refine ⟨fun hc => ?_, fun hc => ?_⟩
        · have h := h.1 hc
          refine ⟨h.1, ?_⟩
          have h := h.2
          exact mnX4_value_10_b70 hQ hP10 hF hL h
        · have h := h.2 hc
          exact mnX4_value_10_b70 hQ hP10 hF hL h
set_option maxRecDepth 10000 in
theorem mnX4_value_10_h10 {I0 : Ix} {L0 : Lx} {Q Q' : Int32 → Ix → Lx → Prop} (hQ : ∀ (r : Int32) (I1 : Ix) (L1 : Lx), FrI (wsI_X4_value_10) (fsI_X4_value_10) I0 I1 → FrL (wsL_X4_value_10) (fsL_X4_value_10) L0 L1 → Q r I1 L1 → Q' r I1 L1) {v1 : Int32} {v3 : Int32} {v4 : Int32} {I : Ix} {L : Lx} (hF : FrI (wsI_X4_value_10) (fsI_X4_value_10) I0 I) (hL : FrL (wsL_X4_value_10) (fsL_X4_value_10) L0 L) (h : wpX4_value_10_h10 Q v1 v3 v4 I L) : wpX4_value_10_h10 Q' v1 v3 v4 I L := by
  unfold wpX4_value_10_h10 at h
  refine Lfp.ind (P := fun z => FrI (wsI_X4_value_10) (fsI_X4_value_10) I0 z.2.2.2.1 → FrL (wsL_X4_value_10) (fsL_X4_value_10) L0 z.2.2.2.2 → wpX4_value_10_h10 Q' z.1 z.2.1 z.2.2.1 z.2.2.2.1 z.2.2.2.2) ?_ h hF hL
  intro z P' hP' h hF hL
  obtain ⟨v1, v3, v4, I, L⟩ := z
  exact wpX4_value_10_h10_fold (mnX4_value_10_l10 hQ (fun v1 v3 v4 I L hF hL h9 => hP' (v1, v3, v4, I, L) h9 hF hL) hF hL h)
set_option maxRecDepth 10000 in
theorem mnX4_value_10 {a1 : Int32} {I : Ix} {L : Lx} {Q Q' : Int32 → Ix → Lx → Prop} (hQ : ∀ (r : Int32) (I1 : Ix) (L1 : Lx), FrI (wsI_X4_value_10) (fsI_X4_value_10) I I1 → FrL (wsL_X4_value_10) (fsL_X4_value_10) L L1 → Q r I1 L1 → Q' r I1 L1) (h : wpX4_value_10 a1 I L Q) : wpX4_value_10 a1 I L Q' := by
  have hF : FrI (wsI_X4_value_10) (fsI_X4_value_10) I I := FrI.rf
  have hL : FrL (wsL_X4_value_10) (fsL_X4_value_10) L L := FrL.rf
  unfold wpX4_value_10 at h ⊢
  refine ⟨h.1, ?_⟩
  have h := h.2
  exact mnX4_value_10_h10 hQ hF hL h
abbrev wsI_X0_ask (o1 : Nat) : List Nat := [63, 14]
abbrev wsL_X0_ask (o1 : Nat) : List Nat := []
abbrev fsI_X0_ask (o1 : Nat) : List (Nat × Nat) := []
abbrev fsL_X0_ask (o1 : Nat) : List (Nat × Nat) := []
set_option maxRecDepth 10000 in
theorem mnX0_ask_b115 {o1 : Nat} {I0 : Ix} {L0 : Lx} {Q Q' : Int32 → Ix → Lx → Prop} (hQ : ∀ (r : Int32) (I1 : Ix) (L1 : Lx), FrI (wsI_X0_ask o1) (fsI_X0_ask o1) I0 I1 → FrL (wsL_X0_ask o1) (fsL_X0_ask o1) L0 L1 → Q r I1 L1 → Q' r I1 L1) {v2 : Int32} {v3 : Int32} {v4 : Int32} {t1 : Int32} {t2 : Int32} {I : Ix} {L : Lx} (hF : FrI (wsI_X0_ask o1) (fsI_X0_ask o1) I0 I) (hL : FrL (wsL_X0_ask o1) (fsL_X0_ask o1) L0 L) (h : wpX0_ask_b115 o1 Q v2 v3 v4 t1 t2 I L) : wpX0_ask_b115 o1 Q' v2 v3 v4 t1 t2 I L := by
  unfold wpX0_ask_b115 at h ⊢
  refine ⟨h.1, ?_⟩
  have h := h.2
  intro I1 eI1
  have h := h I1 eI1
  have hF := hF.pw eI1 (by simp)
  refine ⟨h.1, ?_⟩
  have h := h.2
  intro I2 eI2
  have h := h I2 eI2
  have hF := hF.pw eI2 (by simp)
  intro I3 eI3
  have h := h I3 eI3
  have hF := hF.pw eI3 (by simp)
  refine ⟨h.1, ?_⟩
  have h := h.2
  intro I4 eI4
  have h := h I4 eI4
  have hF := hF.pw eI4 (by simp)
  refine ⟨h.1, ?_⟩
  have h := h.2
  intro I5 eI5
  have h := h I5 eI5
  have hF := hF.pw eI5 (by simp)
  refine ⟨h.1, ?_⟩
  have h := h.2
  intro I6 eI6
  have h := h I6 eI6
  have hF := hF.pw eI6 (by simp)
  refine mnX4_value_10 (fun r9 I7 L8 hf hl h => ?_) h
  have hF := hF.tr hf (by intro k hk; first | (simp only [List.mem_cons, List.not_mem_nil, or_false] at hk ⊢; omega) | (simp at hk; done) | (simp at hk ⊢; omega)) (by intro q hq; obtain ⟨k, j⟩ := q; first | (simp only [List.mem_cons, List.not_mem_nil, or_false, Prod.mk.injEq] at hq ⊢; omega) | (simp at hq; done))
  have hL := hL.tr hl (by intro k hk; first | (simp only [List.mem_cons, List.not_mem_nil, or_false] at hk ⊢; omega) | (simp at hk; done) | (simp at hk ⊢; omega)) (by intro q hq; obtain ⟨k, j⟩ := q; first | (simp only [List.mem_cons, List.not_mem_nil, or_false, Prod.mk.injEq] at hq ⊢; omega) | (simp at hq; done))
  exact hQ _ _ _ hF hL h
set_option maxRecDepth 10000 in
theorem mnX0_ask_b94 {o1 : Nat} {I0 : Ix} {L0 : Lx} {Q Q' : Int32 → Ix → Lx → Prop} (hQ : ∀ (r : Int32) (I1 : Ix) (L1 : Lx), FrI (wsI_X0_ask o1) (fsI_X0_ask o1) I0 I1 → FrL (wsL_X0_ask o1) (fsL_X0_ask o1) L0 L1 → Q r I1 L1 → Q' r I1 L1) {v2 : Int32} {v3 : Int32} {v4 : Int32} {t1 : Int32} {t2 : Int32} {I : Ix} {L : Lx} (hF : FrI (wsI_X0_ask o1) (fsI_X0_ask o1) I0 I) (hL : FrL (wsL_X0_ask o1) (fsL_X0_ask o1) L0 L) (h : wpX0_ask_b94 o1 Q v2 v3 v4 t1 t2 I L) : wpX0_ask_b94 o1 Q' v2 v3 v4 t1 t2 I L := by
  unfold wpX0_ask_b94 at h ⊢
  refine ⟨h.1, ?_⟩
  have h := h.2
  intro I1 eI1
  have h := h I1 eI1
  have hF := hF.pw eI1 (by simp)
  refine ⟨h.1, ?_⟩
  have h := h.2
  refine ⟨fun hc => ?_, fun hc => ?_⟩
  · have h := h.1 hc
    exact mnX0_ask_b115 hQ hF hL h
  · have h := h.2 hc
    exact mnX0_ask_b115 hQ hF hL h
set_option maxRecDepth 10000 in
theorem mnX0_ask {o1 : Nat} {a2 : Int32} {a3 : Int32} {I : Ix} {L : Lx} {Q Q' : Int32 → Ix → Lx → Prop} (hQ : ∀ (r : Int32) (I1 : Ix) (L1 : Lx), FrI (wsI_X0_ask o1) (fsI_X0_ask o1) I I1 → FrL (wsL_X0_ask o1) (fsL_X0_ask o1) L L1 → Q r I1 L1 → Q' r I1 L1) (h : wpX0_ask o1 a2 a3 I L Q) : wpX0_ask o1 a2 a3 I L Q' := by
  have hF : FrI (wsI_X0_ask o1) (fsI_X0_ask o1) I I := FrI.rf
  have hL : FrL (wsL_X0_ask o1) (fsL_X0_ask o1) L L := FrL.rf
  unfold wpX0_ask at h ⊢
  refine ⟨h.1, ?_⟩
  have h := h.2
  refine ⟨h.1, ?_⟩
  have h := h.2
  intro I1 eI1
  have h := h I1 eI1
  have hF := hF.pw eI1 (by simp)
  refine ⟨h.1, ?_⟩
  have h := h.2
  intro I2 eI2
  have h := h I2 eI2
  have hF := hF.pw eI2 (by simp)
  refine ⟨h.1, ?_⟩
  have h := h.2
  intro I3 eI3
  have h := h I3 eI3
  have hF := hF.pw eI3 (by simp)
  refine ⟨h.1, ?_⟩
  have h := h.2
  refine mnX1_minutes_4 (fun r6 I4 L5 hf hl h => ?_) h
  have hF := hF.tr hf (by intro k hk; first | (simp only [List.mem_cons, List.not_mem_nil, or_false] at hk ⊢; omega) | (simp at hk; done) | (simp at hk ⊢; omega)) (by intro q hq; obtain ⟨k, j⟩ := q; first | (simp only [List.mem_cons, List.not_mem_nil, or_false, Prod.mk.injEq] at hq ⊢; omega) | (simp at hq; done))
  have hL := hL.tr hl (by intro k hk; first | (simp only [List.mem_cons, List.not_mem_nil, or_false] at hk ⊢; omega) | (simp at hk; done) | (simp at hk ⊢; omega)) (by intro q hq; obtain ⟨k, j⟩ := q; first | (simp only [List.mem_cons, List.not_mem_nil, or_false, Prod.mk.injEq] at hq ⊢; omega) | (simp at hq; done))
  intro I7 eI7
  have h := h I7 eI7
  have hF := hF.pw eI7 (by simp)
  refine ⟨h.1, ?_⟩
  have h := h.2
  refine ⟨fun hc => ?_, fun hc => ?_⟩
  · have h := h.1 hc
    exact mnX0_ask_b94 hQ hF hL h
  · have h := h.2 hc
    exact mnX0_ask_b94 hQ hF hL h
abbrev wsI_X0_aim (o1 : Nat) : List Nat := [63, 14]
abbrev wsL_X0_aim (o1 : Nat) : List Nat := []
abbrev fsI_X0_aim (o1 : Nat) : List (Nat × Nat) := []
abbrev fsL_X0_aim (o1 : Nat) : List (Nat × Nat) := []
set_option maxRecDepth 10000 in
theorem mnX0_aim_l9 {o1 : Nat} {I0 : Ix} {L0 : Lx} {Q Q' : Int32 → Ix → Lx → Prop} {P9 P9' : Int32 → Int32 → Int32 → Int32 → Int32 → Ix → Lx → Prop} (hQ : ∀ (r : Int32) (I1 : Ix) (L1 : Lx), FrI (wsI_X0_aim o1) (fsI_X0_aim o1) I0 I1 → FrL (wsL_X0_aim o1) (fsL_X0_aim o1) L0 L1 → Q r I1 L1 → Q' r I1 L1) (hP9 : ∀ (v2 : Int32) (v3 : Int32) (v4 : Int32) (v5 : Int32) (v6 : Int32) (I1 : Ix) (L1 : Lx), FrI (wsI_X0_aim o1) (fsI_X0_aim o1) I0 I1 → FrL (wsL_X0_aim o1) (fsL_X0_aim o1) L0 L1 → P9 v2 v3 v4 v5 v6 I1 L1 → P9' v2 v3 v4 v5 v6 I1 L1) {v2 : Int32} {v3 : Int32} {v4 : Int32} {v5 : Int32} {v6 : Int32} {I : Ix} {L : Lx} (hF : FrI (wsI_X0_aim o1) (fsI_X0_aim o1) I0 I) (hL : FrL (wsL_X0_aim o1) (fsL_X0_aim o1) L0 L) (h : wpX0_aim_l9 o1 Q P9 v2 v3 v4 v5 v6 I L) : wpX0_aim_l9 o1 Q' P9' v2 v3 v4 v5 v6 I L := by
  unfold wpX0_aim_l9 at h ⊢
  refine ⟨fun hc => ?_, fun hc => ?_⟩
  · have h := h.1 hc
    exact hQ _ _ _ hF hL h
  · have h := h.2 hc
    refine ⟨h.1, ?_⟩
    have h := h.2
    refine ⟨fun hc => ?_, fun hc => ?_⟩
    · have h := h.1 hc
      exact hP9 _ _ _ _ _ _ _ hF hL h
    · have h := h.2 hc
      refine mnX0_isInTime (fun r3 I1 L2 hf hl h => ?_) h
      have hF := hF.tr hf (by intro k hk; first | (simp only [List.mem_cons, List.not_mem_nil, or_false] at hk ⊢; omega) | (simp at hk; done) | (simp at hk ⊢; omega)) (by intro q hq; obtain ⟨k, j⟩ := q; first | (simp only [List.mem_cons, List.not_mem_nil, or_false, Prod.mk.injEq] at hq ⊢; omega) | (simp at hq; done))
      have hL := hL.tr hl (by intro k hk; first | (simp only [List.mem_cons, List.not_mem_nil, or_false] at hk ⊢; omega) | (simp at hk; done) | (simp at hk ⊢; omega)) (by intro q hq; obtain ⟨k, j⟩ := q; first | (simp only [List.mem_cons, List.not_mem_nil, or_false, Prod.mk.injEq] at hq ⊢; omega) | (simp at hq; done))
      refine ⟨fun hc => ?_, fun hc => ?_⟩
      · have h := h.1 hc
        exact hP9 _ _ _ _ _ _ _ hF hL h
      · have h := h.2 hc
        refine mnX0_ask (fun r6 I4 L5 hf hl h => ?_) h
        have hF := hF.tr hf (by intro k hk; first | (simp only [List.mem_cons, List.not_mem_nil, or_false] at hk ⊢; omega) | (simp at hk; done) | (simp at hk ⊢; omega)) (by intro q hq; obtain ⟨k, j⟩ := q; first | (simp only [List.mem_cons, List.not_mem_nil, or_false, Prod.mk.injEq] at hq ⊢; omega) | (simp at hq; done))
        have hL := hL.tr hl (by intro k hk; first | (simp only [List.mem_cons, List.not_mem_nil, or_false] at hk ⊢; omega) | (simp at hk; done) | (simp at hk ⊢; omega)) (by intro q hq; obtain ⟨k, j⟩ := q; first | (simp only [List.mem_cons, List.not_mem_nil, or_false, Prod.mk.injEq] at hq ⊢; omega) | (simp at hq; done))
        refine ⟨fun hc => ?_, fun hc => ?_⟩
        · have h := h.1 hc
          exact hP9 _ _ _ _ _ _ _ hF hL h
        · have h := h.2 hc
          exact hP9 _ _ _ _ _ _ _ hF hL h
set_option maxRecDepth 10000 in
theorem mnX0_aim_h9 {o1 : Nat} {I0 : Ix} {L0 : Lx} {Q Q' : Int32 → Ix → Lx → Prop} (hQ : ∀ (r : Int32) (I1 : Ix) (L1 : Lx), FrI (wsI_X0_aim o1) (fsI_X0_aim o1) I0 I1 → FrL (wsL_X0_aim o1) (fsL_X0_aim o1) L0 L1 → Q r I1 L1 → Q' r I1 L1) {v2 : Int32} {v3 : Int32} {v4 : Int32} {v5 : Int32} {v6 : Int32} {I : Ix} {L : Lx} (hF : FrI (wsI_X0_aim o1) (fsI_X0_aim o1) I0 I) (hL : FrL (wsL_X0_aim o1) (fsL_X0_aim o1) L0 L) (h : wpX0_aim_h9 o1 Q v2 v3 v4 v5 v6 I L) : wpX0_aim_h9 o1 Q' v2 v3 v4 v5 v6 I L := by
  unfold wpX0_aim_h9 at h
  refine Lfp.ind (P := fun z => FrI (wsI_X0_aim o1) (fsI_X0_aim o1) I0 z.2.2.2.2.2.1 → FrL (wsL_X0_aim o1) (fsL_X0_aim o1) L0 z.2.2.2.2.2.2 → wpX0_aim_h9 o1 Q' z.1 z.2.1 z.2.2.1 z.2.2.2.1 z.2.2.2.2.1 z.2.2.2.2.2.1 z.2.2.2.2.2.2) ?_ h hF hL
  intro z P' hP' h hF hL
  obtain ⟨v2, v3, v4, v5, v6, I, L⟩ := z
  exact wpX0_aim_h9_fold (mnX0_aim_l9 hQ (fun v2 v3 v4 v5 v6 I L hF hL h9 => hP' (v2, v3, v4, v5, v6, I, L) h9 hF hL) hF hL h)
set_option maxRecDepth 10000 in
theorem mnX0_aim {o1 : Nat} {a2 : Int32} {a3 : Int32} {I : Ix} {L : Lx} {Q Q' : Int32 → Ix → Lx → Prop} (hQ : ∀ (r : Int32) (I1 : Ix) (L1 : Lx), FrI (wsI_X0_aim o1) (fsI_X0_aim o1) I I1 → FrL (wsL_X0_aim o1) (fsL_X0_aim o1) L L1 → Q r I1 L1 → Q' r I1 L1) (h : wpX0_aim o1 a2 a3 I L Q) : wpX0_aim o1 a2 a3 I L Q' := by
  have hF : FrI (wsI_X0_aim o1) (fsI_X0_aim o1) I I := FrI.rf
  have hL : FrL (wsL_X0_aim o1) (fsL_X0_aim o1) L L := FrL.rf
  unfold wpX0_aim at h ⊢
  exact mnX0_aim_h9 hQ hF hL h
abbrev wsI_X0_setOut (o1 : Nat) : List Nat := [66, 67, o1 + 6, 63, 14]
abbrev wsL_X0_setOut (o1 : Nat) : List Nat := []
abbrev fsI_X0_setOut (o1 : Nat) : List (Nat × Nat) := []
abbrev fsL_X0_setOut (o1 : Nat) : List (Nat × Nat) := []
set_option maxRecDepth 10000 in
theorem mnX0_setOut {o1 : Nat} {a2 : Int32} {a3 : Int32} {I : Ix} {L : Lx} {Q Q' : Ix → Lx → Prop} (hQ : ∀ (I1 : Ix) (L1 : Lx), FrI (wsI_X0_setOut o1) (fsI_X0_setOut o1) I I1 → FrL (wsL_X0_setOut o1) (fsL_X0_setOut o1) L L1 → Q I1 L1 → Q' I1 L1) (h : wpX0_setOut o1 a2 a3 I L Q) : wpX0_setOut o1 a2 a3 I L Q' := by
  have hF : FrI (wsI_X0_setOut o1) (fsI_X0_setOut o1) I I := FrI.rf
  have hL : FrL (wsL_X0_setOut o1) (fsL_X0_setOut o1) L L := FrL.rf
  unfold wpX0_setOut at h ⊢
  refine mnX0_aim (fun r3 I1 L2 hf hl h => ?_) h
  have hF := hF.tr hf (by intro k hk; first | (simp only [List.mem_cons, List.not_mem_nil, or_false] at hk ⊢; omega) | (simp at hk; done) | (simp at hk ⊢; omega)) (by intro q hq; obtain ⟨k, j⟩ := q; first | (simp only [List.mem_cons, List.not_mem_nil, or_false, Prod.mk.injEq] at hq ⊢; omega) | (simp at hq; done))
  have hL := hL.tr hl (by intro k hk; first | (simp only [List.mem_cons, List.not_mem_nil, or_false] at hk ⊢; omega) | (simp at hk; done) | (simp at hk ⊢; omega)) (by intro q hq; obtain ⟨k, j⟩ := q; first | (simp only [List.mem_cons, List.not_mem_nil, or_false, Prod.mk.injEq] at hq ⊢; omega) | (simp at hq; done))
  refine ⟨h.1, ?_⟩
  have h := h.2
  intro I4 eI4
  have h := h I4 eI4
  have hF := hF.pw eI4 (by simp)
  refine ⟨fun hc => ?_, fun hc => ?_⟩
  · have h := h.1 hc
    exact hQ _ _ hF hL h
  · have h := h.2 hc
    refine ⟨h.1, ?_⟩
    have h := h.2
    refine ⟨h.1, ?_⟩
    have h := h.2
    refine mnX1_minutes_4 (fun r7 I5 L6 hf hl h => ?_) h
    have hF := hF.tr hf (by intro k hk; first | (simp only [List.mem_cons, List.not_mem_nil, or_false] at hk ⊢; omega) | (simp at hk; done) | (simp at hk ⊢; omega)) (by intro q hq; obtain ⟨k, j⟩ := q; first | (simp only [List.mem_cons, List.not_mem_nil, or_false, Prod.mk.injEq] at hq ⊢; omega) | (simp at hq; done))
    have hL := hL.tr hl (by intro k hk; first | (simp only [List.mem_cons, List.not_mem_nil, or_false] at hk ⊢; omega) | (simp at hk; done) | (simp at hk ⊢; omega)) (by intro q hq; obtain ⟨k, j⟩ := q; first | (simp only [List.mem_cons, List.not_mem_nil, or_false, Prod.mk.injEq] at hq ⊢; omega) | (simp at hq; done))
    refine ⟨h.1, ?_⟩
    have h := h.2
    intro I8 eI8
    have h := h I8 eI8
    have hF := hF.pw eI8 (by simp)
    refine ⟨h.1, ?_⟩
    have h := h.2
    intro I9 eI9
    have h := h I9 eI9
    have hF := hF.pw eI9 (by simp)
    exact hQ _ _ hF hL h
abbrev wsI_X0_isAhead : List Nat := []
abbrev wsL_X0_isAhead : List Nat := []
abbrev fsI_X0_isAhead : List (Nat × Nat) := []
abbrev fsL_X0_isAhead : List (Nat × Nat) := []
set_option maxRecDepth 10000 in
theorem mnX0_isAhead {a1 : Int32} {a2 : Int32} {a3 : Int32} {I : Ix} {L : Lx} {Q Q' : Bool → Ix → Lx → Prop} (hQ : ∀ (r : Bool) (I1 : Ix) (L1 : Lx), FrI (wsI_X0_isAhead) (fsI_X0_isAhead) I I1 → FrL (wsL_X0_isAhead) (fsL_X0_isAhead) L L1 → Q r I1 L1 → Q' r I1 L1) (h : wpX0_isAhead a1 a2 a3 I L Q) : wpX0_isAhead a1 a2 a3 I L Q' := by
  have hF : FrI (wsI_X0_isAhead) (fsI_X0_isAhead) I I := FrI.rf
  have hL : FrL (wsL_X0_isAhead) (fsL_X0_isAhead) L L := FrL.rf
  unfold wpX0_isAhead at h ⊢
  refine ⟨fun hc => ?_, fun hc => ?_⟩
  · have h := h.1 hc
    refine ⟨h.1, ?_⟩
    have h := h.2
    refine ⟨h.1, ?_⟩
    have h := h.2
    refine ⟨fun hc => ?_, fun hc => ?_⟩
    · have h := h.1 hc
      exact hQ _ _ _ hF hL h
    · have h := h.2 hc
      exact hQ _ _ _ hF hL h
  · have h := h.2 hc
    refine ⟨h.1, ?_⟩
    have h := h.2
    refine ⟨h.1, ?_⟩
    have h := h.2
    refine ⟨fun hc => ?_, fun hc => ?_⟩
    · have h := h.1 hc
      exact hQ _ _ _ hF hL h
    · have h := h.2 hc
      exact hQ _ _ _ hF hL h
abbrev wsI_J6_bitCount_0f7a4 : List Nat := []
abbrev wsL_J6_bitCount_0f7a4 : List Nat := []
abbrev fsI_J6_bitCount_0f7a4 : List (Nat × Nat) := []
abbrev fsL_J6_bitCount_0f7a4 : List (Nat × Nat) := []
set_option maxRecDepth 10000 in
theorem mnJ6_bitCount_0f7a4 {a0 : Int32} {I : Ix} {L : Lx} {Q Q' : Int32 → Ix → Lx → Prop} (hQ : ∀ (r : Int32) (I1 : Ix) (L1 : Lx), FrI (wsI_J6_bitCount_0f7a4) (fsI_J6_bitCount_0f7a4) I I1 → FrL (wsL_J6_bitCount_0f7a4) (fsL_J6_bitCount_0f7a4) L L1 → Q r I1 L1 → Q' r I1 L1) (h : wpJ6_bitCount_0f7a4 a0 I L Q) : wpJ6_bitCount_0f7a4 a0 I L Q' := by
  have hF : FrI (wsI_J6_bitCount_0f7a4) (fsI_J6_bitCount_0f7a4) I I := FrI.rf
  have hL : FrL (wsL_J6_bitCount_0f7a4) (fsL_J6_bitCount_0f7a4) L L := FrL.rf
  unfold wpJ6_bitCount_0f7a4 at h ⊢
  exact hQ _ _ _ hF hL h
abbrev wsI_X2_draw (o0 : Nat) : List Nat := []
abbrev wsL_X2_draw (o0 : Nat) : List Nat := []
abbrev fsI_X2_draw (o0 : Nat) : List (Nat × Nat) := [(o0, 2)]
abbrev fsL_X2_draw (o0 : Nat) : List (Nat × Nat) := []
set_option maxRecDepth 10000 in
theorem mnX2_draw {o0 : Nat} {a1 : Int32} {I : Ix} {L : Lx} {Q Q' : Int32 → Ix → Lx → Prop} (hQ : ∀ (r : Int32) (I1 : Ix) (L1 : Lx), FrI (wsI_X2_draw o0) (fsI_X2_draw o0) I I1 → FrL (wsL_X2_draw o0) (fsL_X2_draw o0) L L1 → Q r I1 L1 → Q' r I1 L1) (h : wpX2_draw o0 a1 I L Q) : wpX2_draw o0 a1 I L Q' := by
  have hF : FrI (wsI_X2_draw o0) (fsI_X2_draw o0) I I := FrI.rf
  have hL : FrL (wsL_X2_draw o0) (fsL_X2_draw o0) L L := FrL.rf
  unfold wpX2_draw at h ⊢
  intro I1 eI1
  have h := h I1 eI1
  have hF := hF.pf eI1 (by simp)
  refine ⟨fun hc => ?_, fun hc => ?_⟩
  · have h := h.1 hc
    exact hQ _ _ _ hF hL h
  · have h := h.2 hc
    refine ⟨h.1, ?_⟩
    have h := h.2
    exact hQ _ _ _ hF hL h
abbrev wsI_X0_drawnOf (o1 : Nat) : List Nat := []
abbrev wsL_X0_drawnOf (o1 : Nat) : List Nat := []
abbrev fsI_X0_drawnOf (o1 : Nat) : List (Nat × Nat) := [(o1, 2)]
abbrev fsL_X0_drawnOf (o1 : Nat) : List (Nat × Nat) := []
set_option maxRecDepth 10000 in
theorem mnX0_drawnOf_l24 {o1 : Nat} {I0 : Ix} {L0 : Lx} {Q Q' : Int32 → Ix → Lx → Prop} {P24 P24' : Int32 → Int32 → Int32 → Ix → Lx → Prop} (hQ : ∀ (r : Int32) (I1 : Ix) (L1 : Lx), FrI (wsI_X0_drawnOf o1) (fsI_X0_drawnOf o1) I0 I1 → FrL (wsL_X0_drawnOf o1) (fsL_X0_drawnOf o1) L0 L1 → Q r I1 L1 → Q' r I1 L1) (hP24 : ∀ (v2 : Int32) (v4 : Int32) (v5 : Int32) (I1 : Ix) (L1 : Lx), FrI (wsI_X0_drawnOf o1) (fsI_X0_drawnOf o1) I0 I1 → FrL (wsL_X0_drawnOf o1) (fsL_X0_drawnOf o1) L0 L1 → P24 v2 v4 v5 I1 L1 → P24' v2 v4 v5 I1 L1) {v2 : Int32} {v4 : Int32} {v5 : Int32} {I : Ix} {L : Lx} (hF : FrI (wsI_X0_drawnOf o1) (fsI_X0_drawnOf o1) I0 I) (hL : FrL (wsL_X0_drawnOf o1) (fsL_X0_drawnOf o1) L0 L) (h : wpX0_drawnOf_l24 o1 Q P24 v2 v4 v5 I L) : wpX0_drawnOf_l24 o1 Q' P24' v2 v4 v5 I L := by
  unfold wpX0_drawnOf_l24 at h ⊢
  refine ⟨fun hc => ?_, fun hc => ?_⟩
  · have h := h.1 hc
    exact hQ _ _ _ hF hL h
  · have h := h.2 hc
    refine ⟨fun hc => ?_, fun hc => ?_⟩
    · have h := h.1 hc
      exact hP24 _ _ _ _ _ hF hL h
    · have h := h.2 hc
      refine ⟨fun hc => ?_, fun hc => ?_⟩
      · have h := h.1 hc
        exact hP24 _ _ _ _ _ hF hL h
      · have h := h.2 hc
        exact hQ _ _ _ hF hL h
set_option maxRecDepth 10000 in
theorem mnX0_drawnOf_h24 {o1 : Nat} {I0 : Ix} {L0 : Lx} {Q Q' : Int32 → Ix → Lx → Prop} (hQ : ∀ (r : Int32) (I1 : Ix) (L1 : Lx), FrI (wsI_X0_drawnOf o1) (fsI_X0_drawnOf o1) I0 I1 → FrL (wsL_X0_drawnOf o1) (fsL_X0_drawnOf o1) L0 L1 → Q r I1 L1 → Q' r I1 L1) {v2 : Int32} {v4 : Int32} {v5 : Int32} {I : Ix} {L : Lx} (hF : FrI (wsI_X0_drawnOf o1) (fsI_X0_drawnOf o1) I0 I) (hL : FrL (wsL_X0_drawnOf o1) (fsL_X0_drawnOf o1) L0 L) (h : wpX0_drawnOf_h24 o1 Q v2 v4 v5 I L) : wpX0_drawnOf_h24 o1 Q' v2 v4 v5 I L := by
  unfold wpX0_drawnOf_h24 at h
  refine Lfp.ind (P := fun z => FrI (wsI_X0_drawnOf o1) (fsI_X0_drawnOf o1) I0 z.2.2.2.1 → FrL (wsL_X0_drawnOf o1) (fsL_X0_drawnOf o1) L0 z.2.2.2.2 → wpX0_drawnOf_h24 o1 Q' z.1 z.2.1 z.2.2.1 z.2.2.2.1 z.2.2.2.2) ?_ h hF hL
  intro z P' hP' h hF hL
  obtain ⟨v2, v4, v5, I, L⟩ := z
  exact wpX0_drawnOf_h24_fold (mnX0_drawnOf_l24 hQ (fun v2 v4 v5 I L hF hL h9 => hP' (v2, v4, v5, I, L) h9 hF hL) hF hL h)
set_option maxRecDepth 10000 in
theorem mnX0_drawnOf {o1 : Nat} {a2 : Int32} {I : Ix} {L : Lx} {Q Q' : Int32 → Ix → Lx → Prop} (hQ : ∀ (r : Int32) (I1 : Ix) (L1 : Lx), FrI (wsI_X0_drawnOf o1) (fsI_X0_drawnOf o1) I I1 → FrL (wsL_X0_drawnOf o1) (fsL_X0_drawnOf o1) L L1 → Q r I1 L1 → Q' r I1 L1) (h : wpX0_drawnOf o1 a2 I L Q) : wpX0_drawnOf o1 a2 I L Q' := by
  have hF : FrI (wsI_X0_drawnOf o1) (fsI_X0_drawnOf o1) I I := FrI.rf
  have hL : FrL (wsL_X0_drawnOf o1) (fsL_X0_drawnOf o1) L L := FrL.rf
  unfold wpX0_drawnOf at h ⊢
  refine mnJ6_bitCount_0f7a4 (fun r3 I1 L2 hf hl h => ?_) h
  have hF := hF.tr hf (by intro k hk; first | (simp only [List.mem_cons, List.not_mem_nil, or_false] at hk ⊢; omega) | (simp at hk; done) | (simp at hk ⊢; omega)) (by intro q hq; obtain ⟨k, j⟩ := q; first | (simp only [List.mem_cons, List.not_mem_nil, or_false, Prod.mk.injEq] at hq ⊢; omega) | (simp at hq; done))
  have hL := hL.tr hl (by intro k hk; first | (simp only [List.mem_cons, List.not_mem_nil, or_false] at hk ⊢; omega) | (simp at hk; done) | (simp at hk ⊢; omega)) (by intro q hq; obtain ⟨k, j⟩ := q; first | (simp only [List.mem_cons, List.not_mem_nil, or_false, Prod.mk.injEq] at hq ⊢; omega) | (simp at hq; done))
  refine ⟨fun hc => ?_, fun hc => ?_⟩
  · have h := h.1 hc
    exact mnX0_drawnOf_h24 hQ hF hL h
  · have h := h.2 hc
    refine mnX2_draw (fun r6 I4 L5 hf hl h => ?_) h
    have hF := hF.tr hf (by intro k hk; first | (simp only [List.mem_cons, List.not_mem_nil, or_false] at hk ⊢; omega) | (simp at hk; done) | (simp at hk ⊢; omega)) (by intro q hq; obtain ⟨k, j⟩ := q; first | (simp only [List.mem_cons, List.not_mem_nil, or_false, Prod.mk.injEq] at hq ⊢; omega) | (simp at hq; done))
    have hL := hL.tr hl (by intro k hk; first | (simp only [List.mem_cons, List.not_mem_nil, or_false] at hk ⊢; omega) | (simp at hk; done) | (simp at hk ⊢; omega)) (by intro q hq; obtain ⟨k, j⟩ := q; first | (simp only [List.mem_cons, List.not_mem_nil, or_false, Prod.mk.injEq] at hq ⊢; omega) | (simp at hq; done))
    exact mnX0_drawnOf_h24 hQ hF hL h
abbrev wsI_X0_winner (o1 : Nat) : List Nat := []
abbrev wsL_X0_winner (o1 : Nat) : List Nat := []
abbrev fsI_X0_winner (o1 : Nat) : List (Nat × Nat) := [(o1, 2)]
abbrev fsL_X0_winner (o1 : Nat) : List (Nat × Nat) := []
set_option maxRecDepth 10000 in
theorem mnX0_winner_l18 {o1 : Nat} {I0 : Ix} {L0 : Lx} {Q Q' : Int32 → Ix → Lx → Prop} {P18 P18' : Int32 → Int32 → Int32 → Int32 → Ix → Lx → Prop} (hQ : ∀ (r : Int32) (I1 : Ix) (L1 : Lx), FrI (wsI_X0_winner o1) (fsI_X0_winner o1) I0 I1 → FrL (wsL_X0_winner o1) (fsL_X0_winner o1) L0 L1 → Q r I1 L1 → Q' r I1 L1) (hP18 : ∀ (v2 : Int32) (v3 : Int32) (v4 : Int32) (v5 : Int32) (I1 : Ix) (L1 : Lx), FrI (wsI_X0_winner o1) (fsI_X0_winner o1) I0 I1 → FrL (wsL_X0_winner o1) (fsL_X0_winner o1) L0 L1 → P18 v2 v3 v4 v5 I1 L1 → P18' v2 v3 v4 v5 I1 L1) {v2 : Int32} {v3 : Int32} {v4 : Int32} {v5 : Int32} {I : Ix} {L : Lx} (hF : FrI (wsI_X0_winner o1) (fsI_X0_winner o1) I0 I) (hL : FrL (wsL_X0_winner o1) (fsL_X0_winner o1) L0 L) (h : wpX0_winner_l18 o1 Q P18 v2 v3 v4 v5 I L) : wpX0_winner_l18 o1 Q' P18' v2 v3 v4 v5 I L := by
  unfold wpX0_winner_l18 at h ⊢
  refine ⟨fun hc => ?_, fun hc => ?_⟩
  · have h := h.1 hc
    exact hQ _ _ _ hF hL h
  · have h := h.2 hc
    refine ⟨fun hc => ?_, fun hc => ?_⟩
    · have h := h.1 hc
      exact hP18 _ _ _ _ _ _ hF hL h
    · have h := h.2 hc
      refine ⟨fun hc => ?_, fun hc => ?_⟩
      · have h := h.1 hc
        exact hP18 _ _ _ _ _ _ hF hL h
      · have h := h.2 hc
        refine mnX0_isAhead (fun r3 I1 L2 hf hl h => ?_) h
        have hF := hF.tr hf (by intro k hk; first | (simp only [List.mem_cons, List.not_mem_nil, or_false] at hk ⊢; omega) | (simp at hk; done) | (simp at hk ⊢; omega)) (by intro q hq; obtain ⟨k, j⟩ := q; first | (simp only [List.mem_cons, List.not_mem_nil, or_false, Prod.mk.injEq] at hq ⊢; omega) | (simp at hq; done))
        have hL := hL.tr hl (by intro k hk; first | (simp only [List.mem_cons, List.not_mem_nil, or_false] at hk ⊢; omega) | (simp at hk; done) | (simp at hk ⊢; omega)) (by intro q hq; obtain ⟨k, j⟩ := q; first | (simp only [List.mem_cons, List.not_mem_nil, or_false, Prod.mk.injEq] at hq ⊢; omega) | (simp at hq; done))
        refine ⟨fun hc => ?_, fun hc => ?_⟩
        · have h := h.1 hc
          exact hP18 _ _ _ _ _ _ hF hL h
        · have h := h.2 hc
          exact hP18 _ _ _ _ _ _ hF hL h
set_option maxRecDepth 10000 in
theorem mnX0_winner_h18 {o1 : Nat} {I0 : Ix} {L0 : Lx} {Q Q' : Int32 → Ix → Lx → Prop} (hQ : ∀ (r : Int32) (I1 : Ix) (L1 : Lx), FrI (wsI_X0_winner o1) (fsI_X0_winner o1) I0 I1 → FrL (wsL_X0_winner o1) (fsL_X0_winner o1) L0 L1 → Q r I1 L1 → Q' r I1 L1) {v2 : Int32} {v3 : Int32} {v4 : Int32} {v5 : Int32} {I : Ix} {L : Lx} (hF : FrI (wsI_X0_winner o1) (fsI_X0_winner o1) I0 I) (hL : FrL (wsL_X0_winner o1) (fsL_X0_winner o1) L0 L) (h : wpX0_winner_h18 o1 Q v2 v3 v4 v5 I L) : wpX0_winner_h18 o1 Q' v2 v3 v4 v5 I L := by
  unfold wpX0_winner_h18 at h
  refine Lfp.ind (P := fun z => FrI (wsI_X0_winner o1) (fsI_X0_winner o1) I0 z.2.2.2.2.1 → FrL (wsL_X0_winner o1) (fsL_X0_winner o1) L0 z.2.2.2.2.2 → wpX0_winner_h18 o1 Q' z.1 z.2.1 z.2.2.1 z.2.2.2.1 z.2.2.2.2.1 z.2.2.2.2.2) ?_ h hF hL
  intro z P' hP' h hF hL
  obtain ⟨v2, v3, v4, v5, I, L⟩ := z
  exact wpX0_winner_h18_fold (mnX0_winner_l18 hQ (fun v2 v3 v4 v5 I L hF hL h9 => hP' (v2, v3, v4, v5, I, L) h9 hF hL) hF hL h)
set_option maxRecDepth 10000 in
theorem mnX0_winner {o1 : Nat} {a2 : Int32} {a3 : Int32} {I : Ix} {L : Lx} {Q Q' : Int32 → Ix → Lx → Prop} (hQ : ∀ (r : Int32) (I1 : Ix) (L1 : Lx), FrI (wsI_X0_winner o1) (fsI_X0_winner o1) I I1 → FrL (wsL_X0_winner o1) (fsL_X0_winner o1) L L1 → Q r I1 L1 → Q' r I1 L1) (h : wpX0_winner o1 a2 a3 I L Q) : wpX0_winner o1 a2 a3 I L Q' := by
  have hF : FrI (wsI_X0_winner o1) (fsI_X0_winner o1) I I := FrI.rf
  have hL : FrL (wsL_X0_winner o1) (fsL_X0_winner o1) L L := FrL.rf
  unfold wpX0_winner at h ⊢
  refine ⟨fun hc => ?_, fun hc => ?_⟩
  · have h := h.1 hc
    exact mnX0_winner_h18 hQ hF hL h
  · have h := h.2 hc
    refine mnX0_drawnOf (fun r3 I1 L2 hf hl h => ?_) h
    have hF := hF.tr hf (by intro k hk; first | (simp only [List.mem_cons, List.not_mem_nil, or_false] at hk ⊢; omega) | (simp at hk; done) | (simp at hk ⊢; omega)) (by intro q hq; obtain ⟨k, j⟩ := q; first | (simp only [List.mem_cons, List.not_mem_nil, or_false, Prod.mk.injEq] at hq ⊢; omega) | (simp at hq; done))
    have hL := hL.tr hl (by intro k hk; first | (simp only [List.mem_cons, List.not_mem_nil, or_false] at hk ⊢; omega) | (simp at hk; done) | (simp at hk ⊢; omega)) (by intro q hq; obtain ⟨k, j⟩ := q; first | (simp only [List.mem_cons, List.not_mem_nil, or_false, Prod.mk.injEq] at hq ⊢; omega) | (simp at hq; done))
    exact hQ _ _ _ hF hL h
abbrev wsI_X10_isTaker_3 : List Nat := []
abbrev wsL_X10_isTaker_3 : List Nat := []
abbrev fsI_X10_isTaker_3 : List (Nat × Nat) := []
abbrev fsL_X10_isTaker_3 : List (Nat × Nat) := []
set_option maxRecDepth 10000 in
theorem mnX10_isTaker_3 {a1 : Int32} {a2 : Int32} {I : Ix} {L : Lx} {Q Q' : Bool → Ix → Lx → Prop} (hQ : ∀ (r : Bool) (I1 : Ix) (L1 : Lx), FrI (wsI_X10_isTaker_3) (fsI_X10_isTaker_3) I I1 → FrL (wsL_X10_isTaker_3) (fsL_X10_isTaker_3) L L1 → Q r I1 L1 → Q' r I1 L1) (h : wpX10_isTaker_3 a1 a2 I L Q) : wpX10_isTaker_3 a1 a2 I L Q' := by
  have hF : FrI (wsI_X10_isTaker_3) (fsI_X10_isTaker_3) I I := FrI.rf
  have hL : FrL (wsL_X10_isTaker_3) (fsL_X10_isTaker_3) L L := FrL.rf
  unfold wpX10_isTaker_3 at h ⊢
  refine ⟨h.1, ?_⟩
  have h := h.2
  refine ⟨h.1, ?_⟩
  have h := h.2
  refine ⟨fun hc => ?_, fun hc => ?_⟩
  · have h := h.1 hc
    exact hQ _ _ _ hF hL h
  · have h := h.2 hc
    exact hQ _ _ _ hF hL h
abbrev wsI_X0_settle (o1 : Nat) : List Nat := [o1 + 3, o1 + 1, 68]
abbrev wsL_X0_settle (o1 : Nat) : List Nat := []
abbrev fsI_X0_settle (o1 : Nat) : List (Nat × Nat) := [(o1, 2)]
abbrev fsL_X0_settle (o1 : Nat) : List (Nat × Nat) := []
set_option maxRecDepth 10000 in
theorem mnX0_settle_l6 {o1 : Nat} {I0 : Ix} {L0 : Lx} {Q Q' : Ix → Lx → Prop} {P6 P6' : Int32 → Int32 → Int32 → Int32 → Ix → Lx → Prop} (hQ : ∀ (I1 : Ix) (L1 : Lx), FrI (wsI_X0_settle o1) (fsI_X0_settle o1) I0 I1 → FrL (wsL_X0_settle o1) (fsL_X0_settle o1) L0 L1 → Q I1 L1 → Q' I1 L1) (hP6 : ∀ (v2 : Int32) (v3 : Int32) (v4 : Int32) (v5 : Int32) (I1 : Ix) (L1 : Lx), FrI (wsI_X0_settle o1) (fsI_X0_settle o1) I0 I1 → FrL (wsL_X0_settle o1) (fsL_X0_settle o1) L0 L1 → P6 v2 v3 v4 v5 I1 L1 → P6' v2 v3 v4 v5 I1 L1) {v2 : Int32} {v3 : Int32} {v4 : Int32} {v5 : Int32} {I : Ix} {L : Lx} (hF : FrI (wsI_X0_settle o1) (fsI_X0_settle o1) I0 I) (hL : FrL (wsL_X0_settle o1) (fsL_X0_settle o1) L0 L) (h : wpX0_settle_l6 o1 Q P6 v2 v3 v4 v5 I L) : wpX0_settle_l6 o1 Q' P6' v2 v3 v4 v5 I L := by
  unfold wpX0_settle_l6 at h ⊢
  refine ⟨fun hc => ?_, fun hc => ?_⟩
  · have h := h.1 hc
    refine ⟨h.1, ?_⟩
    have h := h.2
    intro I1 eI1
    have h := h I1 eI1
    have hF := hF.pw eI1 (by simp)
    refine ⟨h.1, ?_⟩
    have h := h.2
    refine ⟨fun hc => ?_, fun hc => ?_⟩
    · have h := h.1 hc
      refine ⟨fun hc => ?_, fun hc => ?_⟩
      · have h := h.1 hc
        exact hQ _ _ hF hL h
      · have h := h.2 hc
        refine ⟨h.1, ?_⟩
        have h := h.2
        refine ⟨fun hc => ?_, fun hc => ?_⟩
        · have h := h.1 hc
          exact hQ _ _ hF hL h
        · have h := h.2 hc
          refine ⟨h.1, ?_⟩
          have h := h.2
          intro I2 eI2
          have h := h I2 eI2
          have hF := hF.pw eI2 (by simp)
          exact hQ _ _ hF hL h
    · have h := h.2 hc
      refine ⟨h.1, ?_⟩
      have h := h.2
      refine mnX0_winner (fun r5 I3 L4 hf hl h => ?_) h
      have hF := hF.tr hf (by intro k hk; first | (simp only [List.mem_cons, List.not_mem_nil, or_false] at hk ⊢; omega) | (simp at hk; done) | (simp at hk ⊢; omega)) (by intro q hq; obtain ⟨k, j⟩ := q; first | (simp only [List.mem_cons, List.not_mem_nil, or_false, Prod.mk.injEq] at hq ⊢; omega) | (simp at hq; done))
      have hL := hL.tr hl (by intro k hk; first | (simp only [List.mem_cons, List.not_mem_nil, or_false] at hk ⊢; omega) | (simp at hk; done) | (simp at hk ⊢; omega)) (by intro q hq; obtain ⟨k, j⟩ := q; first | (simp only [List.mem_cons, List.not_mem_nil, or_false, Prod.mk.injEq] at hq ⊢; omega) | (simp at hq; done))
      refine ⟨h.1, ?_⟩
      have h := h.2
      intro I6 eI6
      have h := h I6 eI6
      have hF := hF.pw eI6 (by simp)
      exact hQ _ _ hF hL h
  · have h := h.2 hc
    refine ⟨h.1, ?_⟩
    have h := h.2
    refine ⟨fun hc => ?_, fun hc => ?_⟩
    · have h := h.1 hc
      exact hP6 _ _ _ _ _ _ hF hL h
    · have h := h.2 hc
      refine mnX10_isTaker_3 (fun r9 I7 L8 hf hl h => ?_) h
      have hF := hF.tr hf (by intro k hk; first | (simp only [List.mem_cons, List.not_mem_nil, or_false] at hk ⊢; omega) | (simp at hk; done) | (simp at hk ⊢; omega)) (by intro q hq; obtain ⟨k, j⟩ := q; first | (simp only [List.mem_cons, List.not_mem_nil, or_false, Prod.mk.injEq] at hq ⊢; omega) | (simp at hq; done))
      have hL := hL.tr hl (by intro k hk; first | (simp only [List.mem_cons, List.not_mem_nil, or_false] at hk ⊢; omega) | (simp at hk; done) | (simp at hk ⊢; omega)) (by intro q hq; obtain ⟨k, j⟩ := q; first | (simp only [List.mem_cons, List.not_mem_nil, or_false, Prod.mk.injEq] at hq ⊢; omega) | (simp at hq; done))
      refine ⟨fun hc => ?_, fun hc => ?_⟩
      · have h := h.1 hc
        exact hP6 _ _ _ _ _ _ hF hL h
      · have h := h.2 hc
        refine ⟨h.1, ?_⟩
        have h := h.2
        refine ⟨h.1, ?_⟩
        have h := h.2
        intro I10 eI10
        have h := h I10 eI10
        have hF := hF.pw eI10 (by simp)
        exact hP6 _ _ _ _ _ _ hF hL h
set_option maxRecDepth 10000 in
theorem mnX0_settle_h6 {o1 : Nat} {I0 : Ix} {L0 : Lx} {Q Q' : Ix → Lx → Prop} (hQ : ∀ (I1 : Ix) (L1 : Lx), FrI (wsI_X0_settle o1) (fsI_X0_settle o1) I0 I1 → FrL (wsL_X0_settle o1) (fsL_X0_settle o1) L0 L1 → Q I1 L1 → Q' I1 L1) {v2 : Int32} {v3 : Int32} {v4 : Int32} {v5 : Int32} {I : Ix} {L : Lx} (hF : FrI (wsI_X0_settle o1) (fsI_X0_settle o1) I0 I) (hL : FrL (wsL_X0_settle o1) (fsL_X0_settle o1) L0 L) (h : wpX0_settle_h6 o1 Q v2 v3 v4 v5 I L) : wpX0_settle_h6 o1 Q' v2 v3 v4 v5 I L := by
  unfold wpX0_settle_h6 at h
  refine Lfp.ind (P := fun z => FrI (wsI_X0_settle o1) (fsI_X0_settle o1) I0 z.2.2.2.2.1 → FrL (wsL_X0_settle o1) (fsL_X0_settle o1) L0 z.2.2.2.2.2 → wpX0_settle_h6 o1 Q' z.1 z.2.1 z.2.2.1 z.2.2.2.1 z.2.2.2.2.1 z.2.2.2.2.2) ?_ h hF hL
  intro z P' hP' h hF hL
  obtain ⟨v2, v3, v4, v5, I, L⟩ := z
  exact wpX0_settle_h6_fold (mnX0_settle_l6 hQ (fun v2 v3 v4 v5 I L hF hL h9 => hP' (v2, v3, v4, v5, I, L) h9 hF hL) hF hL h)
set_option maxRecDepth 10000 in
theorem mnX0_settle {o1 : Nat} {a2 : Int32} {a3 : Int32} {I : Ix} {L : Lx} {Q Q' : Ix → Lx → Prop} (hQ : ∀ (I1 : Ix) (L1 : Lx), FrI (wsI_X0_settle o1) (fsI_X0_settle o1) I I1 → FrL (wsL_X0_settle o1) (fsL_X0_settle o1) L L1 → Q I1 L1 → Q' I1 L1) (h : wpX0_settle o1 a2 a3 I L Q) : wpX0_settle o1 a2 a3 I L Q' := by
  have hF : FrI (wsI_X0_settle o1) (fsI_X0_settle o1) I I := FrI.rf
  have hL : FrL (wsL_X0_settle o1) (fsL_X0_settle o1) L L := FrL.rf
  unfold wpX0_settle at h ⊢
  exact mnX0_settle_h6 hQ hF hL h
abbrev wsI_X0_remember (o1 : Nat) : List Nat := [64, 65, 68]
abbrev wsL_X0_remember (o1 : Nat) : List Nat := []
abbrev fsI_X0_remember (o1 : Nat) : List (Nat × Nat) := []
abbrev fsL_X0_remember (o1 : Nat) : List (Nat × Nat) := []
set_option maxRecDepth 10000 in
theorem mnX0_remember_l2 {o1 : Nat} {I0 : Ix} {L0 : Lx} {Q Q' : Ix → Lx → Prop} {P2 P2' : Int32 → Ix → Lx → Prop} (hQ : ∀ (I1 : Ix) (L1 : Lx), FrI (wsI_X0_remember o1) (fsI_X0_remember o1) I0 I1 → FrL (wsL_X0_remember o1) (fsL_X0_remember o1) L0 L1 → Q I1 L1 → Q' I1 L1) (hP2 : ∀ (v2 : Int32) (I1 : Ix) (L1 : Lx), FrI (wsI_X0_remember o1) (fsI_X0_remember o1) I0 I1 → FrL (wsL_X0_remember o1) (fsL_X0_remember o1) L0 L1 → P2 v2 I1 L1 → P2' v2 I1 L1) {v2 : Int32} {I : Ix} {L : Lx} (hF : FrI (wsI_X0_remember o1) (fsI_X0_remember o1) I0 I) (hL : FrL (wsL_X0_remember o1) (fsL_X0_remember o1) L0 L) (h : wpX0_remember_l2 o1 Q P2 v2 I L) : wpX0_remember_l2 o1 Q' P2' v2 I L := by
  unfold wpX0_remember_l2 at h ⊢
  refine ⟨fun hc => ?_, fun hc => ?_⟩
  · have h := h.1 hc
    exact hQ _ _ hF hL h
  · have h := h.2 hc
    refine ⟨h.1, ?_⟩
    have h := h.2
    refine ⟨h.1, ?_⟩
    have h := h.2
    intro I1 eI1
    have h := h I1 eI1
    have hF := hF.pw eI1 (by simp)
    refine ⟨h.1, ?_⟩
    have h := h.2
    refine ⟨h.1, ?_⟩
    have h := h.2
    intro I2 eI2
    have h := h I2 eI2
    have hF := hF.pw eI2 (by simp)
    refine ⟨h.1, ?_⟩
    have h := h.2
    intro I3 eI3
    have h := h I3 eI3
    have hF := hF.pw eI3 (by simp)
    exact hP2 _ _ _ hF hL h
set_option maxRecDepth 10000 in
theorem mnX0_remember_h2 {o1 : Nat} {I0 : Ix} {L0 : Lx} {Q Q' : Ix → Lx → Prop} (hQ : ∀ (I1 : Ix) (L1 : Lx), FrI (wsI_X0_remember o1) (fsI_X0_remember o1) I0 I1 → FrL (wsL_X0_remember o1) (fsL_X0_remember o1) L0 L1 → Q I1 L1 → Q' I1 L1) {v2 : Int32} {I : Ix} {L : Lx} (hF : FrI (wsI_X0_remember o1) (fsI_X0_remember o1) I0 I) (hL : FrL (wsL_X0_remember o1) (fsL_X0_remember o1) L0 L) (h : wpX0_remember_h2 o1 Q v2 I L) : wpX0_remember_h2 o1 Q' v2 I L := by
  unfold wpX0_remember_h2 at h
  refine Lfp.ind (P := fun z => FrI (wsI_X0_remember o1) (fsI_X0_remember o1) I0 z.2.1 → FrL (wsL_X0_remember o1) (fsL_X0_remember o1) L0 z.2.2 → wpX0_remember_h2 o1 Q' z.1 z.2.1 z.2.2) ?_ h hF hL
  intro z P' hP' h hF hL
  obtain ⟨v2, I, L⟩ := z
  exact wpX0_remember_h2_fold (mnX0_remember_l2 hQ (fun v2 I L hF hL h9 => hP' (v2, I, L) h9 hF hL) hF hL h)
set_option maxRecDepth 10000 in
theorem mnX0_remember {o1 : Nat} {I : Ix} {L : Lx} {Q Q' : Ix → Lx → Prop} (hQ : ∀ (I1 : Ix) (L1 : Lx), FrI (wsI_X0_remember o1) (fsI_X0_remember o1) I I1 → FrL (wsL_X0_remember o1) (fsL_X0_remember o1) L L1 → Q I1 L1 → Q' I1 L1) (h : wpX0_remember o1 I L Q) : wpX0_remember o1 I L Q' := by
  have hF : FrI (wsI_X0_remember o1) (fsI_X0_remember o1) I I := FrI.rf
  have hL : FrL (wsL_X0_remember o1) (fsL_X0_remember o1) L L := FrL.rf
  unfold wpX0_remember at h ⊢
  exact mnX0_remember_h2 hQ hF hL h
abbrev wsI_X0_noons (o1 : Nat) : List Nat := [66, 67, o1 + 6, 63, 14, o1 + 3, o1 + 1, 68, 64, 65]
abbrev wsL_X0_noons (o1 : Nat) : List Nat := []
abbrev fsI_X0_noons (o1 : Nat) : List (Nat × Nat) := [(o1, 2)]
abbrev fsL_X0_noons (o1 : Nat) : List (Nat × Nat) := []
set_option maxRecDepth 10000 in
theorem mnX0_noons_l138 {o1 : Nat} {I0 : Ix} {L0 : Lx} {Q Q' : Ix → Lx → Prop} {P51 P51' : Int32 → Int32 → Ix → Lx → Prop} {P138 P138' : Int32 → Int32 → Int32 → Int32 → Ix → Lx → Prop} (hQ : ∀ (I1 : Ix) (L1 : Lx), FrI (wsI_X0_noons o1) (fsI_X0_noons o1) I0 I1 → FrL (wsL_X0_noons o1) (fsL_X0_noons o1) L0 L1 → Q I1 L1 → Q' I1 L1) (hP51 : ∀ (v2 : Int32) (v5 : Int32) (I1 : Ix) (L1 : Lx), FrI (wsI_X0_noons o1) (fsI_X0_noons o1) I0 I1 → FrL (wsL_X0_noons o1) (fsL_X0_noons o1) L0 L1 → P51 v2 v5 I1 L1 → P51' v2 v5 I1 L1) (hP138 : ∀ (v2 : Int32) (v5 : Int32) (v6 : Int32) (v7 : Int32) (I1 : Ix) (L1 : Lx), FrI (wsI_X0_noons o1) (fsI_X0_noons o1) I0 I1 → FrL (wsL_X0_noons o1) (fsL_X0_noons o1) L0 L1 → P138 v2 v5 v6 v7 I1 L1 → P138' v2 v5 v6 v7 I1 L1) {v2 : Int32} {v5 : Int32} {v6 : Int32} {v7 : Int32} {I : Ix} {L : Lx} (hF : FrI (wsI_X0_noons o1) (fsI_X0_noons o1) I0 I) (hL : FrL (wsL_X0_noons o1) (fsL_X0_noons o1) L0 L) (h : wpX0_noons_l138 o1 Q P51 P138 v2 v5 v6 v7 I L) : wpX0_noons_l138 o1 Q' P51' P138' v2 v5 v6 v7 I L := by
  unfold wpX0_noons_l138 at h ⊢
  refine ⟨fun hc => ?_, fun hc => ?_⟩
  · have h := h.1 hc
    exact hP51 _ _ _ _ hF hL h
  · have h := h.2 hc
    refine mnX0_stoodAt (fun r3 I1 L2 hf hl h => ?_) h
    have hF := hF.tr hf (by intro k hk; first | (simp only [List.mem_cons, List.not_mem_nil, or_false] at hk ⊢; omega) | (simp at hk; done) | (simp at hk ⊢; omega)) (by intro q hq; obtain ⟨k, j⟩ := q; first | (simp only [List.mem_cons, List.not_mem_nil, or_false, Prod.mk.injEq] at hq ⊢; omega) | (simp at hq; done))
    have hL := hL.tr hl (by intro k hk; first | (simp only [List.mem_cons, List.not_mem_nil, or_false] at hk ⊢; omega) | (simp at hk; done) | (simp at hk ⊢; omega)) (by intro q hq; obtain ⟨k, j⟩ := q; first | (simp only [List.mem_cons, List.not_mem_nil, or_false, Prod.mk.injEq] at hq ⊢; omega) | (simp at hq; done))
    refine ⟨fun hc => ?_, fun hc => ?_⟩
    · have h := h.1 hc
      exact hP138 _ _ _ _ _ _ hF hL h
    · have h := h.2 hc
      refine ⟨h.1, ?_⟩
      have h := h.2
      refine mnX0_setOut (fun I4 L5 hf hl h => ?_) h
      have hF := hF.tr hf (by intro k hk; first | (simp only [List.mem_cons, List.not_mem_nil, or_false] at hk ⊢; omega) | (simp at hk; done) | (simp at hk ⊢; omega)) (by intro q hq; obtain ⟨k, j⟩ := q; first | (simp only [List.mem_cons, List.not_mem_nil, or_false, Prod.mk.injEq] at hq ⊢; omega) | (simp at hq; done))
      have hL := hL.tr hl (by intro k hk; first | (simp only [List.mem_cons, List.not_mem_nil, or_false] at hk ⊢; omega) | (simp at hk; done) | (simp at hk ⊢; omega)) (by intro q hq; obtain ⟨k, j⟩ := q; first | (simp only [List.mem_cons, List.not_mem_nil, or_false, Prod.mk.injEq] at hq ⊢; omega) | (simp at hq; done))
      exact hP138 _ _ _ _ _ _ hF hL h
set_option maxRecDepth 10000 in
theorem mnX0_noons_h138 {o1 : Nat} {I0 : Ix} {L0 : Lx} {Q Q' : Ix → Lx → Prop} {P51 P51' : Int32 → Int32 → Ix → Lx → Prop} (hQ : ∀ (I1 : Ix) (L1 : Lx), FrI (wsI_X0_noons o1) (fsI_X0_noons o1) I0 I1 → FrL (wsL_X0_noons o1) (fsL_X0_noons o1) L0 L1 → Q I1 L1 → Q' I1 L1) (hP51 : ∀ (v2 : Int32) (v5 : Int32) (I1 : Ix) (L1 : Lx), FrI (wsI_X0_noons o1) (fsI_X0_noons o1) I0 I1 → FrL (wsL_X0_noons o1) (fsL_X0_noons o1) L0 L1 → P51 v2 v5 I1 L1 → P51' v2 v5 I1 L1) {v2 : Int32} {v5 : Int32} {v6 : Int32} {v7 : Int32} {I : Ix} {L : Lx} (hF : FrI (wsI_X0_noons o1) (fsI_X0_noons o1) I0 I) (hL : FrL (wsL_X0_noons o1) (fsL_X0_noons o1) L0 L) (h : wpX0_noons_h138 o1 Q P51 v2 v5 v6 v7 I L) : wpX0_noons_h138 o1 Q' P51' v2 v5 v6 v7 I L := by
  unfold wpX0_noons_h138 at h
  refine Lfp.ind (P := fun z => FrI (wsI_X0_noons o1) (fsI_X0_noons o1) I0 z.2.2.2.2.1 → FrL (wsL_X0_noons o1) (fsL_X0_noons o1) L0 z.2.2.2.2.2 → wpX0_noons_h138 o1 Q' P51' z.1 z.2.1 z.2.2.1 z.2.2.2.1 z.2.2.2.2.1 z.2.2.2.2.2) ?_ h hF hL
  intro z P' hP' h hF hL
  obtain ⟨v2, v5, v6, v7, I, L⟩ := z
  exact wpX0_noons_h138_fold (mnX0_noons_l138 hQ hP51 (fun v2 v5 v6 v7 I L hF hL h9 => hP' (v2, v5, v6, v7, I, L) h9 hF hL) hF hL h)
set_option maxRecDepth 10000 in
theorem mnX0_noons_l84 {o1 : Nat} {I0 : Ix} {L0 : Lx} {Q Q' : Ix → Lx → Prop} {P51 P51' : Int32 → Int32 → Ix → Lx → Prop} {P84 P84' : Int32 → Int32 → Int32 → Int32 → Ix → Lx → Prop} (hQ : ∀ (I1 : Ix) (L1 : Lx), FrI (wsI_X0_noons o1) (fsI_X0_noons o1) I0 I1 → FrL (wsL_X0_noons o1) (fsL_X0_noons o1) L0 L1 → Q I1 L1 → Q' I1 L1) (hP51 : ∀ (v2 : Int32) (v5 : Int32) (I1 : Ix) (L1 : Lx), FrI (wsI_X0_noons o1) (fsI_X0_noons o1) I0 I1 → FrL (wsL_X0_noons o1) (fsL_X0_noons o1) L0 L1 → P51 v2 v5 I1 L1 → P51' v2 v5 I1 L1) (hP84 : ∀ (v2 : Int32) (v5 : Int32) (v6 : Int32) (v7 : Int32) (I1 : Ix) (L1 : Lx), FrI (wsI_X0_noons o1) (fsI_X0_noons o1) I0 I1 → FrL (wsL_X0_noons o1) (fsL_X0_noons o1) L0 L1 → P84 v2 v5 v6 v7 I1 L1 → P84' v2 v5 v6 v7 I1 L1) {v2 : Int32} {v5 : Int32} {v6 : Int32} {v7 : Int32} {I : Ix} {L : Lx} (hF : FrI (wsI_X0_noons o1) (fsI_X0_noons o1) I0 I) (hL : FrL (wsL_X0_noons o1) (fsL_X0_noons o1) L0 L) (h : wpX0_noons_l84 o1 Q P51 P84 v2 v5 v6 v7 I L) : wpX0_noons_l84 o1 Q' P51' P84' v2 v5 v6 v7 I L := by
  unfold wpX0_noons_l84 at h ⊢
  refine ⟨fun hc => ?_, fun hc => ?_⟩
  · have h := h.1 hc
    exact mnX0_noons_h138 hQ hP51 hF hL h
  · have h := h.2 hc
    refine ⟨h.1, ?_⟩
    have h := h.2
    refine ⟨fun hc => ?_, fun hc => ?_⟩
    · have h := h.1 hc
      exact hP84 _ _ _ _ _ _ hF hL h
    · have h := h.2 hc
      refine ⟨h.1, ?_⟩
      have h := h.2
      refine ⟨fun hc => ?_, fun hc => ?_⟩
      · have h := h.1 hc
        exact hP84 _ _ _ _ _ _ hF hL h
      · have h := h.2 hc
        refine mnX0_settle (fun I1 L2 hf hl h => ?_) h
        have hF := hF.tr hf (by intro k hk; first | (simp only [List.mem_cons, List.not_mem_nil, or_false] at hk ⊢; omega) | (simp at hk; done) | (simp at hk ⊢; omega)) (by intro q hq; obtain ⟨k, j⟩ := q; first | (simp only [List.mem_cons, List.not_mem_nil, or_false, Prod.mk.injEq] at hq ⊢; omega) | (simp at hq; done))
        have hL := hL.tr hl (by intro k hk; first | (simp only [List.mem_cons, List.not_mem_nil, or_false] at hk ⊢; omega) | (simp at hk; done) | (simp at hk ⊢; omega)) (by intro q hq; obtain ⟨k, j⟩ := q; first | (simp only [List.mem_cons, List.not_mem_nil, or_false, Prod.mk.injEq] at hq ⊢; omega) | (simp at hq; done))
        exact hP84 _ _ _ _ _ _ hF hL h
set_option maxRecDepth 10000 in
theorem mnX0_noons_h84 {o1 : Nat} {I0 : Ix} {L0 : Lx} {Q Q' : Ix → Lx → Prop} {P51 P51' : Int32 → Int32 → Ix → Lx → Prop} (hQ : ∀ (I1 : Ix) (L1 : Lx), FrI (wsI_X0_noons o1) (fsI_X0_noons o1) I0 I1 → FrL (wsL_X0_noons o1) (fsL_X0_noons o1) L0 L1 → Q I1 L1 → Q' I1 L1) (hP51 : ∀ (v2 : Int32) (v5 : Int32) (I1 : Ix) (L1 : Lx), FrI (wsI_X0_noons o1) (fsI_X0_noons o1) I0 I1 → FrL (wsL_X0_noons o1) (fsL_X0_noons o1) L0 L1 → P51 v2 v5 I1 L1 → P51' v2 v5 I1 L1) {v2 : Int32} {v5 : Int32} {v6 : Int32} {v7 : Int32} {I : Ix} {L : Lx} (hF : FrI (wsI_X0_noons o1) (fsI_X0_noons o1) I0 I) (hL : FrL (wsL_X0_noons o1) (fsL_X0_noons o1) L0 L) (h : wpX0_noons_h84 o1 Q P51 v2 v5 v6 v7 I L) : wpX0_noons_h84 o1 Q' P51' v2 v5 v6 v7 I L := by
  unfold wpX0_noons_h84 at h
  refine Lfp.ind (P := fun z => FrI (wsI_X0_noons o1) (fsI_X0_noons o1) I0 z.2.2.2.2.1 → FrL (wsL_X0_noons o1) (fsL_X0_noons o1) L0 z.2.2.2.2.2 → wpX0_noons_h84 o1 Q' P51' z.1 z.2.1 z.2.2.1 z.2.2.2.1 z.2.2.2.2.1 z.2.2.2.2.2) ?_ h hF hL
  intro z P' hP' h hF hL
  obtain ⟨v2, v5, v6, v7, I, L⟩ := z
  exact wpX0_noons_h84_fold (mnX0_noons_l84 hQ hP51 (fun v2 v5 v6 v7 I L hF hL h9 => hP' (v2, v5, v6, v7, I, L) h9 hF hL) hF hL h)
set_option maxRecDepth 10000 in
theorem mnX0_noons_l51 {o1 : Nat} {I0 : Ix} {L0 : Lx} {Q Q' : Ix → Lx → Prop} {P51 P51' : Int32 → Int32 → Ix → Lx → Prop} (hQ : ∀ (I1 : Ix) (L1 : Lx), FrI (wsI_X0_noons o1) (fsI_X0_noons o1) I0 I1 → FrL (wsL_X0_noons o1) (fsL_X0_noons o1) L0 L1 → Q I1 L1 → Q' I1 L1) (hP51 : ∀ (v2 : Int32) (v5 : Int32) (I1 : Ix) (L1 : Lx), FrI (wsI_X0_noons o1) (fsI_X0_noons o1) I0 I1 → FrL (wsL_X0_noons o1) (fsL_X0_noons o1) L0 L1 → P51 v2 v5 I1 L1 → P51' v2 v5 I1 L1) {v2 : Int32} {v5 : Int32} {I : Ix} {L : Lx} (hF : FrI (wsI_X0_noons o1) (fsI_X0_noons o1) I0 I) (hL : FrL (wsL_X0_noons o1) (fsL_X0_noons o1) L0 L) (h : wpX0_noons_l51 o1 Q P51 v2 v5 I L) : wpX0_noons_l51 o1 Q' P51' v2 v5 I L := by
  unfold wpX0_noons_l51 at h ⊢
  refine ⟨fun hc => ?_, fun hc => ?_⟩
  · have h := h.1 hc
    exact hQ _ _ hF hL h
  · have h := h.2 hc
    refine ⟨h.1, ?_⟩
    have h := h.2
    exact mnX0_noons_h84 hQ hP51 hF hL h
set_option maxRecDepth 10000 in
theorem mnX0_noons_h51 {o1 : Nat} {I0 : Ix} {L0 : Lx} {Q Q' : Ix → Lx → Prop} (hQ : ∀ (I1 : Ix) (L1 : Lx), FrI (wsI_X0_noons o1) (fsI_X0_noons o1) I0 I1 → FrL (wsL_X0_noons o1) (fsL_X0_noons o1) L0 L1 → Q I1 L1 → Q' I1 L1) {v2 : Int32} {v5 : Int32} {I : Ix} {L : Lx} (hF : FrI (wsI_X0_noons o1) (fsI_X0_noons o1) I0 I) (hL : FrL (wsL_X0_noons o1) (fsL_X0_noons o1) L0 L) (h : wpX0_noons_h51 o1 Q v2 v5 I L) : wpX0_noons_h51 o1 Q' v2 v5 I L := by
  unfold wpX0_noons_h51 at h
  refine Lfp.ind (P := fun z => FrI (wsI_X0_noons o1) (fsI_X0_noons o1) I0 z.2.2.1 → FrL (wsL_X0_noons o1) (fsL_X0_noons o1) L0 z.2.2.2 → wpX0_noons_h51 o1 Q' z.1 z.2.1 z.2.2.1 z.2.2.2) ?_ h hF hL
  intro z P' hP' h hF hL
  obtain ⟨v2, v5, I, L⟩ := z
  exact wpX0_noons_h51_fold (mnX0_noons_l51 hQ (fun v2 v5 I L hF hL h9 => hP' (v2, v5, I, L) h9 hF hL) hF hL h)
set_option maxRecDepth 10000 in
theorem mnX0_noons_l21 {o1 : Nat} {I0 : Ix} {L0 : Lx} {Q Q' : Ix → Lx → Prop} {P21 P21' : Int32 → Int32 → Int32 → Ix → Lx → Prop} (hQ : ∀ (I1 : Ix) (L1 : Lx), FrI (wsI_X0_noons o1) (fsI_X0_noons o1) I0 I1 → FrL (wsL_X0_noons o1) (fsL_X0_noons o1) L0 L1 → Q I1 L1 → Q' I1 L1) (hP21 : ∀ (v2 : Int32) (v4 : Int32) (v5 : Int32) (I1 : Ix) (L1 : Lx), FrI (wsI_X0_noons o1) (fsI_X0_noons o1) I0 I1 → FrL (wsL_X0_noons o1) (fsL_X0_noons o1) L0 L1 → P21 v2 v4 v5 I1 L1 → P21' v2 v4 v5 I1 L1) {v2 : Int32} {v4 : Int32} {v5 : Int32} {I : Ix} {L : Lx} (hF : FrI (wsI_X0_noons o1) (fsI_X0_noons o1) I0 I) (hL : FrL (wsL_X0_noons o1) (fsL_X0_noons o1) L0 L) (h : wpX0_noons_l21 o1 Q P21 v2 v4 v5 I L) : wpX0_noons_l21 o1 Q' P21' v2 v4 v5 I L := by
  unfold wpX0_noons_l21 at h ⊢
  refine ⟨fun hc => ?_, fun hc => ?_⟩
  · have h := h.1 hc
    exact mnX0_noons_h51 hQ hF hL h
  · have h := h.2 hc
    refine mnX0_setOut (fun I1 L2 hf hl h => ?_) h
    have hF := hF.tr hf (by intro k hk; first | (simp only [List.mem_cons, List.not_mem_nil, or_false] at hk ⊢; omega) | (simp at hk; done) | (simp at hk ⊢; omega)) (by intro q hq; obtain ⟨k, j⟩ := q; first | (simp only [List.mem_cons, List.not_mem_nil, or_false, Prod.mk.injEq] at hq ⊢; omega) | (simp at hq; done))
    have hL := hL.tr hl (by intro k hk; first | (simp only [List.mem_cons, List.not_mem_nil, or_false] at hk ⊢; omega) | (simp at hk; done) | (simp at hk ⊢; omega)) (by intro q hq; obtain ⟨k, j⟩ := q; first | (simp only [List.mem_cons, List.not_mem_nil, or_false, Prod.mk.injEq] at hq ⊢; omega) | (simp at hq; done))
    exact hP21 _ _ _ _ _ hF hL h
set_option maxRecDepth 10000 in
theorem mnX0_noons_h21 {o1 : Nat} {I0 : Ix} {L0 : Lx} {Q Q' : Ix → Lx → Prop} (hQ : ∀ (I1 : Ix) (L1 : Lx), FrI (wsI_X0_noons o1) (fsI_X0_noons o1) I0 I1 → FrL (wsL_X0_noons o1) (fsL_X0_noons o1) L0 L1 → Q I1 L1 → Q' I1 L1) {v2 : Int32} {v4 : Int32} {v5 : Int32} {I : Ix} {L : Lx} (hF : FrI (wsI_X0_noons o1) (fsI_X0_noons o1) I0 I) (hL : FrL (wsL_X0_noons o1) (fsL_X0_noons o1) L0 L) (h : wpX0_noons_h21 o1 Q v2 v4 v5 I L) : wpX0_noons_h21 o1 Q' v2 v4 v5 I L := by
  unfold wpX0_noons_h21 at h
  refine Lfp.ind (P := fun z => FrI (wsI_X0_noons o1) (fsI_X0_noons o1) I0 z.2.2.2.1 → FrL (wsL_X0_noons o1) (fsL_X0_noons o1) L0 z.2.2.2.2 → wpX0_noons_h21 o1 Q' z.1 z.2.1 z.2.2.1 z.2.2.2.1 z.2.2.2.2) ?_ h hF hL
  intro z P' hP' h hF hL
  obtain ⟨v2, v4, v5, I, L⟩ := z
  exact wpX0_noons_h21_fold (mnX0_noons_l21 hQ (fun v2 v4 v5 I L hF hL h9 => hP' (v2, v4, v5, I, L) h9 hF hL) hF hL h)
set_option maxRecDepth 10000 in
theorem mnX0_noons {o1 : Nat} {a2 : Int32} {a3 : Int32} {I : Ix} {L : Lx} {Q Q' : Ix → Lx → Prop} (hQ : ∀ (I1 : Ix) (L1 : Lx), FrI (wsI_X0_noons o1) (fsI_X0_noons o1) I I1 → FrL (wsL_X0_noons o1) (fsL_X0_noons o1) L L1 → Q I1 L1 → Q' I1 L1) (h : wpX0_noons o1 a2 a3 I L Q) : wpX0_noons o1 a2 a3 I L Q' := by
  have hF : FrI (wsI_X0_noons o1) (fsI_X0_noons o1) I I := FrI.rf
  have hL : FrL (wsL_X0_noons o1) (fsL_X0_noons o1) L L := FrL.rf
  unfold wpX0_noons at h ⊢
  refine mnX0_remember (fun I1 L2 hf hl h => ?_) h
  have hF := hF.tr hf (by intro k hk; first | (simp only [List.mem_cons, List.not_mem_nil, or_false] at hk ⊢; omega) | (simp at hk; done) | (simp at hk ⊢; omega)) (by intro q hq; obtain ⟨k, j⟩ := q; first | (simp only [List.mem_cons, List.not_mem_nil, or_false, Prod.mk.injEq] at hq ⊢; omega) | (simp at hq; done))
  have hL := hL.tr hl (by intro k hk; first | (simp only [List.mem_cons, List.not_mem_nil, or_false] at hk ⊢; omega) | (simp at hk; done) | (simp at hk ⊢; omega)) (by intro q hq; obtain ⟨k, j⟩ := q; first | (simp only [List.mem_cons, List.not_mem_nil, or_false, Prod.mk.injEq] at hq ⊢; omega) | (simp at hq; done))
  refine ⟨fun hc => ?_, fun hc => ?_⟩
  · have h := h.1 hc
    exact mnX0_noons_h21 hQ hF hL h
  · have h := h.2 hc
    exact mnX0_noons_h21 hQ hF hL h
