/-! ===== what a call leaves stays true ===== -/
def Same (rs : List Nat) (gs : List (Nat × Nat)) (I I' : Ix) : Prop := (∀ k ∈ rs, I' k = I k) ∧ ∀ q ∈ gs, I' q.1 q.2 = I q.1 q.2
def disj (ws : List Nat) (fs : List (Nat × Nat)) (rs : List Nat) (gs : List (Nat × Nat)) : Bool := (rs.all fun k => !(ws.contains k) && fs.all fun q => !(q.1 == k)) && gs.all fun q => !(ws.contains q.1) && !(fs.contains q)
theorem FrI.same {ws : List Nat} {fs : List (Nat × Nat)} {I I' : Ix} (h : FrI ws fs I I') {rs : List Nat} {gs : List (Nat × Nat)} (hd : disj ws fs rs gs = true) : Same rs gs I I' := by
  simp only [disj, Bool.and_eq_true, List.all_eq_true, Bool.not_eq_true', List.contains_eq_mem, decide_eq_false_iff_not, beq_eq_false_iff_ne] at hd
  exact ⟨fun k hk => h.row (hd.1 k hk).1 fun q hq => (hd.1 k hk).2 q hq, fun q hq => h q.1 q.2 (hd.2 q hq).1 (hd.2 q hq).2⟩
theorem Same.tr {rs : List Nat} {gs : List (Nat × Nat)} {I I1 I2 : Ix} (h : Same rs gs I I1) (h1 : Same rs gs I1 I2) : Same rs gs I I2 := ⟨fun k hk => (h1.1 k hk).trans (h.1 k hk), fun q hq => (h1.2 q hq).trans (h.2 q hq)⟩
theorem Same.rf {rs : List Nat} {gs : List (Nat × Nat)} {I : Ix} : Same rs gs I I := ⟨fun _ _ => rfl, fun _ _ => rfl⟩
theorem Same.r {rs : List Nat} {gs : List (Nat × Nat)} {I I' : Ix} (h : Same rs gs I I') (k : Nat) (hk : k ∈ rs := by decide) : I' k = I k := h.1 k hk
theorem Same.f {rs : List Nat} {gs : List (Nat × Nat)} {I I' : Ix} (h : Same rs gs I I') (k j : Nat) (hk : (k, j) ∈ gs := by decide) : I' k j = I k j := h.2 (k, j) hk
abbrev rsTape : List Nat := [2, 121]
abbrev gsTape : List (Nat × Nat) := [(1, 1), (120, 1)]
theorem iTape.keep {I I' : Ix} (s : Same rsTape gsTape I I') (h : iTape I) : iTape I' := by
  obtain ⟨n, h1, h2, h3, h4⟩ := h
  exact ⟨n, h1, by rw [s.f 1 1]; exact h2, by rw [s.f 120 1]; exact h3, by rw [s.r 2, s.r 121]; exact h4⟩
abbrev gsFault : List (Nat × Nat) := [(49, 7), (49, 8), (120, 2), (120, 3)]
theorem iFault.keep {I I' : Ix} (s : Same [] gsFault I I') (h : iFault I) : iFault I' := ⟨by rw [s.f 49 7, s.f 120 2]; exact h.1, by rw [s.f 49 8, s.f 120 3]; exact h.2⟩
abbrev gsTime : List (Nat × Nat) := [(0, 11), (120, 94)]
theorem iTime.keep {I I' : Ix} (s : Same [] gsTime I I') (h : iTime I) : iTime I' := by
  obtain ⟨t, h1, h2, h3⟩ := h
  exact ⟨t, h1, by rw [s.f 0 11]; exact h2, by rw [s.f 120 94]; exact h3⟩
abbrev rsTale : List Nat := [86, 87, 88, 89, 90, 164, 165, 166, 167, 168]
abbrev gsTale : List (Nat × Nat) := [(85, 0), (120, 93)]
theorem iTale.keep {I I' : Ix} {T N : Nat} (s : Same rsTale gsTale I I') (h : iTale I T N) : iTale I' T N := by
  unfold iTale at h ⊢
  rw [s.f 85 0, s.f 120 93, s.r 86, s.r 87, s.r 88, s.r 89, s.r 90, s.r 164, s.r 165, s.r 166, s.r 167, s.r 168]
  exact h
/-- roads, units -/
def iMeta (I : Ix) : Prop := I 4 1 = I 120 43 ∧ I 10 0 = I 120 21
abbrev gsMeta : List (Nat × Nat) := [(4, 1), (120, 43), (10, 0), (120, 21)]
theorem iMeta.keep {I I' : Ix} (s : Same [] gsMeta I I') (h : iMeta I) : iMeta I' := ⟨by rw [s.f 4 1, s.f 120 43]; exact h.1, by rw [s.f 10 0, s.f 120 21]; exact h.2⟩
abbrev rsVX : List Nat := [6, 8, 16, 18, 19, 20, 23, 24, 25, 7]
abbrev gsVX : List (Nat × Nat) := [(4, 0), (3, 2), (3, 3), (3, 4), (3, 5)]
theorem vX.keep {z : Nat → Nat → Nat} {P T N lw lt : Nat} {I I' : Ix} (s : Same rsVX gsVX I I') (h : vX z P T N lw lt I) : vX z P T N lw lt I' := by
  unfold vX at h ⊢
  rw [s.f 4 0, s.f 3 2, s.f 3 3, s.f 3 4, s.f 3 5, s.r 6, s.r 8, s.r 16, s.r 18, s.r 19, s.r 20, s.r 23, s.r 24, s.r 25, s.r 7]
  exact h
abbrev rsVM : List Nat := [138, 140, 141, 142]
abbrev gsVM : List (Nat × Nat) := [(120, 42), (120, 44), (120, 45), (120, 46), (120, 47)]
theorem vM.keep {z : Nat → Nat → Nat} {P T N lw lt : Nat} {I I' : Ix} (s : Same rsVM gsVM I I') (h : vM z P T N lw lt I) : vM z P T N lw lt I' := by
  unfold vM at h ⊢
  rw [s.f 120 42, s.f 120 44, s.f 120 45, s.f 120 46, s.f 120 47, s.r 138, s.r 140, s.r 141, s.r 142]
  exact h
abbrev rsDM : List Nat := [143, 144, 145, 146, 149, 147, 148, 150]
abbrev gsDM : List (Nat × Nat) := [(120, 57), (120, 59), (120, 58)]
theorem dM.keep {d : Ix} {T N dy : Nat} {I I' : Ix} (s : Same rsDM gsDM I I') (h : dM d T N dy I) : dM d T N dy I' := by
  unfold dM at h ⊢
  rw [s.f 120 57, s.f 120 59, s.f 120 58, s.r 143, s.r 144, s.r 145, s.r 146, s.r 149, s.r 147, s.r 148, s.r 150]
  exact h
theorem dX.keep {o : Nat} {d : Ix} {T N dy : Nat} {I I' : Ix} (h1 : I' (o + 1) = I (o + 1)) (h2 : I' (o + 2) = I (o + 2)) (h3 : I' (o + 3) = I (o + 3)) (h4 : I' (o + 4) = I (o + 4)) (h5 : I' (o + 5) = I (o + 5)) (h6 : I' (o + 6) = I (o + 6)) (h7 : I' (o + 7) = I (o + 7)) (h8 : I' (o + 8) = I (o + 8)) (h0 : ∀ j, j < 3 → I' o j = I o j) (h : dX o d T N dy I) : dX o d T N dy I' := by
  obtain ⟨a, b, c, e⟩ := h
  refine ⟨by rw [h1, h2, h3, h4, h5]; exact a, by rw [h6, h7]; exact b, fun j hj => (h0 j hj).trans (c j hj), by rw [h8]; exact e⟩
abbrev rsDX : List Nat := [54, 55, 56, 57, 58, 59, 60, 61]
abbrev gsDX : List (Nat × Nat) := [(53, 0), (53, 1), (53, 2)]
theorem dX53.keep {d : Ix} {T N dy : Nat} {I I' : Ix} (s : Same rsDX gsDX I I') (h : dX 53 d T N dy I) : dX 53 d T N dy I' :=
  dX.keep (s.r 54) (s.r 55) (s.r 56) (s.r 57) (s.r 58) (s.r 59) (s.r 60) (s.r 61) (fun j hj => by
    have : j = 0 ∨ j = 1 ∨ j = 2 := by omega
    rcases this with rfl | rfl | rfl
    · exact s.f 53 0
    · exact s.f 53 1
    · exact s.f 53 2) h
abbrev rsNow : List Nat := [54, 55, 56, 57, 58, 59, 60, 61, 143, 144, 145, 146, 149, 147, 148, 150]
abbrev gsNow : List (Nat × Nat) := [(53, 0), (53, 1), (53, 2), (120, 57), (120, 59), (120, 58)]
theorem Same.sub {rs rs' : List Nat} {gs gs' : List (Nat × Nat)} {I I' : Ix} (h : Same rs gs I I') (h1 : ∀ k ∈ rs', k ∈ rs) (h2 : ∀ q ∈ gs', q ∈ gs) : Same rs' gs' I I' := ⟨fun k hk => h.1 k (h1 k hk), fun q hq => h.2 q (h2 q hq)⟩
theorem iNow.keep {P T N : Nat} {I I' : Ix} (s : Same rsNow gsNow I I') (h : iNow I P T N) : iNow I' P T N := by
  obtain ⟨d, dy, h1, h2, h3⟩ := h
  exact ⟨d, dy, h1, dX53.keep (s.sub (by decide) (by decide)) h2, dM.keep (s.sub (by decide) (by decide)) h3⟩
abbrev rsBox : List Nat := [92, 169, 94, 95, 96, 97, 98, 99, 100, 101, 103, 104, 105, 106, 107, 108, 109, 110, 112, 113, 114, 115, 116, 117, 118, 119, 170, 171, 172, 173, 174, 175, 176, 177]
abbrev gsBox : List (Nat × Nat) := [(93, 0), (93, 1), (93, 2), (102, 0), (102, 1), (102, 2), (111, 0), (111, 1), (111, 2)]
theorem dMB.keep {b : Nat} {d : Ix} {T N dy : Nat} {I I' : Ix} (s : Same rsBox gsBox I I') (h : dMB b d T N dy I) : dMB b d T N dy I' := by
  unfold dMB at h ⊢
  rw [s.r 170, s.r 171, s.r 172, s.r 173, s.r 174, s.r 175, s.r 176, s.r 177]
  exact h
theorem iBox.keep {P T N : Nat} {I I' : Ix} (s : Same rsBox gsBox I I') (h : iBox I P T N) : iBox I' P T N := by
  intro b hb
  obtain ⟨h1, h2, h3⟩ := h b hb
  rw [s.r 92, s.r 169]
  refine ⟨h1, h2, fun hf => ?_⟩
  obtain ⟨d, dy, g1, g2, g3⟩ := h3 hf
  refine ⟨d, dy, g1, ?_, g3.keep s⟩
  have hb3 : b = 0 ∨ b = 1 ∨ b = 2 := by omega
  rcases hb3 with rfl | rfl | rfl
  · exact dX.keep (o := 93) (s.r 94) (s.r 95) (s.r 96) (s.r 97) (s.r 98) (s.r 99) (s.r 100) (s.r 101) (fun j hj => by
      have : j = 0 ∨ j = 1 ∨ j = 2 := by omega
      rcases this with rfl | rfl | rfl
      · exact s.f 93 0
      · exact s.f 93 1
      · exact s.f 93 2) g2
  · exact dX.keep (o := 102) (s.r 103) (s.r 104) (s.r 105) (s.r 106) (s.r 107) (s.r 108) (s.r 109) (s.r 110) (fun j hj => by
      have : j = 0 ∨ j = 1 ∨ j = 2 := by omega
      rcases this with rfl | rfl | rfl
      · exact s.f 102 0
      · exact s.f 102 1
      · exact s.f 102 2) g2
  · exact dX.keep (o := 111) (s.r 112) (s.r 113) (s.r 114) (s.r 115) (s.r 116) (s.r 117) (s.r 118) (s.r 119) (fun j hj => by
      have : j = 0 ∨ j = 1 ∨ j = 2 := by omega
      rcases this with rfl | rfl | rfl
      · exact s.f 111 0
      · exact s.f 111 1
      · exact s.f 111 2) g2
abbrev gsMisc : List (Nat × Nat) := [(120, 70), (120, 76)]
theorem iMisc.keep {I I' : Ix} (s : Same [] gsMisc I I') (h : iMisc I) : iMisc I' := ⟨by rw [s.f 120 70]; exact h.1, by rw [s.f 120 76]; exact h.2⟩
theorem iWords.keep {L L' : Lx} (s : L' 52 = L 52) (h : iWords L) : iWords L' := fun j hj => by rw [s]; exact h j hj
/-! the rules: a step's number c on both sides -/
def whatM (c : Nat) : Nat := if c < 10000 then 0 else if c < 20000 then c - 9999 else if c = 20043 then 26 else if c = 20045 then 27 else if c = 20042 then 28 else if c = 20060 then 24 else if c = 20062 then 25 else if c = 20061 then 23 else if c = 20256 then 22 else if c = 20257 then 21 else 20
def isStep (c : Nat) : Bool := decide (c < 10011) || c == 20043 || c == 20045 || c == 20042 || c == 20060 || c == 20062 || c == 20061 || c == 20256 || c == 20257 || c == 20258
/-- steps that leave one number of d -/
def okSeg : List Nat → Nat → Bool
  | [], d => d == 1
  | c :: cs, d => isStep c && (if c < 20000 then decide (d < 80) && okSeg cs (d + 1) else if c = 20256 then decide (1 ≤ d) && okSeg cs d else decide (2 ≤ d) && okSeg cs (d - 1))
def seg (cd : Nat → Nat) (a b : Nat) : List Nat := (List.range' a (b - a)).map cd
def rB (cd bg : Nat → Nat) (N : Nat) : Prop := (∀ p, p < N → bg p ≤ bg (p + 1) ∧ bg (p + 1) ≤ 640 ∧ okSeg (seg cd (bg p) (bg (p + 1))) 0 = true)
def rX (cd bg : Nat → Nat) (N : Nat) (I : Ix) : Prop := ∀ p, p < N → I 11 p = nI (bg p) ∧ I 12 p = nI (bg (p + 1)) ∧ ∀ k, bg p ≤ k → k < bg (p + 1) → I 13 k = nI (cd k)
def rM (cd bg : Nat → Nat) (N : Nat) (I : Ix) : Prop := ∀ p, p < N → I 127 p = nI (bg p) ∧ I 127 (p + 1) = nI (bg (p + 1)) ∧ ∀ k, bg p ≤ k → k < bg (p + 1) → I 125 k = nI (whatM (cd k)) ∧ (cd k < 10000 → I 126 k = nI (cd k))
abbrev rsRule : List Nat := [11, 12, 13, 127, 125, 126]
theorem rX.keep {cd bg : Nat → Nat} {N : Nat} {I I' : Ix} (s : Same rsRule [] I I') (h : rX cd bg N I) : rX cd bg N I' := by
  unfold rX at h ⊢; rw [s.r 11, s.r 12, s.r 13]; exact h
theorem rM.keep {cd bg : Nat → Nat} {N : Nat} {I I' : Ix} (s : Same rsRule [] I I') (h : rM cd bg N I) : rM cd bg N I' := by
  unfold rM at h ⊢; rw [s.r 127, s.r 125, s.r 126]; exact h
/-- all of it, with its numbers -/
def InvN (P T N lw lt : Nat) (z : Nat → Nat → Nat) (cd bg : Nat → Nat) (I : Ix) (L : Lx) : Prop := P ≤ 8 ∧ T ≤ 10 ∧ N ≤ 6 ∧ lw ≤ 2 ∧ lt ≤ 100 ∧ iTape I ∧ iFault I ∧ iTime I ∧ iTale I T N ∧ iMeta I ∧ vB z P T N ∧ vX z P T N lw lt I ∧ vM z P T N lw lt I ∧ rB cd bg N ∧ rX cd bg N I ∧ rM cd bg N I ∧ iNow I P T N ∧ iBox I P T N ∧ iMisc I ∧ iWords L
def Inv (I : Ix) (L : Lx) : Prop := ∃ (P T N lw lt : Nat) (z : Nat → Nat → Nat) (cd bg : Nat → Nat), InvN P T N lw lt z cd bg I L
