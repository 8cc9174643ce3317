/-! ===== what holds between calls, of the class's cells and the reference's ===== -/
/-- the tape -/
def iTape (I : Ix) : Prop := ∃ n : Nat, n ≤ 1700 ∧ I 1 1 = nI n ∧ I 120 1 = nI n ∧ ∀ j, j < n → I 2 j &&& 255 = I 121 j ∧ ∃ b : Nat, b < 256 ∧ I 121 j = nI b
def iFault (I : Ix) : Prop := I 49 7 = I 120 2 ∧ I 49 8 = I 120 3
def iTime (I : Ix) : Prop := ∃ t : Nat, t ≤ 100000 ∧ I 0 11 = nI t ∧ I 120 94 = nI t
/-- tales: day, thing, person, told, untold -/
def iTale (I : Ix) (T N : Nat) : Prop := ∃ c : Nat, c ≤ 40 ∧ I 85 0 = nI c ∧ I 120 93 = nI c ∧ ∀ j, j < c → I 86 j = I 164 j ∧ I 87 j = I 165 j ∧ I 88 j = I 166 j ∧ I 89 j = I 167 j ∧ I 90 j = I 168 j ∧
  (∃ d : Nat, 1 ≤ d ∧ d ≤ 60 ∧ I 164 j = nI d) ∧ (∃ t : Nat, t < T ∧ I 165 j = nI t) ∧ (I 166 j = -1 ∨ ∃ p : Nat, p < N ∧ I 166 j = nI p) ∧ (∃ t : Nat, t ≤ 100000 ∧ I 167 j = nI t) ∧ (I 168 j = -1 ∨ ∃ t : Nat, t ≤ 100000 ∧ I 168 j = nI t)
/-- the valley's numbers: 0 noon, 1 far (8a+b), 2 place of a thing, 3 wear, 4 heavy, 5 food, 6 craft, 7 force, 8 hard, 9 order of noons -/
def vB (z : Nat → Nat → Nat) (P T N : Nat) : Prop := (∀ p, p < P → z 0 p < 60) ∧ (∀ a, a < P → ∀ b, b < P → z 1 (8 * a + b) ≤ 999) ∧ (∀ t, t < T → z 2 t < P ∧ z 3 t ≤ 20 ∧ z 4 t ≤ 99 ∧ z 5 t ≤ 1) ∧ (∀ p, p < N → z 6 p ≤ 9 ∧ z 7 p ≤ 99 ∧ z 8 p ≤ 9) ∧
  (∀ r, r < P → z 9 r < P) ∧ (∀ r s, r < s → s < P → z 0 (z 9 r) < z 0 (z 9 s) ∨ (z 0 (z 9 r) = z 0 (z 9 s) ∧ z 9 r < z 9 s)) ∧ (∀ p, p < P → ∃ r, r < P ∧ z 9 r = p)
def vX (z : Nat → Nat → Nat) (P T N lw lt : Nat) (I : Ix) : Prop := I 4 0 = nI P ∧ I 3 2 = nI T ∧ I 3 3 = nI N ∧ I 3 4 = nI lw ∧ I 3 5 = nI lt ∧ (∀ p, p < P → I 6 p = nI (z 0 p)) ∧ (∀ a, a < P → ∀ b, b < P → I 8 (8 * a + b) = nI (z 1 (8 * a + b))) ∧
  (∀ t, t < T → I 16 t = nI (z 2 t) ∧ I 18 t = nI (z 3 t) ∧ I 19 t = nI (z 4 t) ∧ I 20 t = nI (z 5 t)) ∧ (∀ p, p < N → I 23 p = nI (z 6 p) ∧ I 24 p = nI (z 7 p) ∧ I 25 p = nI (z 8 p)) ∧ (∀ r, r < P → I 7 r = nI (z 9 r))
def vM (z : Nat → Nat → Nat) (P T N lw lt : Nat) (I : Ix) : Prop := I 120 42 = nI P ∧ I 120 44 = nI T ∧ I 120 45 = nI N ∧ I 120 46 = nI lw ∧ I 120 47 = nI lt ∧ (∀ p, p < P → I 138 p = nI (z 0 p)) ∧ (∀ a, a < P → ∀ b, b < P → I 140 (8 * a + b) = nI (z 1 (8 * a + b))) ∧
  (∀ t, t < T → I 141 (5 * t) = nI (z 2 t) ∧ I 141 (5 * t + 2) = nI (z 3 t) ∧ I 141 (5 * t + 3) = nI (z 4 t) ∧ I 141 (5 * t + 4) = nI (z 5 t)) ∧ (∀ p, p < N → I 142 (4 * p + 1) = nI (z 6 p) ∧ I 142 (4 * p + 2) = nI (z 7 p) ∧ I 142 (4 * p + 3) = nI (z 8 p))
/-- how all stands: 0 owner, 1 left, 2 crowd, 3 worth, 4 eaten, 5 at, 6 made, 7 days, late days, w, 8 owners kept (10 e + t, behind day e + 1) -/
def dB (d : Ix) (P T N dy : Nat) : Prop := d 7 0 = nI dy ∧ dy ≤ 10000 ∧ (∀ t, t < T → (d 0 t = -1 ∨ ∃ p : Nat, p < N ∧ d 0 t = nI p) ∧ (∃ l : Nat, l ≤ 100 ∧ d 1 t = nI l) ∧ (∃ c : Nat, c ≤ 6 ∧ d 2 t = nI c) ∧ (∃ w : Nat, w ≤ 99 ∧ d 3 t = nI w) ∧ (d 4 t = 0 ∨ d 4 t = 1)) ∧ (∀ p, p < N → ∃ q : Nat, q < P ∧ d 5 p = nI q)
def dX (o : Nat) (d : Ix) (T N dy : Nat) (I : Ix) : Prop := (∀ t, t < T → I (o + 1) t = d 0 t ∧ I (o + 2) t = d 1 t ∧ I (o + 3) t = d 2 t ∧ I (o + 4) t = d 3 t ∧ I (o + 5) t = d 4 t) ∧ (∀ p, p < N → I (o + 6) p = d 5 p ∧ I (o + 7) p = d 6 p) ∧ (∀ j, j < 3 → I o j = d 7 j) ∧ (∀ e, e < 60 → e < dy → ∀ t, t < T → I (o + 8) (10 * e + t) = d 8 (10 * e + t))
def dM (d : Ix) (T N dy : Nat) (I : Ix) : Prop := (∀ t, t < T → I 143 t = d 0 t ∧ I 144 t = d 1 t ∧ I 145 t = d 2 t ∧ I 146 t = d 3 t ∧ I 149 t = d 4 t) ∧ (∀ p, p < N → I 147 p = d 5 p ∧ I 148 p = d 6 p) ∧ (I 120 57 = d 7 0 ∧ I 120 59 = d 7 1 ∧ I 120 58 = d 7 2) ∧ (∀ e, e < 60 → e < dy → ∀ t, t < T → I 150 (10 * (e + 1) + t) = d 8 (10 * e + t))
def dMB (b : Nat) (d : Ix) (T N dy : Nat) (I : Ix) : Prop := (∀ t, t < T → I 171 (4 * (10 * b + t)) = d 0 t ∧ I 171 (4 * (10 * b + t) + 1) = d 1 t ∧ I 171 (4 * (10 * b + t) + 2) = d 2 t ∧ I 171 (4 * (10 * b + t) + 3) = d 3 t ∧ I 170 (10 * b + t) = d 4 t) ∧ (∀ p, p < N → I 172 (6 * b + p) = d 5 p ∧ I 173 (6 * b + p) = d 6 p) ∧ (I 175 b = d 7 0 ∧ I 177 b = d 7 1 ∧ I 176 b = d 7 2) ∧ (∀ e, e < 60 → e < dy → ∀ t, t < T → I 174 (610 * b + (10 * (e + 1) + t)) = d 8 (10 * e + t))
def iNow (I : Ix) (P T N : Nat) : Prop := ∃ (d : Ix) (dy : Nat), dB d P T N dy ∧ dX 53 d T N dy I ∧ dM d T N dy I
def iBox (I : Ix) (P T N : Nat) : Prop := ∀ b, b < 3 → I 92 b = I 169 b ∧ (I 92 b = 0 ∨ I 92 b = 1) ∧ (I 92 b = 1 → ∃ (d : Ix) (dy : Nat), dB d P T N dy ∧ dX (93 + 9 * b) d T N dy I ∧ dMB b d T N dy I)
/-- the model's own scratch -/
def iMisc (I : Ix) : Prop := I 120 70 = 0 ∧ I 120 76 = -1
/-- words packed -/
def iWords (L : Lx) : Prop := ∀ j, j < 28 → L 52 j = wlAt 224 j
