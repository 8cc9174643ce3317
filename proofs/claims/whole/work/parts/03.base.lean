def skL : List Nat := [21, 17, 3, 20, 11, 1, 0, 0, 0, 0, 14, 0, 0, 0, 0, 1, 0, 0, 0, 0, 2, 1, 0, 0, 0, 0, 20, 11, 1, 0, 0, 0, 0, 14, 0, 0, 0, 0, 1, 0, 0, 0, 0, 2, 1, 0, 0, 0, 0, 13, 0, 18, 1, 12, 0, 0, 0, 0, 2, 0, 0, 0, 10, 0, 0, 0, 0, 0, 0, 19, 12, 0, 0, 0, 0, 2, 0, 0, 0, 1, 15, 0, 0, 0, 0, 16, 0, 0, 0, 0, 0, 4, 2, 12, 0, 0, 0, 0, 2, 0, 0, 0, 12, 0, 0, 0, 0, 2, 0, 0, 0, 12, 0, 0, 0, 0, 2, 0, 0, 0, 22, 0, 0, 0, 0, 0, 0, 0, 0, 0, 0, 1, 1, 1, 0, 0, 0, 0, 0, 0, 0, 0, 0, 0, 0, 0, 0, 0, 0, 2, 0, 0, 0, 0, 0, 0, 2, 0, 0, 0, 0, 1, 1, 0, 0, 0, 0, 0, 0, 2, 2, 0, 0, 0, 0, 0, 0, 0]
def slL : List Nat := [12, 2, 1700, 17, 7, 8, 8, 8, 64, 8, 6, 6, 6, 720, 80, 10, 10, 10, 10, 10, 10, 6, 6, 6, 6, 6, 17, 7, 8, 8, 8, 64, 8, 6, 6, 6, 720, 80, 10, 10, 10, 10, 10, 10, 6, 6, 6, 6, 6, 9, 1, 7, 28, 11, 10, 10, 10, 10, 10, 6, 6, 600, 7, 11, 10, 10, 6, 6, 10, 7, 11, 10, 10, 10, 10, 10, 6, 6, 600, 101, 9, 66, 6, 6, 6, 6, 40, 40, 40, 40, 40, 3, 3, 11, 10, 10, 10, 10, 10, 6, 6, 600, 11, 10, 10, 10, 10, 10, 6, 6, 600, 11, 10, 10, 10, 10, 10, 6, 6, 600, 104, 1700, 640, 640, 7, 640, 640, 7, 300, 90, 12, 8, 10, 6, 8, 64, 50, 24, 8, 64, 64, 50, 24, 10, 10, 10, 10, 6, 6, 10, 610, 10, 10, 10, 6, 6, 10, 10, 10, 6, 6, 101, 101, 8, 40, 40, 40, 40, 40, 3, 30, 120, 18, 18, 1830, 3, 3, 3]
def fkL : List (List Nat) := [[2, 2, 2, 2, 2, 2, 2], [0, 0, 2, 2, 2, 2, 2], [0, 0, 0, 2, 2, 2, 2, 2, 2, 2, 2], [2, 2, 2, 2, 0, 0, 2, 0, 0], [0, 0, 2, 2, 2, 2], [2, 2, 2, 2, 2, 2, 0, 0, 0], [0, 2, 2, 2, 2, 2], [2, 0], [2, 2, 0, 0, 0, 0, 1], [2, 2, 2, 2, 0, 0, 0], [2, 2, 0, 0, 0, 0, 2, 2, 2, 2, 2, 2, 2, 2, 2, 2, 2], [2, 2, 2, 2, 2, 2, 2, 2, 2, 2, 2, 0], [2, 0, 0, 0, 0, 0, 0, 0, 0, 1, 2, 2, 2, 2, 2, 2, 2, 2, 2, 0, 0, 0, 0, 0, 2, 2, 2, 2, 2, 2, 2, 2, 2, 2, 2, 2, 0, 0, 0, 0, 0, 0, 0, 0, 0, 0, 0, 0, 0, 0, 2, 2, 2, 2, 2, 2, 2, 0, 0, 0, 2, 2, 2, 2, 2, 2, 2, 0, 0, 0, 0, 2, 2, 2, 2, 0, 0, 0, 0, 0, 0, 0, 0, 0, 2, 2, 0, 2, 2, 2, 2, 2, 2, 0, 0, 2, 2, 2, 2, 2, 2, 2, 2, 2]]
def RFL : List (List (Option Nat)) := [[some 1, some 3, some 26, some 49, some 53, some 62, some 69, some 80, some 85, some 91, some 92, none], [some 2, none], [], [some 4, some 10, none, none, none, none, some 15, some 16, some 17, some 18, some 19, some 20, some 21, some 22, some 23, some 24, some 25], [none, none, some 5, some 6, some 7, some 8, some 9], [], [], [], [], [], [none, none, some 11, some 12, some 13, some 14], [], [], [], [], [], [], [], [], [], [], [], [], [], [], [], [some 27, some 33, none, none, none, none, some 38, some 39, some 40, some 41, some 42, some 43, some 44, some 45, some 46, some 47, some 48], [none, none, some 28, some 29, some 30, some 31, some 32], [], [], [], [], [], [none, none, some 34, some 35, some 36, some 37], [], [], [], [], [], [], [], [], [], [], [], [], [], [], [], [some 51, some 26, some 27, some 33, none, none, some 50, none, none], [], [some 1, some 52, none, none, none, none, none], [], [none, none, none, some 54, some 55, some 56, some 57, some 58, some 59, some 60, some 61], [], [], [], [], [], [], [], [], [some 3, some 63, some 64, some 65, some 66, some 67, some 68], [], [], [], [], [], [], [some 3, some 62, some 70, some 79, none, none, none], [none, none, none, some 71, some 72, some 73, some 74, some 75, some 76, some 77, some 78], [], [], [], [], [], [], [], [], [], [some 3, some 53, some 81, some 82, some 83, some 84, none, none, none], [], [], [], [], [none, some 86, some 87, some 88, some 89, some 90], [], [], [], [], [], [some 93, some 102, some 111], [], [none, none, none, some 94, some 95, some 96, some 97, some 98, some 99, some 100, some 101], [], [], [], [], [], [], [], [], [none, none, none, some 103, some 104, some 105, some 106, some 107, some 108, some 109, some 110], [], [], [], [], [], [], [], [], [none, none, none, some 112, some 113, some 114, some 115, some 116, some 117, some 118, some 119], [], [], [], [], [], [], [], [], [some 121, none, none, none, none, none, none, none, none, none, some 122, some 123, some 124, some 125, some 126, some 127, some 128, some 129, some 130, none, none, none, none, none, some 131, some 132, some 133, some 134, some 135, some 136, some 137, some 138, some 139, some 140, some 141, some 142, none, none, none, none, none, none, none, none, none, none, none, none, none, none, some 143, some 144, some 145, some 146, some 147, some 148, some 149, none, none, none, some 150, some 151, some 152, some 153, some 154, some 155, some 156, none, none, none, none, some 157, some 158, some 159, some 160, none, none, none, none, none, none, none, none, none, some 161, some 162, none, some 163, some 164, some 165, some 166, some 167, some 168, none, none, some 169, some 170, some 171, some 172, some 173, some 174, some 175, some 176, some 177], [], [], [], [], [], [], [], [], [], [], [], [], [], [], [], [], [], [], [], [], [], [], [], [], [], [], [], [], [], [], [], [], [], [], [], [], [], [], [], [], [], [], [], [], [], [], [], [], [], [], [], [], [], [], [], [], []]
def sk (k : Nat) : Nat := skL.getD k 9
def sl (k : Nat) : Nat := slL.getD k 0
def fk (c j : Nat) : Nat := (fkL.getD c []).getD j 0
def tot (n : Nat) : Nat := ((List.range n).map sl).sum
abbrev Ix : Type := Nat → Nat → Int32
abbrev Lx : Type := Nat → Nat → Int64
abbrev Rx : Type := Nat → Nat → Option Nat
abbrev Qx : Type := Option Value → Nat → Ix → Lx → Rx → Prop
/-- what the constructors have tied: which cell a field points to -/
def RF : Rx := fun k j => (RFL.getD k []).getD j none
/-- the run that all walks are in: launch, classes and slots, array classes, the first new address, old addresses, what is known of old cells -/
abbrev Gx : Type := Launch × va_G × (Nat → ClassId) × Nat × (Nat → Nat) × (State → Prop)
abbrev gl (G : Gx) : Launch := G.1
abbrev gD (G : Gx) : va_G := G.2.1
abbrev gC (G : Gx) : Nat → ClassId := G.2.2.1
abbrev gb (G : Gx) : Nat := G.2.2.2.1
abbrev go (G : Gx) : Nat → Nat := G.2.2.2.2.1
abbrev gO (G : Gx) : State → Prop := G.2.2.2.2.2
abbrev gF (G : Gx) : Nat → Prop := fun q => gb G ≤ q
def gA (G : Gx) (k : Nat) : Nat := if k < 1000 then gb G + k else go G (k - 1000)
def gv (G : Gx) : Value → Value
  | .ref k => .ref (gA G k)
  | v => v
def gp (G : Gx) (q : Nat × Value) : Nat × Value := (q.1, gv G q.2)
theorem gv_cat (G : Gx) (v : Value) : (gv G v).category = v.category := by cases v <;> rfl
theorem gA_lt {G : Gx} {k : Nat} (h : k < 1000) : gA G k = gb G + k := if_pos h
def fv (G : Gx) (I : Ix) (L : Lx) (R : Rx) (k c j : Nat) : Value := match fk c j with
  | 0 => .int (I k j)
  | 1 => .long (L k j)
  | _ => va_rf ((R k j).map (gA G))
def ent (G : Gx) (I : Ix) (L : Lx) (R : Rx) (k : Nat) : va_E := match sk k with
  | 0 => .inl (gC G 0, sl k, .inl (I k))
  | 1 => .inl (gC G 1, sl k, .inr (.inl (L k)))
  | 2 => .inl (gC G 2, sl k, .inl (I k))
  | 3 => .inl (gC G 3, sl k, .inl (I k))
  | 4 => .inl (gC G 4, sl k, .inr (.inr (.inr (.inr (fun j => (R k j).map (gA G))))))
  | 5 => .inr (99, [])
  | 6 => .inr (99, [])
  | 7 => .inr (99, [])
  | 8 => .inr (99, [])
  | 9 => .inr (99, [])
  | c + 10 => .inr (c, (List.range (sl k)).map (fv G I L R k c))
def wsx (G : Gx) (n : Nat) (I : Ix) (L : Lx) (R : Rx) : va_W := (List.range n).map fun k => (gb G + k, ent G I L R k)
theorem wsx_get {G : Gx} {n : Nat} {I : Ix} {L : Lx} {R : Rx} {k : Nat} (hk : k < n) : (wsx G n I L R)[k]? = some (gb G + k, ent G I L R k) := by
  simp [wsx, List.getElem?_map, List.getElem?_range hk]
theorem wsx_inv {G : Gx} {n : Nat} {I : Ix} {L : Lx} {R : Rx} {k : Nat} {q : Nat × va_E} (h : (wsx G n I L R)[k]? = some q) : k < n ∧ q = (gb G + k, ent G I L R k) := by
  have hk : k < n := by
    have := (List.getElem?_eq_some_iff.mp h).1
    simpa [wsx] using this
  rw [wsx_get hk] at h
  exact ⟨hk, (Option.some.inj h).symm⟩
theorem wsx_D (G : Gx) (n : Nat) (I : Ix) (L : Lx) (R : Rx) : va_D (gF G) (wsx G n I L R) := by
  refine ⟨fun i j p q hi hj e => ?_, fun k q hk => ?_⟩
  · obtain ⟨-, rfl⟩ := wsx_inv hi
    obtain ⟨-, rfl⟩ := wsx_inv hj
    simp at e
    exact e
  · obtain ⟨-, rfl⟩ := wsx_inv hk
    exact Nat.le_add_right _ _
/-- the heap holds the cells 0 .. n-1 -/
def Wd (G : Gx) (n : Nat) (I : Ix) (L : Lx) (R : Rx) (H : Heap) : Prop := va_P (gD G) vwCl (wsx G n I L R) H ∧ (n < 178 → H.size = gb G + n) ∧ n ≤ 178
theorem Wd.at {G : Gx} {n : Nat} {I : Ix} {L : Lx} {R : Rx} {H : Heap} (h : Wd G n I L R H) {k : Nat} (hk : k < n) : va_at (gD G) vwCl (gb G + k, ent G I L R k) H := h.1 k _ (wsx_get hk)
theorem Wd.up {G : Gx} {n : Nat} {I I' : Ix} {L L' : Lx} {R R' : Rx} {H H1 : Heap} (h : Wd G n I L R H) {k : Nat} (hk : k < n) (z : H1.size = H.size) (oq : ∀ q : Nat, q ≠ gb G + k → H1[q]? = H[q]?) (he : va_at (gD G) vwCl (gb G + k, ent G I' L' R' k) H1)
    (ho : ∀ j, j ≠ k → ent G I' L' R' j = ent G I L R j) : Wd G n I' L' R' H1 := by
  refine ⟨fun j q hj => ?_, fun hn => by rw [z]; exact h.2.1 hn, h.2.2⟩
  obtain ⟨hjn, rfl⟩ := wsx_inv hj
  by_cases hjk : j = k
  · subst hjk; exact he
  · rw [ho j hjk]
    exact (h.at hjn).kept (oq _ (by show gb G + j ≠ gb G + k; omega))
theorem Wd.kept {G : Gx} {n : Nat} {I : Ix} {L : Lx} {R : Rx} {H H1 : Heap} (h : Wd G n I L R H) (z : H1 = H) : Wd G n I L R H1 := z ▸ h
/-- writes -/
def pu {α : Type} (I : Nat → Nat → α) (k j : Nat) (x : α) : Nat → Nat → α := va_up I k (va_up (I k) j x)
theorem pu_at {α : Type} (I : Nat → Nat → α) (k j : Nat) (x : α) : pu I k j x k = va_up (I k) j x := by simp [pu, va_up]
theorem pu_ne {α : Type} (I : Nat → Nat → α) {k a : Nat} (j : Nat) (x : α) (h : a ≠ k) : pu I k j x a = I a := by simp [pu, va_up, h]
theorem pu_eq {α : Type} (I : Nat → Nat → α) (k j : Nat) (x : α) (a b : Nat) : pu I k j x a b = if a = k ∧ b = j then x else I a b := by
  by_cases h : a = k
  · subst h
    rw [pu_at]
    by_cases h2 : b = j <;> simp [va_up, h2]
  · rw [pu_ne _ _ _ h]; simp [h]
theorem ent_ne {G : Gx} {I I' : Ix} {L L' : Lx} {R R' : Rx} {j : Nat} (h1 : I' j = I j) (h2 : L' j = L j) (h3 : R' j = R j) : ent G I' L' R' j = ent G I L R j := by
  have hf : ∀ c, fv G I' L' R' j c = fv G I L R j c := fun c => by
    funext i
    simp only [fv, h1, h2, h3]
  unfold ent
  simp only [h1, h2, h3, hf]
/-- the method that is walked: its name, code, locals, what it returns, its depth -/
abbrev Mx : Type := MethodName × ByteArray × Nat × Option FieldType × Nat
abbrev mY (M : Mx) : MethodName := M.1
abbrev mC (M : Mx) : ByteArray := M.2.1
abbrev mL (M : Mx) : Nat := M.2.2.1
abbrev mR (M : Mx) : Option FieldType := M.2.2.2.1
abbrev mD (M : Mx) : Nat := M.2.2.2.2
def tbg : List Cond := lw_tbl.filter goodWord
def wsM (M : Mx) : List Cond := Cond.code (mY M) (mC M) (mL M) (mR M) :: tbg
theorem tb {w : Cond} (i : Nat) (h : lw_tbl[i]? = some w) (hg : goodWord w = true) : w ∈ tbg := List.mem_filter.mpr ⟨List.mem_of_getElem? h, hg⟩
theorem tbg_good {ws : List Cond} (h : ∀ w ∈ ws, w ∈ tbg) : GoodIn tbg ws := fun w hw => ⟨h w hw, good_of_word (List.mem_filter.mp (h w hw)).2⟩
theorem wsM_good {M : Mx} (h : Cond.code (mY M) (mC M) (mL M) (mR M) ∈ tbg) : GoodIn tbg (wsM M) := tbg_good fun w hw => (List.mem_cons.mp hw).elim (fun e => e ▸ h) id
def tyx (G : Gx) : List (ClassId × FieldType) := [(gC G 0, .int), (gC G 1, .long), (gC G 2, .boolean), (gC G 3, .byte), (gC G 4, .object "NoonSquare$Now")]
/-- what is known of old cells stays, while they stay and the tables only warm -/
def GO (G : Gx) : Prop := ∀ u U : State, u.WarmedH U.vm → (∀ q, q < gb G → U.heap[q]? = u.heap[q]?) → gO G u → gO G U
def Sg (G : Gx) (U : State) : Prop := va_K (gD G) vwCl (tyx G) U ∧ gO G U ∧ gb G ≤ U.heap.size ∧ GO G
theorem Sg.moved {G : Gx} {u U : State} (h : Sg G u) (hw : u.WarmedH U.vm) (hz : u.heap.size ≤ U.heap.size) (hq : ∀ q, q < gb G → U.heap[q]? = u.heap[q]?) : Sg G U :=
  ⟨va_K.moved hw.alike h.1, h.2.2.2 u U hw hq h.2.1, Nat.le_trans h.2.2.1 hz, h.2.2.2⟩
def rmM (M : Mx) (n nF : Nat) : Room := { frames := mD M, cells := nF - n, slots := tot nF - tot n, locals := 60 * mD M }
def Qc (G : Gx) (Q : Qx) : Array Value → State → Outcome → State → Prop := fun _ st o t =>
  ∃ (v : Option Value) (n : Nat) (I : Ix) (L : Lx) (R : Rx), o = .returned (v.map (gv G)) ∧ Q v n I L R ∧ Wd G n I L R t.heap ∧ Sg G t ∧ va_F (gF G) st t
def Pcx (G : Gx) (as : List Value) (n : Nat) (I : Ix) (L : Lx) (R : Rx) : Array Value → State → Prop := va_Pc (as.map (gv G)) (fun U => Wd G n I L R U.heap ∧ Sg G U)
/-- the contract of a call -/
def Mt (G : Gx) (M : Mx) (as : List Value) (n : Nat) (I : Ix) (L : Lx) (R : Rx) (nF : Nat) (Q : Qx) : Prop :=
  Met (gl G) (mY M) (wsM M) (rmM M n nF) (Pcx G as n I L R) (Qc G Q) (nF - n) (tot nF - tot n) (gF G)
def Cx (G : Gx) (M : Mx) (p : Program) (s : State) (m : MethodId) (args : Array Value) (meth : Method) (c : Code) : Prop :=
  p.tables.exec = Jvm.exec ∧ c.code = mC M ∧ meth.sig.returnType = mR M ∧ meth.locks = false ∧ c.maxLocals = mL M ∧ s.vm.findClass (mY M).cls = some m.cls ∧ (∀ w ∈ tbg, w.before args s = true) ∧ Sg G s ∧ ((mY M).name = "<init>" → meth.name = "<init>")
/-- from this place of the method on it returns, with Q -/
def Ev (G : Gx) (M : Mx) (n0 nF : Nat) (Q : Qx) (pc : Nat) (ls : List (Nat × Value)) (st : List Value) (n : Nat) (I : Ix) (L : Lx) (R : Rx) : Prop :=
  ∀ (p : Program) (e : Env) (s : State) (m : MethodId) (args : Array Value) (below : List Frame) (meth : Method) (c : Code), Cx G M p s m args meth c →
    ∀ (H : Heap) (locs : List Loc) (la : Array Slot), Wd G n I L R H → va_S (gF G) s.heap H locs → lv_has la (mL M) (ls.map (gp G)) → n0 ≤ n → n ≤ nF →
      W p (gl G) e (rmM M n0 nF) s m args below meth c H locs (n - n0) (tot n - tot n0) (MQ below (Qc G Q) args s (nF - n0) (tot nF - tot n0) (gF G)) (F0 m pc la (st.map (gv G)))
theorem tot_mono {a b : Nat} (h : a ≤ b) : tot a ≤ tot b := by
  induction b with
  | zero => have : a = 0 := by omega
            subst this; exact Nat.le_refl _
  | succ b ih =>
    have hs : tot (b + 1) = tot b + sl b := by simp [tot, List.range_succ]
    by_cases hab : a = b + 1
    · subst hab; exact Nat.le_refl _
    · have := ih (by omega); omega
theorem tot_succ (b : Nat) : tot (b + 1) = tot b + sl b := by simp [tot, List.range_succ]
theorem lv_args_map (G : Gx) (as : List Value) : ∀ (i : Nat), lv_args i (as.map (gv G)) = (lv_args i as).map (gp G) := by
  induction as with
  | nil => intro i; rfl
  | cons v as ih =>
    intro i
    show (i, gv G v) :: lv_args (if (gv G v).category = 2 then i + 2 else i + 1) (as.map (gv G)) = gp G (i, v) :: (lv_args (if v.category = 2 then i + 2 else i + 1) as).map (gp G)
    rw [gv_cat, ih]
    rfl
def jshl (x y : Int32) : Int32 := x <<< (y &&& 31)
def jshr (x y : Int32) : Int32 := x >>> (y &&& 31)
def jush (x y : Int32) : Int32 := (x.toUInt32 >>> (y.toUInt32 &&& Int32.toUInt32 31)).toInt32
def jrem (x y : Int32) : Int32 := x - x / y * y
def jlrem (x y : Int64) : Int64 := x - x / y * y
def jlshl (x : Int64) (y : Int32) : Int64 := x <<< (y.toInt64 &&& 63)
def b2i (b : Bool) : Int32 := if b then 1 else 0
theorem b2i_0 {b : Bool} (h : b2i b = 0) : b = false := by cases b <;> simp_all [b2i]
theorem b2i_1 {b : Bool} (h : ¬ b2i b = 0) : b = true := by cases b <;> simp_all [b2i]
theorem b2i_n (b : Bool) : narrow .boolean (.int (b2i b)) = .int (b2i b) := by cases b <;> rfl
theorem vpl {i : Int32} {n : Nat} (h : decide (¬ (i < 0 ∨ n ≤ i.toNatClampNeg)) = true) : vp_in i n := (of_decide_eq_true h : ¬ (i < 0 ∨ n ≤ i.toNatClampNeg))
def Lfp {X : Type} (B : (X → Prop) → X → Prop) (x : X) : Prop := ∀ P : X → Prop, (∀ x, (∃ P' : X → Prop, (∀ z, P' z → P z) ∧ B P' x) → P x) → P x
theorem Lfp.fold {X : Type} {B : (X → Prop) → X → Prop} {x : X} (h : B (Lfp B) x) : Lfp B x := fun P hP => hP x ⟨Lfp B, fun _ hz => hz P hP, h⟩
theorem Lfp.ind {X : Type} {B : (X → Prop) → X → Prop} {P : X → Prop} (hP : ∀ x P', (∀ z, P' z → P z) → B P' x → P x) {x : X} (h : Lfp B x) : P x := h P fun x ⟨P', h1, h2⟩ => hP x P' h1 h2
def NowAt (o : Nat) : Prop := o = 53 ∨ o = 70 ∨ o = 93 ∨ o = 102 ∨ o = 111
