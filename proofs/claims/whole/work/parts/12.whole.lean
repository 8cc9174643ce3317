def wtm : Term := .string "NoonSquare$Tokens" 19
theorem nw_ex : Cond.exactly wtm "java/lang/String" ∈ flatC (Jvm.Cond.and given_1 narrow_1) := by decide +kernel
theorem nw_co : Cond.eq (.field wtm "java/lang/String" "coder" "B") (.int 0) ∈ flatC (Jvm.Cond.and given_1 narrow_1) := by decide +kernel
theorem nw_ar : Cond.arrayOf (.field wtm "java/lang/String" "value" "[B") .byte ∈ flatC (Jvm.Cond.and given_1 narrow_1) := by decide +kernel
theorem nw_le : Cond.eq (.length (.field wtm "java/lang/String" "value" "[B")) (.int (Int32.ofNat 224)) ∈ flatC (Jvm.Cond.and given_1 narrow_1) := by decide +kernel
theorem nw_els : ((flatC (Jvm.Cond.and given_1 narrow_1)).drop 13).take 224 = (List.range 224).map (fun j => Cond.eq (.elem (.field wtm "java/lang/String" "value" "[B") (.int (Int32.ofNat j))) (.int (WB.getD j 0))) := by decide +kernel
theorem nw_el (j : Nat) (hj : j < 224) : Cond.eq (.elem (.field wtm "java/lang/String" "value" "[B") (.int (Int32.ofNat j))) (.int (WB.getD j 0)) ∈ flatC (Jvm.Cond.and given_1 narrow_1) := by
  refine List.mem_of_mem_drop (List.mem_of_mem_take (i := 224) (l := (flatC (Jvm.Cond.and given_1 narrow_1)).drop 13) ?_)
  rw [nw_els]
  exact List.mem_map.mpr ⟨j, List.mem_range.mpr hj, rfl⟩
theorem nw_cs : Cond.eq (.static "java/lang/String" "COMPACT_STRINGS" "Z") (.int 1) ∈ flatC (Jvm.Cond.and given_1 narrow_1) := by decide +kernel
theorem nw_fm : Cond.isRef (.static "jdk/internal/util/Preconditions" "SIOOBE_FORMATTER" "Ljava/util/function/BiFunction;") ∈ flatC (Jvm.Cond.and given_1 narrow_1) := by decide +kernel
theorem lt_sr : Cond.stringRef "NoonSquare$Tokens" 19 WT ∈ lw_tbl := in_t1 (List.mem_of_getElem? (i := 235) (by decide +kernel))
theorem lt_cs : Cond.laysStatic "java/lang/String" "COMPACT_STRINGS" "Z" ∈ lw_tbl := in_t2 (List.mem_of_getElem? (i := 5) (by decide +kernel))
theorem lt_fm : Cond.laysStatic "jdk/internal/util/Preconditions" "SIOOBE_FORMATTER" "Ljava/util/function/BiFunction;" ∈ lw_tbl := in_t2 (List.mem_of_getElem? (i := 13) (by decide +kernel))
theorem lt_i1 : Cond.initialized "java/lang/String" ∈ lw_tbl := in_t1 (List.mem_of_getElem? (i := 8) (by decide +kernel))
theorem lt_i2 : Cond.initialized "jdk/internal/util/Preconditions" ∈ lw_tbl := in_t1 (List.mem_of_getElem? (i := 10) (by decide +kernel))
theorem lt_ao : Cond.arrayOver (.object "NoonSquare$Now") ∈ lw_tbl := in_t3 (List.mem_of_getElem? (i := 54) (by decide +kernel))
theorem lt_n1 : Cond.methodLinkNest RX11 9 yX7_init "NoonSquare" ∈ lw_tbl := in_t1 (List.mem_of_getElem? (i := 31) (by decide +kernel))
theorem lt_n2 : Cond.methodLinkNest RX11 18 yX10_init "NoonSquare" ∈ lw_tbl := in_t1 (List.mem_of_getElem? (i := 47) (by decide +kernel))
theorem lt_n3 : Cond.methodLinkNest RX10 11 yX1_init "NoonSquare" ∈ lw_tbl := in_t1 (List.mem_of_getElem? (i := 53) (by decide +kernel))
theorem lt_n4 : Cond.methodLinkNest RX10 20 yX4_init "NoonSquare" ∈ lw_tbl := in_t1 (List.mem_of_getElem? (i := 93) (by decide +kernel))
theorem lt_n5 : Cond.methodLinkNest RX11 37 yX2_init "NoonSquare" ∈ lw_tbl := in_t2 (List.mem_of_getElem? (i := 101) (by decide +kernel))
theorem lt_n6 : Cond.methodLinkNest RX9 11 yX2_init "NoonSquare" ∈ lw_tbl := in_t2 (List.mem_of_getElem? (i := 204) (by decide +kernel))
theorem lt_n7 : Cond.methodLinkNest RX11 71 yX6_init "NoonSquare" ∈ lw_tbl := in_t3 (List.mem_of_getElem? (i := 30) (by decide +kernel))
theorem mk_old {s : State} {b L : Nat} {xs : Nat → Int32} (hL : L ≤ 3072) (hts : ∀ w ∈ lw_tbl, w.before #[Value.ref b] s = true) (hX : va_X b L xs s s.heap) (hb : b < s.heap.size) (hgv : (Jvm.Cond.and given_1 narrow_1).before #[Value.ref b] s = true) : ∃ o : Nat → Nat, o 4 = b ∧ OldB s.heap.size o L xs s := by
  have hs := flat_of_before _ hgv
  have hA : ∀ a : Nat, a < s.heap.size → ¬ (fun q => s.heap.size ≤ q) a := fun a h1 h2 => absurd h1 (Nat.not_lt.mpr h2)
  obtain ⟨adK, adV, hS, hev⟩ := vk_Sof (N := 1) (tm := fun _ => wtm) (len := [224]) (byt := [WB]) (A := fun q => s.heap.size ≤ q)
    (fun i hi => by have : i = 0 := by omega
                    subst this; decide) (fun i _ => hs _ nw_ex) (fun i _ => hs _ nw_co) (fun i _ => hs _ nw_ar)
    (fun i hi => by have : i = 0 := by omega
                    subst this; exact hs _ nw_le)
    (fun i hi j hj => by have : i = 0 := by omega
                         subst this; exact hs _ (nw_el j hj))
    (fun i j hi hj hne => absurd (show i = j by omega) hne) hA
  have hZ := va_Zof (A := fun q => s.heap.size ≤ q) (hts _ lt_cs) (hts _ lt_i1) (va_eqi (hs _ nw_cs)) hA
  have hF := va_Zqof (A := fun q => s.heap.size ≤ q) (hts _ lt_fm) (hts _ lt_i2) (hs _ nw_fm) hA
  have hT : va_T .int b L (fun j => .int (xs j)) (fun q => s.heap.size ≤ q) s s.heap := by
    obtain ⟨scr, q1, q2, q3, q4, q5⟩ := hX
    refine ⟨scr, q1, q2, q3, Nat.le_of_eq q4.symm, ?_, q5, Nat.not_le.mpr hb⟩
    rw [q4]
  have hAO : va_AO "NoonSquare$Now" s := va_AO.of (hts _ lt_ao)
  have hR : vk_R "NoonSquare$Tokens" 19 WT (adK 0) s := vk_R.of (hts _ lt_sr) (hev 0 (by decide))
  have hS' : vk_S 1 [224] [WB] (fun _ => adK 0) (fun _ => adV 0) (fun q => s.heap.size ≤ q) s s.heap := by
    refine ⟨fun i hi => ?_, fun i j hi hj _ => by omega⟩
    have : i = 0 := by omega
    subst this
    exact hS.1 0 hi
  rcases hF with hF | ⟨t, hF⟩
  · refine ⟨fun k => match k with | 0 => adK 0 | 1 => adV 0 | 3 => 0 | 4 => b | _ => 0, rfl, hS', hR, hZ, ?_, hT, hAO, va_Nw.of rfl (hts _ lt_n1), va_Nw.of rfl (hts _ lt_n2), va_Nw.of rfl (hts _ lt_n3), va_Nw.of rfl (hts _ lt_n4), va_Nw.of rfl (hts _ lt_n5), va_Nw.of rfl (hts _ lt_n6), va_Nw.of rfl (hts _ lt_n7)⟩
    exact hF
  · refine ⟨fun k => match k with | 0 => adK 0 | 1 => adV 0 | 2 => t | 3 => 1 | 4 => b | _ => 0, rfl, hS', hR, hZ, ?_, hT, hAO, va_Nw.of rfl (hts _ lt_n1), va_Nw.of rfl (hts _ lt_n2), va_Nw.of rfl (hts _ lt_n3), va_Nw.of rfl (hts _ lt_n4), va_Nw.of rfl (hts _ lt_n5), va_Nw.of rfl (hts _ lt_n6), va_Nw.of rfl (hts _ lt_n7)⟩
    exact hF
theorem tot178 : tot 178 ≤ 7302250 := by decide +kernel
theorem whole_of (hpure : PureLaw) {p : Program} {e : Env} {s : State} {m : MethodId} {below : List Frame} {meth : Method} {c : Code} (l : Launch) {b L : Nat} {xs : Nat → Int32} (hL : L ≤ 3072) (C0 : lw_At p s m meth c b L xs) : W p l e room_1 s m #[Value.ref b] below meth c s.heap [] 0 0 (lw_Z below #[Value.ref b] s) (entryFrame m ([Value.ref b] : List Value).toArray 4) := by
  obtain ⟨hx, hb, hr, hml, hown, hts, hX, hbl, hlocks, hgv⟩ := C0
  obtain ⟨o, ho4, hold⟩ := mk_old hL hts hX hbl hgv
  have htg : ∀ w ∈ tbg, w.before #[Value.ref b] s = true := fun w hw => hts w (List.mem_filter.mp hw).1
  obtain ⟨D, hD⟩ := know_cls htg
  obtain ⟨c0, a0, f0⟩ := know_arr (htg _ acl_int)
  obtain ⟨c1, a1, f1⟩ := know_arr (htg _ acl_long)
  obtain ⟨c2, a2, f2⟩ := know_arr (htg _ acl_boolean)
  obtain ⟨c3, a3, f3⟩ := know_arr (htg _ acl_byte)
  obtain ⟨c4, a4, f4⟩ := know_now hold.2.2.2.2.2.1
  have hG : ∃ G : Gx, gl G = l ∧ gD G = D ∧ gC G = (fun t => match t with | 0 => c0 | 1 => c1 | 2 => c2 | 3 => c3 | _ => c4) ∧ gb G = s.heap.size ∧ go G = o ∧ gO G = OldB s.heap.size o L xs := ⟨(l, D, _, s.heap.size, o, OldB s.heap.size o L xs), rfl, rfl, rfl, rfl, rfl, rfl⟩
  obtain ⟨G, g1, g2, g3, g4, g5, g6⟩ := hG
  have hO : Old G L xs := by intro U hU; rw [g6] at hU; rw [g4, g5]; exact hU
  have hGO : GO G := gO_GO (Ls := L) (xs := xs) (by rw [g6, g4, g5])
  have hK : va_K (gD G) vwCl (tyx G) s := by
    refine ⟨fun c q hq => by rw [g2]; exact hD c q hq, fun k q hq => ?_⟩
    have hk : k < 5 := (List.getElem?_eq_some_iff.mp hq).1
    have h9 : k = 0 ∨ k = 1 ∨ k = 2 ∨ k = 3 ∨ k = 4 := by omega
    rcases h9 with rfl | rfl | rfl | rfl | rfl
    · cases hq; exact ⟨by rw [g3]; exact a0, by rw [g3]; exact f0⟩
    · cases hq; exact ⟨by rw [g3]; exact a1, by rw [g3]; exact f1⟩
    · cases hq; exact ⟨by rw [g3]; exact a2, by rw [g3]; exact f2⟩
    · cases hq; exact ⟨by rw [g3]; exact a3, by rw [g3]; exact f3⟩
    · cases hq; exact ⟨by rw [g3]; exact a4, by rw [g3]; exact f4⟩
  have hSg : Sg G s := ⟨hK, by rw [g6]; exact hold, by rw [g4]; exact Nat.le_refl _, hGO⟩
  have hC : Cx G ML p s m #[Value.ref b] meth c := ⟨hx, hb, hr, hlocks, hml, hown, htg, hSg, fun h => absurd h (by decide)⟩
  have hE := law_ev hO (hpure L xs hL)
  have hls := lv_entry ([.ref b]) (n := 4) (Nat.le_of_ble_eq_true rfl)
  rw [lg_entry_eq]
  generalize (lg_sl ([.ref b]) ++ List.replicate (4 - (lg_sl ([.ref b])).length) Slot.unset).toArray = la at hls ⊢
  have hgA : gA G 1004 = b := by show go G 4 = b; rw [g5, ho4]
  have hls' : lv_has la (mL ML) ([(0, Value.ref 1004)].map (gp G)) := by
    have : ([(0, Value.ref 1004)].map (gp G)) = [(0, Value.ref b)] := by simp [gp, gv, hgA]
    rw [this]; exact hls
  have hW0 : Wd G 0 I00 L00 R00 s.heap := ⟨fun k q hk => by simp [wsx] at hk, fun _ => by rw [g4]; rfl, by decide⟩
  have h1 := hE p e s m #[Value.ref b] below meth c hC s.heap [] la hW0 va_S.rf hls' (Nat.le_refl _) (by decide)
  rw [g1] at h1
  intro T hT X
  have X' : Stand p l e (rmM ML 0 178) s m #[Value.ref b] below meth c T [] (0 - 0) (tot 0 - tot 0) := by
    refine { X with room := hasRoom_mono X.room ?_ ?_ ?_ ?_, same := ?_ }
    · show 500 ≤ 2048; decide
    · show 60 * 500 ≤ 84000; decide
    · show 178 - 0 ≤ 600000; decide
    · show tot 178 - tot 0 ≤ 7302250; have := tot178; omega
    · simpa using X.same
  obtain ⟨t, a1', o', b1, b2, hq, L', hFE, hfree⟩ := h1 T hT X'
  refine ⟨t, a1', o', b1, b2, ?_⟩
  obtain ⟨v, n', I', L2, R', hv, ⟨-, -, bb, hbb, hbt⟩, -⟩ := hq
  refine ⟨?_, hFE.1, hFE.2.1, ?_⟩
  · rw [hv, hbb, hbt]; rfl
  · have h5 := State.sameButNew.drop_fresh (L := []) (J := L') (by simpa using hFE.2.2) (fun q hq => by have := hfree q hq; rw [gF, g4] at this; exact this)
    refine h5.mono (by decide) ?_
    show tot 178 - tot 0 ≤ 7302250; have := tot178; omega

