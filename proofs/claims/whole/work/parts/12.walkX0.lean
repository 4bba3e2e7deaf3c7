set_option maxHeartbeats 4000000 in
set_option maxRecDepth 100000 in
theorem kX0_clear {l : Launch} {D : va_G} {k : Nat → ClassId} (h0 : Nat) (z0 z1 z2 : Value) (v_nodes : Int32) (v_meetings : Int32) (v_letters : Int32) (q : Int32 × Int32 × Int32) (hf : fX0_clear v_nodes v_meetings v_letters = some q) : KMv l yX0_clear cX0_clear 1 ({ frames := 0, cells := 0, slots := 0, locals := 0 } : Room) D k [.ref h0] (wX0_clear k h0 z0 z1 z2 v_nodes v_meetings v_letters) (wX0_clear k h0 z0 z1 z2 q.1 q.2.1 q.2.2) := by
  refine kent_v (by decide) (Nat.le_of_ble_eq_true rfl) ?_
  intro p e s m below meth c A Q ls C hP hD hS hl hret
  obtain ⟨hx, hb, -⟩ := id C
  have hl : lv_has ls 1 [(0, .ref h0)] := hl
  unfold fX0_clear at hf
  generalize ([.ref h0] : List Value).toArray = args at *
  refine lv_aload_n hx hb dX0_clear_0 rfl (lv_at hl 0 rfl) ?_
  refine lv_iconst (v := (0 : Int32)) hx hb dX0_clear_1 (by decide) ?_
  refine kput C inX0 tyX0_ok nmX0 hP hD hS 0 rfl rfl 3 (by decide) mw_58 rfl rfl rfl (Nat.le_of_ble_eq_true rfl) dX0_clear_2 (w2 := (wX0_clear k h0 z0 z1 z2 (0 : Int32) v_meetings v_letters)) rfl (fun H locs hP hD hS => ?_)
  refine lv_aload_n hx hb dX0_clear_5 rfl (lv_at hl 0 rfl) ?_
  refine lv_iconst (v := (0 : Int32)) hx hb dX0_clear_6 (by decide) ?_
  refine kput C inX0 tyX0_ok nmX0 hP hD hS 0 rfl rfl 4 (by decide) mw_63 rfl rfl rfl (Nat.le_of_ble_eq_true rfl) dX0_clear_7 (w2 := (wX0_clear k h0 z0 z1 z2 (0 : Int32) (0 : Int32) v_letters)) rfl (fun H locs hP hD hS => ?_)
  refine lv_aload_n hx hb dX0_clear_10 rfl (lv_at hl 0 rfl) ?_
  refine lv_iconst (v := (0 : Int32)) hx hb dX0_clear_11 (by decide) ?_
  refine kput C inX0 tyX0_ok nmX0 hP hD hS 0 rfl rfl 5 (by decide) mw_67 rfl rfl rfl (Nat.le_of_ble_eq_true rfl) dX0_clear_12 (w2 := (wX0_clear k h0 z0 z1 z2 (0 : Int32) (0 : Int32) (0 : Int32))) rfl (fun H locs hP hD hS => ?_)
  obtain rfl := Option.some.inj hf
  exact hret _ _ _ _ dX0_clear_15 hP hS
set_option maxHeartbeats 4000000 in
set_option maxRecDepth 100000 in
theorem kX0_copyFrom {l : Launch} {D : va_G} {k : Nat → ClassId} (h0 h1 h2 h3 h4 h5 h6 h7 : Nat) (v_nodes : Int32) (v_meetings : Int32) (v_letters : Int32) (v_rooms : Nat → Int32) (v_meetingRows : Nat → Int32) (v_letterRows : Nat → Int32) (v_a1_nodes : Int32) (v_a1_meetings : Int32) (v_a1_letters : Int32) (v_a1_rooms : Nat → Int32) (v_a1_meetingRows : Nat → Int32) (v_a1_letterRows : Nat → Int32) (q : Int32 × Int32 × Int32 × (Nat → Int32) × (Nat → Int32) × (Nat → Int32)) (hf : fX0_copyFrom v_nodes v_meetings v_letters v_rooms v_meetingRows v_letterRows v_a1_nodes v_a1_meetings v_a1_letters v_a1_rooms v_a1_meetingRows v_a1_letterRows = some q) : KMv l yX0_copyFrom cX0_copyFrom 2 ({ frames := 1, cells := 0, slots := 0, locals := 48 } : Room) D k [.ref h0, .ref h4] (wX0_copyFrom k h0 h1 h2 h3 h4 h5 h6 h7 v_nodes v_meetings v_letters v_rooms v_meetingRows v_letterRows v_a1_nodes v_a1_meetings v_a1_letters v_a1_rooms v_a1_meetingRows v_a1_letterRows) (wX0_copyFrom k h0 h1 h2 h3 h4 h5 h6 h7 q.1 q.2.1 q.2.2.1 q.2.2.2.1 q.2.2.2.2.1 q.2.2.2.2.2 v_a1_nodes v_a1_meetings v_a1_letters v_a1_rooms v_a1_meetingRows v_a1_letterRows) := by
  refine kent_v (by decide) (Nat.le_of_ble_eq_true rfl) ?_
  intro p e s m below meth c A Q ls C hP hD hS hl hret
  obtain ⟨hx, hb, -⟩ := id C
  have hl : lv_has ls 2 [(0, .ref h0), (1, .ref h4)] := hl
  unfold fX0_copyFrom at hf
  generalize ([.ref h0, .ref h4] : List Value).toArray = args at *
  refine lv_aload_n hx hb dX0_copyFrom_0 rfl (lv_at hl 1 rfl) ?_
  refine kget C inX0 hP 4 rfl rfl 0 (by decide) mw_52 rfl dX0_copyFrom_1 ?_
  refine lv_iconst (v := (0 : Int32)) hx hb dX0_copyFrom_4 (by decide) ?_
  refine lv_aload_n hx hb dX0_copyFrom_5 rfl (lv_at hl 0 rfl) ?_
  refine kget C inX0 hP 0 rfl rfl 0 (by decide) mw_52 rfl dX0_copyFrom_6 ?_
  refine lv_iconst (v := (0 : Int32)) hx hb dX0_copyFrom_9 (by decide) ?_
  refine lv_aload_n hx hb dX0_copyFrom_10 rfl (lv_at hl 0 rfl) ?_
  refine kget C inX0 hP 0 rfl rfl 0 (by decide) mw_52 rfl dX0_copyFrom_11 ?_
  refine va_alen hx hb C.2.2.2.2.2.2 hP 1 0 rfl rfl (v := (8 : Int32)) (show Int32.ofNat 8 = 8 by decide) dX0_copyFrom_14 ?_
  obtain ⟨v_rooms_15, hn15, hf⟩ := nm_some hf
  refine va_copyi hx hb (C.2.2.1.trans hl.1.symm) C.2.2.2.1 (C.2.2.2.2.1 _ mw_392) (C.2.2.2.2.1 _ mw_394) (C.2.2.2.2.1 _ mw_393) (C.2.2.2.2.1 _ mw_12) C.2.2.2.2.2.2 hP hD hS 5 1 0 0 rfl rfl rfl rfl rfl (by decide) (by decide) (by decide) (by decide) (by decide) (fun _ _ => rfl) (Nat.le_of_ble_eq_true rfl) (by decide) dX0_copyFrom_15 (fun H locs hP hD hS => ?_)
  have hP : va_P D vwCl (wX0_copyFrom k h0 h1 h2 h3 h4 h5 h6 h7 v_nodes v_meetings v_letters v_rooms_15 v_meetingRows v_letterRows v_a1_nodes v_a1_meetings v_a1_letters v_a1_rooms v_a1_meetingRows v_a1_letterRows) H := by rw [hn15]; exact hP
  have hD : va_D A (wX0_copyFrom k h0 h1 h2 h3 h4 h5 h6 h7 v_nodes v_meetings v_letters v_rooms_15 v_meetingRows v_letterRows v_a1_nodes v_a1_meetings v_a1_letters v_a1_rooms v_a1_meetingRows v_a1_letterRows) := by rw [hn15]; exact hD
  refine lv_aload_n hx hb dX0_copyFrom_18 rfl (lv_at hl 1 rfl) ?_
  refine kget C inX0 hP 4 rfl rfl 1 (by decide) mw_55 rfl dX0_copyFrom_19 ?_
  refine lv_iconst (v := (0 : Int32)) hx hb dX0_copyFrom_22 (by decide) ?_
  refine lv_aload_n hx hb dX0_copyFrom_23 rfl (lv_at hl 0 rfl) ?_
  refine kget C inX0 hP 0 rfl rfl 1 (by decide) mw_55 rfl dX0_copyFrom_24 ?_
  refine lv_iconst (v := (0 : Int32)) hx hb dX0_copyFrom_27 (by decide) ?_
  refine lv_aload_n hx hb dX0_copyFrom_28 rfl (lv_at hl 0 rfl) ?_
  refine kget C inX0 hP 0 rfl rfl 1 (by decide) mw_55 rfl dX0_copyFrom_29 ?_
  refine va_alen hx hb C.2.2.2.2.2.2 hP 2 0 rfl rfl (v := (96 : Int32)) (show Int32.ofNat 96 = 96 by decide) dX0_copyFrom_32 ?_
  obtain ⟨v_meetingRows_33, hn33, hf⟩ := nm_some hf
  refine va_copyi hx hb (C.2.2.1.trans hl.1.symm) C.2.2.2.1 (C.2.2.2.2.1 _ mw_392) (C.2.2.2.2.1 _ mw_394) (C.2.2.2.2.1 _ mw_393) (C.2.2.2.2.1 _ mw_12) C.2.2.2.2.2.2 hP hD hS 6 2 0 0 rfl rfl rfl rfl rfl (by decide) (by decide) (by decide) (by decide) (by decide) (fun _ _ => rfl) (Nat.le_of_ble_eq_true rfl) (by decide) dX0_copyFrom_33 (fun H locs hP hD hS => ?_)
  have hP : va_P D vwCl (wX0_copyFrom k h0 h1 h2 h3 h4 h5 h6 h7 v_nodes v_meetings v_letters v_rooms_15 v_meetingRows_33 v_letterRows v_a1_nodes v_a1_meetings v_a1_letters v_a1_rooms v_a1_meetingRows v_a1_letterRows) H := by rw [hn33]; exact hP
  have hD : va_D A (wX0_copyFrom k h0 h1 h2 h3 h4 h5 h6 h7 v_nodes v_meetings v_letters v_rooms_15 v_meetingRows_33 v_letterRows v_a1_nodes v_a1_meetings v_a1_letters v_a1_rooms v_a1_meetingRows v_a1_letterRows) := by rw [hn33]; exact hD
  refine lv_aload_n hx hb dX0_copyFrom_36 rfl (lv_at hl 1 rfl) ?_
  refine kget C inX0 hP 4 rfl rfl 2 (by decide) mw_56 rfl dX0_copyFrom_37 ?_
  refine lv_iconst (v := (0 : Int32)) hx hb dX0_copyFrom_40 (by decide) ?_
  refine lv_aload_n hx hb dX0_copyFrom_41 rfl (lv_at hl 0 rfl) ?_
  refine kget C inX0 hP 0 rfl rfl 2 (by decide) mw_56 rfl dX0_copyFrom_42 ?_
  refine lv_iconst (v := (0 : Int32)) hx hb dX0_copyFrom_45 (by decide) ?_
  refine lv_aload_n hx hb dX0_copyFrom_46 rfl (lv_at hl 0 rfl) ?_
  refine kget C inX0 hP 0 rfl rfl 2 (by decide) mw_56 rfl dX0_copyFrom_47 ?_
  refine va_alen hx hb C.2.2.2.2.2.2 hP 3 0 rfl rfl (v := (96 : Int32)) (show Int32.ofNat 96 = 96 by decide) dX0_copyFrom_50 ?_
  obtain ⟨v_letterRows_51, hn51, hf⟩ := nm_some hf
  refine va_copyi hx hb (C.2.2.1.trans hl.1.symm) C.2.2.2.1 (C.2.2.2.2.1 _ mw_392) (C.2.2.2.2.1 _ mw_394) (C.2.2.2.2.1 _ mw_393) (C.2.2.2.2.1 _ mw_12) C.2.2.2.2.2.2 hP hD hS 7 3 0 0 rfl rfl rfl rfl rfl (by decide) (by decide) (by decide) (by decide) (by decide) (fun _ _ => rfl) (Nat.le_of_ble_eq_true rfl) (by decide) dX0_copyFrom_51 (fun H locs hP hD hS => ?_)
  have hP : va_P D vwCl (wX0_copyFrom k h0 h1 h2 h3 h4 h5 h6 h7 v_nodes v_meetings v_letters v_rooms_15 v_meetingRows_33 v_letterRows_51 v_a1_nodes v_a1_meetings v_a1_letters v_a1_rooms v_a1_meetingRows v_a1_letterRows) H := by rw [hn51]; exact hP
  have hD : va_D A (wX0_copyFrom k h0 h1 h2 h3 h4 h5 h6 h7 v_nodes v_meetings v_letters v_rooms_15 v_meetingRows_33 v_letterRows_51 v_a1_nodes v_a1_meetings v_a1_letters v_a1_rooms v_a1_meetingRows v_a1_letterRows) := by rw [hn51]; exact hD
  refine lv_aload_n hx hb dX0_copyFrom_54 rfl (lv_at hl 0 rfl) ?_
  refine lv_aload_n hx hb dX0_copyFrom_55 rfl (lv_at hl 1 rfl) ?_
  refine kget C inX0 hP 4 rfl rfl 3 (by decide) mw_58 rfl dX0_copyFrom_56 ?_
  refine kput C inX0 tyX0_ok nmX0 hP hD hS 0 rfl rfl 3 (by decide) mw_58 rfl rfl rfl (Nat.le_of_ble_eq_true rfl) dX0_copyFrom_59 (w2 := (wX0_copyFrom k h0 h1 h2 h3 h4 h5 h6 h7 v_a1_nodes v_meetings v_letters v_rooms_15 v_meetingRows_33 v_letterRows_51 v_a1_nodes v_a1_meetings v_a1_letters v_a1_rooms v_a1_meetingRows v_a1_letterRows)) rfl (fun H locs hP hD hS => ?_)
  refine lv_aload_n hx hb dX0_copyFrom_62 rfl (lv_at hl 0 rfl) ?_
  refine lv_aload_n hx hb dX0_copyFrom_63 rfl (lv_at hl 1 rfl) ?_
  refine kget C inX0 hP 4 rfl rfl 4 (by decide) mw_63 rfl dX0_copyFrom_64 ?_
  refine kput C inX0 tyX0_ok nmX0 hP hD hS 0 rfl rfl 4 (by decide) mw_63 rfl rfl rfl (Nat.le_of_ble_eq_true rfl) dX0_copyFrom_67 (w2 := (wX0_copyFrom k h0 h1 h2 h3 h4 h5 h6 h7 v_a1_nodes v_a1_meetings v_letters v_rooms_15 v_meetingRows_33 v_letterRows_51 v_a1_nodes v_a1_meetings v_a1_letters v_a1_rooms v_a1_meetingRows v_a1_letterRows)) rfl (fun H locs hP hD hS => ?_)
  refine lv_aload_n hx hb dX0_copyFrom_70 rfl (lv_at hl 0 rfl) ?_
  refine lv_aload_n hx hb dX0_copyFrom_71 rfl (lv_at hl 1 rfl) ?_
  refine kget C inX0 hP 4 rfl rfl 5 (by decide) mw_67 rfl dX0_copyFrom_72 ?_
  refine kput C inX0 tyX0_ok nmX0 hP hD hS 0 rfl rfl 5 (by decide) mw_67 rfl rfl rfl (Nat.le_of_ble_eq_true rfl) dX0_copyFrom_75 (w2 := (wX0_copyFrom k h0 h1 h2 h3 h4 h5 h6 h7 v_a1_nodes v_a1_meetings v_a1_letters v_rooms_15 v_meetingRows_33 v_letterRows_51 v_a1_nodes v_a1_meetings v_a1_letters v_a1_rooms v_a1_meetingRows v_a1_letterRows)) rfl (fun H locs hP hD hS => ?_)
  obtain rfl := Option.some.inj hf
  exact hret _ _ _ _ dX0_copyFrom_78 hP hS
set_option maxHeartbeats 4000000 in
set_option maxRecDepth 100000 in
theorem kX0_hasNode {l : Launch} {D : va_G} {k : Nat → ClassId} (h0 : Nat) (z0 z1 z2 z3 z4 : Value) (v_nodes : Int32) (x1 : Int32) (q : Int32) (hf : fX0_hasNode v_nodes x1 = some q) : KMi l yX0_hasNode cX0_hasNode 2 (some .boolean) ({ frames := 0, cells := 0, slots := 0, locals := 0 } : Room) D k [.ref h0, .int x1] (wX0_hasNode k h0 z0 z1 z2 z3 z4 v_nodes) q (wX0_hasNode k h0 z0 z1 z2 z3 z4 v_nodes) := by
  refine kent_z (by decide) (Nat.le_of_ble_eq_true rfl) ?_
  intro p e s m below meth c A Q ls C hP hD hS hl hret
  obtain ⟨hx, hb, -⟩ := id C
  have hl : lv_has ls 2 [(0, .ref h0), (1, .int x1)] := hl
  unfold fX0_hasNode at hf
  generalize ([.ref h0, .int x1] : List Value).toArray = args at *
  refine lv_iload_n hx hb dX0_hasNode_0 rfl (lv_at hl 1 rfl) ?_
  refine lv_if_lt (tgt := 16) hx hb dX0_hasNode_1 (by decide) (fun hc => ?_) (fun hc => ?_)
  · rw [if_pos hc] at hf
    refine lv_iconst (v := (0 : Int32)) hx hb dX0_hasNode_16 (by decide) ?_
    obtain rfl := Option.some.inj hf
    exact hret _ _ _ _ dX0_hasNode_17 (by decide) hP hS
  · rw [if_neg hc] at hf
    refine lv_iload_n hx hb dX0_hasNode_4 rfl (lv_at hl 1 rfl) ?_
    refine lv_aload_n hx hb dX0_hasNode_5 rfl (lv_at hl 0 rfl) ?_
    refine kget C inX0 hP 0 rfl rfl 3 (by decide) mw_58 rfl dX0_hasNode_6 ?_
    refine lv_icmp_ge (tgt := 16) hx hb dX0_hasNode_9 (by decide) (fun hc => ?_) (fun hc => ?_)
    · rw [if_pos hc] at hf
      refine lv_iconst (v := (0 : Int32)) hx hb dX0_hasNode_16 (by decide) ?_
      obtain rfl := Option.some.inj hf
      exact hret _ _ _ _ dX0_hasNode_17 (by decide) hP hS
    · rw [if_neg hc] at hf
      refine lv_iconst (v := (1 : Int32)) hx hb dX0_hasNode_12 (by decide) ?_
      refine lv_goto (tgt := 17) hx hb dX0_hasNode_13 (by decide) ?_
      obtain rfl := Option.some.inj hf
      exact hret _ _ _ _ dX0_hasNode_17 (by decide) hP hS
set_option maxHeartbeats 4000000 in
set_option maxRecDepth 100000 in
theorem kX0_hasPair {l : Launch} {D : va_G} {k : Nat → ClassId} (h0 : Nat) (z0 z1 z2 z3 z4 : Value) (v_nodes : Int32) (x1 : Int32) (x2 : Int32) (q : Int32) (hf : fX0_hasPair v_nodes x1 x2 = some q) : KMi l yX0_hasPair cX0_hasPair 3 (some .boolean) ({ frames := 1, cells := 0, slots := 0, locals := 21 } : Room) D k [.ref h0, .int x1, .int x2] (wX0_hasPair k h0 z0 z1 z2 z3 z4 v_nodes) q (wX0_hasPair k h0 z0 z1 z2 z3 z4 v_nodes) := by
  refine kent_z (by decide) (Nat.le_of_ble_eq_true rfl) ?_
  intro p e s m below meth c A Q ls C hP hD hS hl hret
  obtain ⟨hx, hb, -⟩ := id C
  have hl : lv_has ls 3 [(0, .ref h0), (1, .int x1), (2, .int x2)] := hl
  unfold fX0_hasPair at hf
  generalize ([.ref h0, .int x1, .int x2] : List Value).toArray = args at *
  refine lv_aload_n hx hb dX0_hasPair_0 rfl (lv_at hl 0 rfl) ?_
  refine lv_iload_n hx hb dX0_hasPair_1 rfl (lv_at hl 1 rfl) ?_
  obtain ⟨q2, hq2, hf⟩ := bd_some hf
  refine kcVi C (kX0_hasNode (l := l) (D := D) (k := k) h0 z0 z1 z2 z3 z4 v_nodes x1 q2 hq2) mt_X0_hasNode mw_514 ⟨rfl, rfl, Nat.le_of_ble_eq_true rfl, Nat.le_of_ble_eq_true rfl⟩ hP hD hS 0 rfl rfl rfl [0] rfl rfl [some 0] rfl rfl (w2 := (wX0_hasPair k h0 z0 z1 z2 z3 z4 v_nodes)) rfl rfl rfl hl.1 (rest := []) (Nat.le_of_ble_eq_true rfl) rfl dX0_hasPair_2 ⟨Nat.zero_le _, Nat.zero_le _⟩ (fun H locs hP hD hS => ?_)
  refine lv_if_eq (tgt := 25) hx hb dX0_hasPair_5 (by decide) (fun hc => ?_) (fun hc => ?_)
  · rw [if_pos hc] at hf
    refine lv_iconst (v := (0 : Int32)) hx hb dX0_hasPair_25 (by decide) ?_
    obtain rfl := Option.some.inj hf
    exact hret _ _ _ _ dX0_hasPair_26 (by decide) hP hS
  · rw [if_neg hc] at hf
    refine lv_aload_n hx hb dX0_hasPair_8 rfl (lv_at hl 0 rfl) ?_
    refine lv_iload_n hx hb dX0_hasPair_9 rfl (lv_at hl 2 rfl) ?_
    obtain ⟨q10, hq10, hf⟩ := bd_some hf
    refine kcVi C (kX0_hasNode (l := l) (D := D) (k := k) h0 z0 z1 z2 z3 z4 v_nodes x2 q10 hq10) mt_X0_hasNode mw_514 ⟨rfl, rfl, Nat.le_of_ble_eq_true rfl, Nat.le_of_ble_eq_true rfl⟩ hP hD hS 0 rfl rfl rfl [0] rfl rfl [some 0] rfl rfl (w2 := (wX0_hasPair k h0 z0 z1 z2 z3 z4 v_nodes)) rfl rfl rfl hl.1 (rest := []) (Nat.le_of_ble_eq_true rfl) rfl dX0_hasPair_10 ⟨Nat.zero_le _, Nat.zero_le _⟩ (fun H locs hP hD hS => ?_)
    refine lv_if_eq (tgt := 25) hx hb dX0_hasPair_13 (by decide) (fun hc => ?_) (fun hc => ?_)
    · rw [if_pos hc] at hf
      refine lv_iconst (v := (0 : Int32)) hx hb dX0_hasPair_25 (by decide) ?_
      obtain rfl := Option.some.inj hf
      exact hret _ _ _ _ dX0_hasPair_26 (by decide) hP hS
    · rw [if_neg hc] at hf
      refine lv_iload_n hx hb dX0_hasPair_16 rfl (lv_at hl 1 rfl) ?_
      refine lv_iload_n hx hb dX0_hasPair_17 rfl (lv_at hl 2 rfl) ?_
      refine lv_icmp_eq (tgt := 25) hx hb dX0_hasPair_18 (by decide) (fun hc => ?_) (fun hc => ?_)
      · rw [if_pos hc] at hf
        refine lv_iconst (v := (0 : Int32)) hx hb dX0_hasPair_25 (by decide) ?_
        obtain rfl := Option.some.inj hf
        exact hret _ _ _ _ dX0_hasPair_26 (by decide) hP hS
      · rw [if_neg hc] at hf
        refine lv_iconst (v := (1 : Int32)) hx hb dX0_hasPair_21 (by decide) ?_
        refine lv_goto (tgt := 26) hx hb dX0_hasPair_22 (by decide) ?_
        obtain rfl := Option.some.inj hf
        exact hret _ _ _ _ dX0_hasPair_26 (by decide) hP hS
set_option maxHeartbeats 4000000 in
set_option maxRecDepth 100000 in
theorem kX0_hasLetter {l : Launch} {D : va_G} {k : Nat → ClassId} (h0 : Nat) (z0 z1 z2 z3 z4 : Value) (v_letters : Int32) (x1 : Int32) (q : Int32) (hf : fX0_hasLetter v_letters x1 = some q) : KMi l yX0_hasLetter cX0_hasLetter 2 (some .boolean) ({ frames := 0, cells := 0, slots := 0, locals := 0 } : Room) D k [.ref h0, .int x1] (wX0_hasLetter k h0 z0 z1 z2 z3 z4 v_letters) q (wX0_hasLetter k h0 z0 z1 z2 z3 z4 v_letters) := by
  refine kent_z (by decide) (Nat.le_of_ble_eq_true rfl) ?_
  intro p e s m below meth c A Q ls C hP hD hS hl hret
  obtain ⟨hx, hb, -⟩ := id C
  have hl : lv_has ls 2 [(0, .ref h0), (1, .int x1)] := hl
  unfold fX0_hasLetter at hf
  generalize ([.ref h0, .int x1] : List Value).toArray = args at *
  refine lv_iload_n hx hb dX0_hasLetter_0 rfl (lv_at hl 1 rfl) ?_
  refine lv_if_lt (tgt := 16) hx hb dX0_hasLetter_1 (by decide) (fun hc => ?_) (fun hc => ?_)
  · rw [if_pos hc] at hf
    refine lv_iconst (v := (0 : Int32)) hx hb dX0_hasLetter_16 (by decide) ?_
    obtain rfl := Option.some.inj hf
    exact hret _ _ _ _ dX0_hasLetter_17 (by decide) hP hS
  · rw [if_neg hc] at hf
    refine lv_iload_n hx hb dX0_hasLetter_4 rfl (lv_at hl 1 rfl) ?_
    refine lv_aload_n hx hb dX0_hasLetter_5 rfl (lv_at hl 0 rfl) ?_
    refine kget C inX0 hP 0 rfl rfl 5 (by decide) mw_67 rfl dX0_hasLetter_6 ?_
    refine lv_icmp_ge (tgt := 16) hx hb dX0_hasLetter_9 (by decide) (fun hc => ?_) (fun hc => ?_)
    · rw [if_pos hc] at hf
      refine lv_iconst (v := (0 : Int32)) hx hb dX0_hasLetter_16 (by decide) ?_
      obtain rfl := Option.some.inj hf
      exact hret _ _ _ _ dX0_hasLetter_17 (by decide) hP hS
    · rw [if_neg hc] at hf
      refine lv_iconst (v := (1 : Int32)) hx hb dX0_hasLetter_12 (by decide) ?_
      refine lv_goto (tgt := 17) hx hb dX0_hasLetter_13 (by decide) ?_
      obtain rfl := Option.some.inj hf
      exact hret _ _ _ _ dX0_hasLetter_17 (by decide) hP hS
set_option maxHeartbeats 4000000 in
set_option maxRecDepth 100000 in
theorem kX0_ofMeeting {l : Launch} {D : va_G} {k : Nat → ClassId} (h0 h1 : Nat) (z0 z1 z2 z3 z4 : Value) (v_meetingRows : Nat → Int32) (x1 : Int32) (x2 : Int32) (q : Int32) (hf : fX0_ofMeeting v_meetingRows x1 x2 = some q) : KMi l yX0_ofMeeting cX0_ofMeeting 3 (some .int) ({ frames := 0, cells := 0, slots := 0, locals := 0 } : Room) D k [.ref h0, .int x1, .int x2] (wX0_ofMeeting k h0 h1 z0 z1 z2 z3 z4 v_meetingRows) q (wX0_ofMeeting k h0 h1 z0 z1 z2 z3 z4 v_meetingRows) := by
  refine kent_i (by decide) (Nat.le_of_ble_eq_true rfl) ?_
  intro p e s m below meth c A Q ls C hP hD hS hl hret
  obtain ⟨hx, hb, -⟩ := id C
  have hl : lv_has ls 3 [(0, .ref h0), (1, .int x1), (2, .int x2)] := hl
  unfold fX0_ofMeeting at hf
  generalize ([.ref h0, .int x1, .int x2] : List Value).toArray = args at *
  refine lv_aload_n hx hb dX0_ofMeeting_0 rfl (lv_at hl 0 rfl) ?_
  refine kget C inX0 hP 0 rfl rfl 1 (by decide) mw_55 rfl dX0_ofMeeting_1 ?_
  refine lv_iload_n hx hb dX0_ofMeeting_4 rfl (lv_at hl 1 rfl) ?_
  refine lv_iconst (v := (4 : Int32)) hx hb dX0_ofMeeting_5 (by decide) ?_
  refine lv_imul hx hb dX0_ofMeeting_6 ?_
  refine lv_iload_n hx hb dX0_ofMeeting_7 rfl (lv_at hl 2 rfl) ?_
  refine lv_iadd hx hb dX0_ofMeeting_8 ?_
  obtain ⟨hin, hf⟩ := gd_some hf
  refine kiald C hP 1 rfl hin dX0_ofMeeting_9 (j := ((x1 * (4 : Int32)) + x2).toNatClampNeg) rfl ?_
  obtain rfl := Option.some.inj hf
  exact hret _ _ _ _ dX0_ofMeeting_10 hP hS
set_option maxHeartbeats 4000000 in
set_option maxRecDepth 100000 in
theorem kX0_ofLetter {l : Launch} {D : va_G} {k : Nat → ClassId} (h0 h1 : Nat) (z0 z1 z2 z3 z4 : Value) (v_letterRows : Nat → Int32) (x1 : Int32) (x2 : Int32) (q : Int32) (hf : fX0_ofLetter v_letterRows x1 x2 = some q) : KMi l yX0_ofLetter cX0_ofLetter 3 (some .int) ({ frames := 0, cells := 0, slots := 0, locals := 0 } : Room) D k [.ref h0, .int x1, .int x2] (wX0_ofLetter k h0 h1 z0 z1 z2 z3 z4 v_letterRows) q (wX0_ofLetter k h0 h1 z0 z1 z2 z3 z4 v_letterRows) := by
  refine kent_i (by decide) (Nat.le_of_ble_eq_true rfl) ?_
  intro p e s m below meth c A Q ls C hP hD hS hl hret
  obtain ⟨hx, hb, -⟩ := id C
  have hl : lv_has ls 3 [(0, .ref h0), (1, .int x1), (2, .int x2)] := hl
  unfold fX0_ofLetter at hf
  generalize ([.ref h0, .int x1, .int x2] : List Value).toArray = args at *
  refine lv_aload_n hx hb dX0_ofLetter_0 rfl (lv_at hl 0 rfl) ?_
  refine kget C inX0 hP 0 rfl rfl 2 (by decide) mw_56 rfl dX0_ofLetter_1 ?_
  refine lv_iload_n hx hb dX0_ofLetter_4 rfl (lv_at hl 1 rfl) ?_
  refine lv_bipush (v := (6 : Int32)) hx hb dX0_ofLetter_5 (by decide) ?_
  refine lv_imul hx hb dX0_ofLetter_7 ?_
  refine lv_iload_n hx hb dX0_ofLetter_8 rfl (lv_at hl 2 rfl) ?_
  refine lv_iadd hx hb dX0_ofLetter_9 ?_
  obtain ⟨hin, hf⟩ := gd_some hf
  refine kiald C hP 1 rfl hin dX0_ofLetter_10 (j := ((x1 * (6 : Int32)) + x2).toNatClampNeg) rfl ?_
  obtain rfl := Option.some.inj hf
  exact hret _ _ _ _ dX0_ofLetter_11 hP hS
set_option maxHeartbeats 4000000 in
set_option maxRecDepth 100000 in
theorem kX0_endOf {l : Launch} {D : va_G} {k : Nat → ClassId} (h0 h1 : Nat) (z0 z1 z2 z3 z4 : Value) (v_letterRows : Nat → Int32) (x1 : Int32) (q : Int32) (hf : fX0_endOf v_letterRows x1 = some q) : KMi l yX0_endOf cX0_endOf 2 (some .int) ({ frames := 0, cells := 0, slots := 0, locals := 0 } : Room) D k [.ref h0, .int x1] (wX0_endOf k h0 h1 z0 z1 z2 z3 z4 v_letterRows) q (wX0_endOf k h0 h1 z0 z1 z2 z3 z4 v_letterRows) := by
  refine kent_i (by decide) (Nat.le_of_ble_eq_true rfl) ?_
  intro p e s m below meth c A Q ls C hP hD hS hl hret
  obtain ⟨hx, hb, -⟩ := id C
  have hl : lv_has ls 2 [(0, .ref h0), (1, .int x1)] := hl
  unfold fX0_endOf at hf
  generalize ([.ref h0, .int x1] : List Value).toArray = args at *
  refine lv_aload_n hx hb dX0_endOf_0 rfl (lv_at hl 0 rfl) ?_
  refine kget C inX0 hP 0 rfl rfl 2 (by decide) mw_56 rfl dX0_endOf_1 ?_
  refine lv_iload_n hx hb dX0_endOf_4 rfl (lv_at hl 1 rfl) ?_
  refine lv_bipush (v := (6 : Int32)) hx hb dX0_endOf_5 (by decide) ?_
  refine lv_imul hx hb dX0_endOf_7 ?_
  refine lv_iconst (v := (0 : Int32)) hx hb dX0_endOf_8 (by decide) ?_
  refine lv_iadd hx hb dX0_endOf_9 ?_
  obtain ⟨hin, hf⟩ := gd_some hf
  refine kiald C hP 1 rfl hin dX0_endOf_10 (j := ((x1 * (6 : Int32)) + (0 : Int32)).toNatClampNeg) rfl ?_
  refine lv_aload_n hx hb dX0_endOf_11 rfl (lv_at hl 0 rfl) ?_
  refine kget C inX0 hP 0 rfl rfl 2 (by decide) mw_56 rfl dX0_endOf_12 ?_
  refine lv_iload_n hx hb dX0_endOf_15 rfl (lv_at hl 1 rfl) ?_
  refine lv_bipush (v := (6 : Int32)) hx hb dX0_endOf_16 (by decide) ?_
  refine lv_imul hx hb dX0_endOf_18 ?_
  refine lv_iconst (v := (5 : Int32)) hx hb dX0_endOf_19 (by decide) ?_
  refine lv_iadd hx hb dX0_endOf_20 ?_
  obtain ⟨hin, hf⟩ := gd_some hf
  refine kiald C hP 1 rfl hin dX0_endOf_21 (j := ((x1 * (6 : Int32)) + (5 : Int32)).toNatClampNeg) rfl ?_
  refine lv_iadd hx hb dX0_endOf_22 ?_
  obtain rfl := Option.some.inj hf
  exact hret _ _ _ _ dX0_endOf_23 hP hS
set_option maxHeartbeats 4000000 in
set_option maxRecDepth 100000 in
theorem kX0_addNode {l : Launch} {D : va_G} {k : Nat → ClassId} (h0 h1 : Nat) (z0 z1 z2 z3 : Value) (v_nodes : Int32) (v_rooms : Nat → Int32) (x1 : Int32) (q : Int32 × (Nat → Int32)) (hf : fX0_addNode v_nodes v_rooms x1 = some q) : KMv l yX0_addNode cX0_addNode 2 ({ frames := 0, cells := 0, slots := 0, locals := 0 } : Room) D k [.ref h0, .int x1] (wX0_addNode k h0 h1 z0 z1 z2 z3 v_nodes v_rooms) (wX0_addNode k h0 h1 z0 z1 z2 z3 q.1 q.2) := by
  refine kent_v (by decide) (Nat.le_of_ble_eq_true rfl) ?_
  intro p e s m below meth c A Q ls C hP hD hS hl hret
  obtain ⟨hx, hb, -⟩ := id C
  have hl : lv_has ls 2 [(0, .ref h0), (1, .int x1)] := hl
  unfold fX0_addNode at hf
  generalize ([.ref h0, .int x1] : List Value).toArray = args at *
  refine lv_aload_n hx hb dX0_addNode_0 rfl (lv_at hl 0 rfl) ?_
  refine kget C inX0 hP 0 rfl rfl 3 (by decide) mw_58 rfl dX0_addNode_1 ?_
  refine lv_bipush (v := (8 : Int32)) hx hb dX0_addNode_4 (by decide) ?_
  refine lv_icmp_ge (tgt := 29) hx hb dX0_addNode_6 (by decide) (fun hc => ?_) (fun hc => ?_)
  · rw [if_pos hc] at hf
    obtain rfl := Option.some.inj hf
    exact hret _ _ _ _ dX0_addNode_29 hP hS
  · rw [if_neg hc] at hf
    refine lv_aload_n hx hb dX0_addNode_9 rfl (lv_at hl 0 rfl) ?_
    refine kget C inX0 hP 0 rfl rfl 0 (by decide) mw_52 rfl dX0_addNode_10 ?_
    refine lv_aload_n hx hb dX0_addNode_13 rfl (lv_at hl 0 rfl) ?_
    refine kget C inX0 hP 0 rfl rfl 3 (by decide) mw_58 rfl dX0_addNode_14 ?_
    refine lv_iload_n hx hb dX0_addNode_17 rfl (lv_at hl 1 rfl) ?_
    obtain ⟨hin, hf⟩ := gd_some hf
    obtain ⟨v_rooms_18, hn18, hf⟩ := nm_some hf
    refine kiast C hP hD hS 1 rfl hin dX0_addNode_18 (j := v_nodes.toNatClampNeg) rfl (g := v_rooms_18) hn18 (w2 := (wX0_addNode k h0 h1 z0 z1 z2 z3 v_nodes v_rooms_18)) rfl (fun H locs hP hD hS => ?_)
    refine lv_aload_n hx hb dX0_addNode_19 rfl (lv_at hl 0 rfl) ?_
    refine lv_dup hx hb dX0_addNode_20 rfl ?_
    refine kget C inX0 hP 0 rfl rfl 3 (by decide) mw_58 rfl dX0_addNode_21 ?_
    refine lv_iconst (v := (1 : Int32)) hx hb dX0_addNode_24 (by decide) ?_
    refine lv_iadd hx hb dX0_addNode_25 ?_
    refine kput C inX0 tyX0_ok nmX0 hP hD hS 0 rfl rfl 3 (by decide) mw_58 rfl rfl rfl (Nat.le_of_ble_eq_true rfl) dX0_addNode_26 (w2 := (wX0_addNode k h0 h1 z0 z1 z2 z3 (v_nodes + (1 : Int32)) v_rooms_18)) rfl (fun H locs hP hD hS => ?_)
    obtain rfl := Option.some.inj hf
    exact hret _ _ _ _ dX0_addNode_29 hP hS
set_option maxHeartbeats 4000000 in
set_option maxRecDepth 100000 in
theorem kX0_addMeeting {l : Launch} {D : va_G} {k : Nat → ClassId} (h0 h1 : Nat) (z0 z1 z2 z3 : Value) (v_meetings : Int32) (v_meetingRows : Nat → Int32) (x1 : Int32) (x2 : Int32) (x3 : Int32) (x4 : Int32) (q : Int32 × (Nat → Int32)) (hf : fX0_addMeeting v_meetings v_meetingRows x1 x2 x3 x4 = some q) : KMv l yX0_addMeeting cX0_addMeeting 6 ({ frames := 0, cells := 0, slots := 0, locals := 0 } : Room) D k [.ref h0, .int x1, .int x2, .int x3, .int x4] (wX0_addMeeting k h0 h1 z0 z1 z2 z3 v_meetings v_meetingRows) (wX0_addMeeting k h0 h1 z0 z1 z2 z3 q.1 q.2) := by
  refine kent_v (by decide) (Nat.le_of_ble_eq_true rfl) ?_
  intro p e s m below meth c A Q ls C hP hD hS hl hret
  obtain ⟨hx, hb, -⟩ := id C
  have hl : lv_has ls 6 [(0, .ref h0), (1, .int x1), (2, .int x2), (3, .int x3), (4, .int x4)] := hl
  unfold fX0_addMeeting at hf
  generalize ([.ref h0, .int x1, .int x2, .int x3, .int x4] : List Value).toArray = args at *
  refine lv_aload_n hx hb dX0_addMeeting_0 rfl (lv_at hl 0 rfl) ?_
  refine kget C inX0 hP 0 rfl rfl 4 (by decide) mw_63 rfl dX0_addMeeting_1 ?_
  refine lv_bipush (v := (24 : Int32)) hx hb dX0_addMeeting_4 (by decide) ?_
  refine lv_icmp_ge (tgt := 68) hx hb dX0_addMeeting_6 (by decide) (fun hc => ?_) (fun hc => ?_)
  · rw [if_pos hc] at hf
    obtain rfl := Option.some.inj hf
    exact hret _ _ _ _ dX0_addMeeting_68 hP hS
  · rw [if_neg hc] at hf
    refine lv_aload_n hx hb dX0_addMeeting_9 rfl (lv_at hl 0 rfl) ?_
    refine kget C inX0 hP 0 rfl rfl 4 (by decide) mw_63 rfl dX0_addMeeting_10 ?_
    refine lv_iconst (v := (4 : Int32)) hx hb dX0_addMeeting_13 (by decide) ?_
    refine lv_imul hx hb dX0_addMeeting_14 ?_
    refine lv_istore (lv' := [(5, .int (v_meetings * (4 : Int32))), (0, .ref h0), (1, .int x1), (2, .int x2), (3, .int x3), (4, .int x4)]) hx hb dX0_addMeeting_15 hl (by decide) rfl (fun ls hl => ?_)
    refine lv_aload_n hx hb dX0_addMeeting_17 rfl (lv_at hl 1 rfl) ?_
    refine kget C inX0 hP 0 rfl rfl 1 (by decide) mw_55 rfl dX0_addMeeting_18 ?_
    refine lv_iload hx hb dX0_addMeeting_21 (lv_at hl 0 rfl) ?_
    refine lv_iconst (v := (0 : Int32)) hx hb dX0_addMeeting_23 (by decide) ?_
    refine lv_iadd hx hb dX0_addMeeting_24 ?_
    refine lv_iload_n hx hb dX0_addMeeting_25 rfl (lv_at hl 2 rfl) ?_
    obtain ⟨hin, hf⟩ := gd_some hf
    obtain ⟨v_meetingRows_26, hn26, hf⟩ := nm_some hf
    refine kiast C hP hD hS 1 rfl hin dX0_addMeeting_26 (j := ((v_meetings * (4 : Int32)) + (0 : Int32)).toNatClampNeg) rfl (g := v_meetingRows_26) hn26 (w2 := (wX0_addMeeting k h0 h1 z0 z1 z2 z3 v_meetings v_meetingRows_26)) rfl (fun H locs hP hD hS => ?_)
    refine lv_aload_n hx hb dX0_addMeeting_27 rfl (lv_at hl 1 rfl) ?_
    refine kget C inX0 hP 0 rfl rfl 1 (by decide) mw_55 rfl dX0_addMeeting_28 ?_
    refine lv_iload hx hb dX0_addMeeting_31 (lv_at hl 0 rfl) ?_
    refine lv_iconst (v := (1 : Int32)) hx hb dX0_addMeeting_33 (by decide) ?_
    refine lv_iadd hx hb dX0_addMeeting_34 ?_
    refine lv_iload_n hx hb dX0_addMeeting_35 rfl (lv_at hl 3 rfl) ?_
    obtain ⟨hin, hf⟩ := gd_some hf
    obtain ⟨v_meetingRows_36, hn36, hf⟩ := nm_some hf
    refine kiast C hP hD hS 1 rfl hin dX0_addMeeting_36 (j := ((v_meetings * (4 : Int32)) + (1 : Int32)).toNatClampNeg) rfl (g := v_meetingRows_36) hn36 (w2 := (wX0_addMeeting k h0 h1 z0 z1 z2 z3 v_meetings v_meetingRows_36)) rfl (fun H locs hP hD hS => ?_)
    refine lv_aload_n hx hb dX0_addMeeting_37 rfl (lv_at hl 1 rfl) ?_
    refine kget C inX0 hP 0 rfl rfl 1 (by decide) mw_55 rfl dX0_addMeeting_38 ?_
    refine lv_iload hx hb dX0_addMeeting_41 (lv_at hl 0 rfl) ?_
    refine lv_iconst (v := (2 : Int32)) hx hb dX0_addMeeting_43 (by decide) ?_
    refine lv_iadd hx hb dX0_addMeeting_44 ?_
    refine lv_iload_n hx hb dX0_addMeeting_45 rfl (lv_at hl 4 rfl) ?_
    obtain ⟨hin, hf⟩ := gd_some hf
    obtain ⟨v_meetingRows_46, hn46, hf⟩ := nm_some hf
    refine kiast C hP hD hS 1 rfl hin dX0_addMeeting_46 (j := ((v_meetings * (4 : Int32)) + (2 : Int32)).toNatClampNeg) rfl (g := v_meetingRows_46) hn46 (w2 := (wX0_addMeeting k h0 h1 z0 z1 z2 z3 v_meetings v_meetingRows_46)) rfl (fun H locs hP hD hS => ?_)
    refine lv_aload_n hx hb dX0_addMeeting_47 rfl (lv_at hl 1 rfl) ?_
    refine kget C inX0 hP 0 rfl rfl 1 (by decide) mw_55 rfl dX0_addMeeting_48 ?_
    refine lv_iload hx hb dX0_addMeeting_51 (lv_at hl 0 rfl) ?_
    refine lv_iconst (v := (3 : Int32)) hx hb dX0_addMeeting_53 (by decide) ?_
    refine lv_iadd hx hb dX0_addMeeting_54 ?_
    refine lv_iload hx hb dX0_addMeeting_55 (lv_at hl 5 rfl) ?_
    obtain ⟨hin, hf⟩ := gd_some hf
    obtain ⟨v_meetingRows_57, hn57, hf⟩ := nm_some hf
    refine kiast C hP hD hS 1 rfl hin dX0_addMeeting_57 (j := ((v_meetings * (4 : Int32)) + (3 : Int32)).toNatClampNeg) rfl (g := v_meetingRows_57) hn57 (w2 := (wX0_addMeeting k h0 h1 z0 z1 z2 z3 v_meetings v_meetingRows_57)) rfl (fun H locs hP hD hS => ?_)
    refine lv_aload_n hx hb dX0_addMeeting_58 rfl (lv_at hl 1 rfl) ?_
    refine lv_dup hx hb dX0_addMeeting_59 rfl ?_
    refine kget C inX0 hP 0 rfl rfl 4 (by decide) mw_63 rfl dX0_addMeeting_60 ?_
    refine lv_iconst (v := (1 : Int32)) hx hb dX0_addMeeting_63 (by decide) ?_
    refine lv_iadd hx hb dX0_addMeeting_64 ?_
    refine kput C inX0 tyX0_ok nmX0 hP hD hS 0 rfl rfl 4 (by decide) mw_63 rfl rfl rfl (Nat.le_of_ble_eq_true rfl) dX0_addMeeting_65 (w2 := (wX0_addMeeting k h0 h1 z0 z1 z2 z3 (v_meetings + (1 : Int32)) v_meetingRows_57)) rfl (fun H locs hP hD hS => ?_)
    obtain rfl := Option.some.inj hf
    exact hret _ _ _ _ dX0_addMeeting_68 hP hS
set_option maxHeartbeats 4000000 in
set_option maxRecDepth 100000 in
theorem kX0_addLetter {l : Launch} {D : va_G} {k : Nat → ClassId} (h0 h1 : Nat) (z0 z1 z2 z3 : Value) (v_letters : Int32) (v_letterRows : Nat → Int32) (x1 : Int32) (x2 : Int32) (x3 : Int32) (x4 : Int32) (x5 : Int32) (x6 : Int32) (q : Int32 × (Nat → Int32)) (hf : fX0_addLetter v_letters v_letterRows x1 x2 x3 x4 x5 x6 = some q) : KMv l yX0_addLetter cX0_addLetter 8 ({ frames := 0, cells := 0, slots := 0, locals := 0 } : Room) D k [.ref h0, .int x1, .int x2, .int x3, .int x4, .int x5, .int x6] (wX0_addLetter k h0 h1 z0 z1 z2 z3 v_letters v_letterRows) (wX0_addLetter k h0 h1 z0 z1 z2 z3 q.1 q.2) := by
  refine kent_v (by decide) (Nat.le_of_ble_eq_true rfl) ?_
  intro p e s m below meth c A Q ls C hP hD hS hl hret
  obtain ⟨hx, hb, -⟩ := id C
  have hl : lv_has ls 8 [(0, .ref h0), (1, .int x1), (2, .int x2), (3, .int x3), (4, .int x4), (5, .int x5), (6, .int x6)] := hl
  unfold fX0_addLetter at hf
  generalize ([.ref h0, .int x1, .int x2, .int x3, .int x4, .int x5, .int x6] : List Value).toArray = args at *
  refine lv_aload_n hx hb dX0_addLetter_0 rfl (lv_at hl 0 rfl) ?_
  refine kget C inX0 hP 0 rfl rfl 5 (by decide) mw_67 rfl dX0_addLetter_1 ?_
  refine lv_bipush (v := (16 : Int32)) hx hb dX0_addLetter_4 (by decide) ?_
  refine lv_icmp_ge (tgt := 91) hx hb dX0_addLetter_6 (by decide) (fun hc => ?_) (fun hc => ?_)
  · rw [if_pos hc] at hf
    obtain rfl := Option.some.inj hf
    exact hret _ _ _ _ dX0_addLetter_91 hP hS
  · rw [if_neg hc] at hf
    refine lv_aload_n hx hb dX0_addLetter_9 rfl (lv_at hl 0 rfl) ?_
    refine kget C inX0 hP 0 rfl rfl 5 (by decide) mw_67 rfl dX0_addLetter_10 ?_
    refine lv_bipush (v := (6 : Int32)) hx hb dX0_addLetter_13 (by decide) ?_
    refine lv_imul hx hb dX0_addLetter_15 ?_
    refine lv_istore (lv' := [(7, .int (v_letters * (6 : Int32))), (0, .ref h0), (1, .int x1), (2, .int x2), (3, .int x3), (4, .int x4), (5, .int x5), (6, .int x6)]) hx hb dX0_addLetter_16 hl (by decide) rfl (fun ls hl => ?_)
    refine lv_aload_n hx hb dX0_addLetter_18 rfl (lv_at hl 1 rfl) ?_
    refine kget C inX0 hP 0 rfl rfl 2 (by decide) mw_56 rfl dX0_addLetter_19 ?_
    refine lv_iload hx hb dX0_addLetter_22 (lv_at hl 0 rfl) ?_
    refine lv_iconst (v := (0 : Int32)) hx hb dX0_addLetter_24 (by decide) ?_
    refine lv_iadd hx hb dX0_addLetter_25 ?_
    refine lv_iload_n hx hb dX0_addLetter_26 rfl (lv_at hl 2 rfl) ?_
    obtain ⟨hin, hf⟩ := gd_some hf
    obtain ⟨v_letterRows_27, hn27, hf⟩ := nm_some hf
    refine kiast C hP hD hS 1 rfl hin dX0_addLetter_27 (j := ((v_letters * (6 : Int32)) + (0 : Int32)).toNatClampNeg) rfl (g := v_letterRows_27) hn27 (w2 := (wX0_addLetter k h0 h1 z0 z1 z2 z3 v_letters v_letterRows_27)) rfl (fun H locs hP hD hS => ?_)
    refine lv_aload_n hx hb dX0_addLetter_28 rfl (lv_at hl 1 rfl) ?_
    refine kget C inX0 hP 0 rfl rfl 2 (by decide) mw_56 rfl dX0_addLetter_29 ?_
    refine lv_iload hx hb dX0_addLetter_32 (lv_at hl 0 rfl) ?_
    refine lv_iconst (v := (1 : Int32)) hx hb dX0_addLetter_34 (by decide) ?_
    refine lv_iadd hx hb dX0_addLetter_35 ?_
    refine lv_iload_n hx hb dX0_addLetter_36 rfl (lv_at hl 3 rfl) ?_
    obtain ⟨hin, hf⟩ := gd_some hf
    obtain ⟨v_letterRows_37, hn37, hf⟩ := nm_some hf
    refine kiast C hP hD hS 1 rfl hin dX0_addLetter_37 (j := ((v_letters * (6 : Int32)) + (1 : Int32)).toNatClampNeg) rfl (g := v_letterRows_37) hn37 (w2 := (wX0_addLetter k h0 h1 z0 z1 z2 z3 v_letters v_letterRows_37)) rfl (fun H locs hP hD hS => ?_)
    refine lv_aload_n hx hb dX0_addLetter_38 rfl (lv_at hl 1 rfl) ?_
    refine kget C inX0 hP 0 rfl rfl 2 (by decide) mw_56 rfl dX0_addLetter_39 ?_
    refine lv_iload hx hb dX0_addLetter_42 (lv_at hl 0 rfl) ?_
    refine lv_iconst (v := (2 : Int32)) hx hb dX0_addLetter_44 (by decide) ?_
    refine lv_iadd hx hb dX0_addLetter_45 ?_
    refine lv_iload_n hx hb dX0_addLetter_46 rfl (lv_at hl 4 rfl) ?_
    obtain ⟨hin, hf⟩ := gd_some hf
    obtain ⟨v_letterRows_47, hn47, hf⟩ := nm_some hf
    refine kiast C hP hD hS 1 rfl hin dX0_addLetter_47 (j := ((v_letters * (6 : Int32)) + (2 : Int32)).toNatClampNeg) rfl (g := v_letterRows_47) hn47 (w2 := (wX0_addLetter k h0 h1 z0 z1 z2 z3 v_letters v_letterRows_47)) rfl (fun H locs hP hD hS => ?_)
    refine lv_aload_n hx hb dX0_addLetter_48 rfl (lv_at hl 1 rfl) ?_
    refine kget C inX0 hP 0 rfl rfl 2 (by decide) mw_56 rfl dX0_addLetter_49 ?_
    refine lv_iload hx hb dX0_addLetter_52 (lv_at hl 0 rfl) ?_
    refine lv_iconst (v := (3 : Int32)) hx hb dX0_addLetter_54 (by decide) ?_
    refine lv_iadd hx hb dX0_addLetter_55 ?_
    refine lv_iload hx hb dX0_addLetter_56 (lv_at hl 5 rfl) ?_
    obtain ⟨hin, hf⟩ := gd_some hf
    obtain ⟨v_letterRows_58, hn58, hf⟩ := nm_some hf
    refine kiast C hP hD hS 1 rfl hin dX0_addLetter_58 (j := ((v_letters * (6 : Int32)) + (3 : Int32)).toNatClampNeg) rfl (g := v_letterRows_58) hn58 (w2 := (wX0_addLetter k h0 h1 z0 z1 z2 z3 v_letters v_letterRows_58)) rfl (fun H locs hP hD hS => ?_)
    refine lv_aload_n hx hb dX0_addLetter_59 rfl (lv_at hl 1 rfl) ?_
    refine kget C inX0 hP 0 rfl rfl 2 (by decide) mw_56 rfl dX0_addLetter_60 ?_
    refine lv_iload hx hb dX0_addLetter_63 (lv_at hl 0 rfl) ?_
    refine lv_iconst (v := (4 : Int32)) hx hb dX0_addLetter_65 (by decide) ?_
    refine lv_iadd hx hb dX0_addLetter_66 ?_
    refine lv_iload hx hb dX0_addLetter_67 (lv_at hl 6 rfl) ?_
    obtain ⟨hin, hf⟩ := gd_some hf
    obtain ⟨v_letterRows_69, hn69, hf⟩ := nm_some hf
    refine kiast C hP hD hS 1 rfl hin dX0_addLetter_69 (j := ((v_letters * (6 : Int32)) + (4 : Int32)).toNatClampNeg) rfl (g := v_letterRows_69) hn69 (w2 := (wX0_addLetter k h0 h1 z0 z1 z2 z3 v_letters v_letterRows_69)) rfl (fun H locs hP hD hS => ?_)
    refine lv_aload_n hx hb dX0_addLetter_70 rfl (lv_at hl 1 rfl) ?_
    refine kget C inX0 hP 0 rfl rfl 2 (by decide) mw_56 rfl dX0_addLetter_71 ?_
    refine lv_iload hx hb dX0_addLetter_74 (lv_at hl 0 rfl) ?_
    refine lv_iconst (v := (5 : Int32)) hx hb dX0_addLetter_76 (by decide) ?_
    refine lv_iadd hx hb dX0_addLetter_77 ?_
    refine lv_iload hx hb dX0_addLetter_78 (lv_at hl 7 rfl) ?_
    obtain ⟨hin, hf⟩ := gd_some hf
    obtain ⟨v_letterRows_80, hn80, hf⟩ := nm_some hf
    refine kiast C hP hD hS 1 rfl hin dX0_addLetter_80 (j := ((v_letters * (6 : Int32)) + (5 : Int32)).toNatClampNeg) rfl (g := v_letterRows_80) hn80 (w2 := (wX0_addLetter k h0 h1 z0 z1 z2 z3 v_letters v_letterRows_80)) rfl (fun H locs hP hD hS => ?_)
    refine lv_aload_n hx hb dX0_addLetter_81 rfl (lv_at hl 1 rfl) ?_
    refine lv_dup hx hb dX0_addLetter_82 rfl ?_
    refine kget C inX0 hP 0 rfl rfl 5 (by decide) mw_67 rfl dX0_addLetter_83 ?_
    refine lv_iconst (v := (1 : Int32)) hx hb dX0_addLetter_86 (by decide) ?_
    refine lv_iadd hx hb dX0_addLetter_87 ?_
    refine kput C inX0 tyX0_ok nmX0 hP hD hS 0 rfl rfl 5 (by decide) mw_67 rfl rfl rfl (Nat.le_of_ble_eq_true rfl) dX0_addLetter_88 (w2 := (wX0_addLetter k h0 h1 z0 z1 z2 z3 (v_letters + (1 : Int32)) v_letterRows_80)) rfl (fun H locs hP hD hS => ?_)
    obtain rfl := Option.some.inj hf
    exact hret _ _ _ _ dX0_addLetter_91 hP hS
set_option maxHeartbeats 4000000 in
set_option maxRecDepth 100000 in
theorem wX0_namesOnlyItsNodes_2 {p : Program} {l : Launch} {e : Env} {s : State} {m : MethodId} {args : Array Value} {below : List Frame} {meth : Method} {c : Code} {A : Nat → Prop} {Q : State → Prop} {D : va_G} {k : Nat → ClassId} (C : Cx p s m args c cX0_namesOnlyItsNodes 2 RX0 A D k) (h0 h1 h2 : Nat) (z0 : Value) (v_nodes : Int32) (v_meetings : Int32) (v_letters : Int32) (v_meetingRows : Nat → Int32) (v_letterRows : Nat → Int32) : ∀ (f : Nat) (y1 : Int32) (u : (Int32) ⊕ (Unit)) (H : Heap) (locs : List Loc) (ls : Array Slot), fX0_namesOnlyItsNodes_2 v_nodes v_meetings v_meetingRows f y1 = some u → va_P D vwCl (wX0_namesOnlyItsNodes k h0 h1 h2 z0 v_nodes v_meetings v_letters v_meetingRows v_letterRows) H → va_D A (wX0_namesOnlyItsNodes k h0 h1 h2 z0 v_nodes v_meetings v_letters v_meetingRows v_letterRows) → va_S A s.heap H locs → lv_has ls 2 [(0, .ref h0), (1, .int y1)] → (∀ ex, u = .inr ex → ∀ (H : Heap) (locs : List Loc) (ls : Array Slot), va_P D vwCl (wX0_namesOnlyItsNodes k h0 h1 h2 z0 v_nodes v_meetings v_letters v_meetingRows v_letterRows) H → va_D A (wX0_namesOnlyItsNodes k h0 h1 h2 z0 v_nodes v_meetings v_letters v_meetingRows v_letterRows) → va_S A s.heap H locs → lv_has ls 2 [(0, .ref h0)] → W p l e ({ frames := 1, cells := 0, slots := 0, locals := 22 } : Room) s m args below meth c H locs 0 0 Q (F0 m 44 ls [])) → (∀ t, u = .inl t → ∀ (H : Heap) (locs : List Loc) (ls : Array Slot) (pc : Nat), decode cX0_namesOnlyItsNodes pc = .ok (.ireturn, 1) → t = 0 ∨ t = 1 → va_P D vwCl (wX0_namesOnlyItsNodes k h0 h1 h2 z0 v_nodes v_meetings v_letters v_meetingRows v_letterRows) H → va_S A s.heap H locs → W p l e ({ frames := 1, cells := 0, slots := 0, locals := 22 } : Room) s m args below meth c H locs 0 0 Q (F0 m pc ls [.int t])) → W p l e ({ frames := 1, cells := 0, slots := 0, locals := 22 } : Room) s m args below meth c H locs 0 0 Q (F0 m 2 ls []) := by
  obtain ⟨hx, hb, -⟩ := id C
  intro f
  induction f with
  | zero =>
    intro y1 u H locs ls hf hP hD hS hl hk hr
    cases hf
  | succ f ih =>
    intro y1 u H locs ls hf hP hD hS hl hk hr
    rw [fX0_namesOnlyItsNodes_2] at hf
    refine lv_iload_n hx hb dX0_namesOnlyItsNodes_2 rfl (lv_at hl 1 rfl) ?_
    refine lv_aload_n hx hb dX0_namesOnlyItsNodes_3 rfl (lv_at hl 0 rfl) ?_
    refine kget C inX0 hP 0 rfl rfl 4 (by decide) mw_63 rfl dX0_namesOnlyItsNodes_4 ?_
    refine lv_icmp_ge (tgt := 44) hx hb dX0_namesOnlyItsNodes_7 (by decide) (fun hc => ?_) (fun hc => ?_)
    · rw [if_pos hc] at hf
      obtain rfl := Option.some.inj hf
      exact hk _ rfl _ _ _ hP hD hS (lv_sub hl [0] rfl)
    · rw [if_neg hc] at hf
      refine lv_aload_n hx hb dX0_namesOnlyItsNodes_10 rfl (lv_at hl 0 rfl) ?_
      refine lv_iload_n hx hb dX0_namesOnlyItsNodes_11 rfl (lv_at hl 1 rfl) ?_
      refine lv_iconst (v := (1 : Int32)) hx hb dX0_namesOnlyItsNodes_12 (by decide) ?_
      obtain ⟨q13, hq13, hf⟩ := bd_some hf
      refine kcVi C (kX0_ofMeeting (l := l) (D := D) (k := k) h0 h1 z0 (.ref h2) (.int v_nodes) (.int v_meetings) (.int v_letters) v_meetingRows y1 (1 : Int32) q13 hq13) mt_X0_ofMeeting mw_380 ⟨rfl, rfl, Nat.le_of_ble_eq_true rfl, Nat.le_of_ble_eq_true rfl⟩ hP hD hS 0 rfl rfl rfl [0, 1] rfl rfl [some 0, some 1, none] rfl rfl (w2 := (wX0_namesOnlyItsNodes k h0 h1 h2 z0 v_nodes v_meetings v_letters v_meetingRows v_letterRows)) rfl rfl rfl hl.1 (rest := []) (Nat.le_of_ble_eq_true rfl) rfl dX0_namesOnlyItsNodes_13 ⟨Nat.zero_le _, Nat.zero_le _⟩ (fun H locs hP hD hS => ?_)
      refine lv_aload_n hx hb dX0_namesOnlyItsNodes_16 rfl (lv_at hl 0 rfl) ?_
      refine kget C inX0 hP 0 rfl rfl 3 (by decide) mw_58 rfl dX0_namesOnlyItsNodes_17 ?_
      refine lv_icmp_ge (tgt := 36) hx hb dX0_namesOnlyItsNodes_20 (by decide) (fun hc => ?_) (fun hc => ?_)
      · rw [if_pos hc] at hf
        refine lv_iconst (v := (0 : Int32)) hx hb dX0_namesOnlyItsNodes_36 (by decide) ?_
        obtain rfl := Option.some.inj hf
        exact hr _ rfl _ _ _ _ dX0_namesOnlyItsNodes_37 (by decide) hP hS
      · rw [if_neg hc] at hf
        refine lv_aload_n hx hb dX0_namesOnlyItsNodes_23 rfl (lv_at hl 0 rfl) ?_
        refine lv_iload_n hx hb dX0_namesOnlyItsNodes_24 rfl (lv_at hl 1 rfl) ?_
        refine lv_iconst (v := (2 : Int32)) hx hb dX0_namesOnlyItsNodes_25 (by decide) ?_
        obtain ⟨q26, hq26, hf⟩ := bd_some hf
        refine kcVi C (kX0_ofMeeting (l := l) (D := D) (k := k) h0 h1 z0 (.ref h2) (.int v_nodes) (.int v_meetings) (.int v_letters) v_meetingRows y1 (2 : Int32) q26 hq26) mt_X0_ofMeeting mw_380 ⟨rfl, rfl, Nat.le_of_ble_eq_true rfl, Nat.le_of_ble_eq_true rfl⟩ hP hD hS 0 rfl rfl rfl [0, 1] rfl rfl [some 0, some 1, none] rfl rfl (w2 := (wX0_namesOnlyItsNodes k h0 h1 h2 z0 v_nodes v_meetings v_letters v_meetingRows v_letterRows)) rfl rfl rfl hl.1 (rest := []) (Nat.le_of_ble_eq_true rfl) rfl dX0_namesOnlyItsNodes_26 ⟨Nat.zero_le _, Nat.zero_le _⟩ (fun H locs hP hD hS => ?_)
        refine lv_aload_n hx hb dX0_namesOnlyItsNodes_29 rfl (lv_at hl 0 rfl) ?_
        refine kget C inX0 hP 0 rfl rfl 3 (by decide) mw_58 rfl dX0_namesOnlyItsNodes_30 ?_
        refine lv_icmp_lt (tgt := 38) hx hb dX0_namesOnlyItsNodes_33 (by decide) (fun hc => ?_) (fun hc => ?_)
        · rw [if_pos hc] at hf
          refine lv_iinc (v := (y1 + (1 : Int32))) (lv' := [(1, .int (y1 + (1 : Int32))), (0, .ref h0)]) hx hb dX0_namesOnlyItsNodes_38 hl (k := 1) rfl rfl (by decide) rfl (fun ls hl => ?_)
          refine lv_goto (tgt := 2) hx hb dX0_namesOnlyItsNodes_41 (by decide) ?_
          exact ih (y1 + (1 : Int32)) _ _ _ _ hf hP hD hS (lv_sub hl [1, 0] rfl) hk hr
        · rw [if_neg hc] at hf
          refine lv_iconst (v := (0 : Int32)) hx hb dX0_namesOnlyItsNodes_36 (by decide) ?_
          obtain rfl := Option.some.inj hf
          exact hr _ rfl _ _ _ _ dX0_namesOnlyItsNodes_37 (by decide) hP hS
set_option maxHeartbeats 4000000 in
set_option maxRecDepth 100000 in
theorem wX0_namesOnlyItsNodes_46 {p : Program} {l : Launch} {e : Env} {s : State} {m : MethodId} {args : Array Value} {below : List Frame} {meth : Method} {c : Code} {A : Nat → Prop} {Q : State → Prop} {D : va_G} {k : Nat → ClassId} (C : Cx p s m args c cX0_namesOnlyItsNodes 2 RX0 A D k) (h0 h1 h2 : Nat) (z0 : Value) (v_nodes : Int32) (v_meetings : Int32) (v_letters : Int32) (v_meetingRows : Nat → Int32) (v_letterRows : Nat → Int32) : ∀ (f : Nat) (y1 : Int32) (u : (Int32) ⊕ (Unit)) (H : Heap) (locs : List Loc) (ls : Array Slot), fX0_namesOnlyItsNodes_46 v_nodes v_letters v_letterRows f y1 = some u → va_P D vwCl (wX0_namesOnlyItsNodes k h0 h1 h2 z0 v_nodes v_meetings v_letters v_meetingRows v_letterRows) H → va_D A (wX0_namesOnlyItsNodes k h0 h1 h2 z0 v_nodes v_meetings v_letters v_meetingRows v_letterRows) → va_S A s.heap H locs → lv_has ls 2 [(0, .ref h0), (1, .int y1)] → (∀ ex, u = .inr ex → ∀ (H : Heap) (locs : List Loc) (ls : Array Slot), va_P D vwCl (wX0_namesOnlyItsNodes k h0 h1 h2 z0 v_nodes v_meetings v_letters v_meetingRows v_letterRows) H → va_D A (wX0_namesOnlyItsNodes k h0 h1 h2 z0 v_nodes v_meetings v_letters v_meetingRows v_letterRows) → va_S A s.heap H locs → lv_has ls 2 [] → W p l e ({ frames := 1, cells := 0, slots := 0, locals := 22 } : Room) s m args below meth c H locs 0 0 Q (F0 m 88 ls [])) → (∀ t, u = .inl t → ∀ (H : Heap) (locs : List Loc) (ls : Array Slot) (pc : Nat), decode cX0_namesOnlyItsNodes pc = .ok (.ireturn, 1) → t = 0 ∨ t = 1 → va_P D vwCl (wX0_namesOnlyItsNodes k h0 h1 h2 z0 v_nodes v_meetings v_letters v_meetingRows v_letterRows) H → va_S A s.heap H locs → W p l e ({ frames := 1, cells := 0, slots := 0, locals := 22 } : Room) s m args below meth c H locs 0 0 Q (F0 m pc ls [.int t])) → W p l e ({ frames := 1, cells := 0, slots := 0, locals := 22 } : Room) s m args below meth c H locs 0 0 Q (F0 m 46 ls []) := by
  obtain ⟨hx, hb, -⟩ := id C
  intro f
  induction f with
  | zero =>
    intro y1 u H locs ls hf hP hD hS hl hk hr
    cases hf
  | succ f ih =>
    intro y1 u H locs ls hf hP hD hS hl hk hr
    rw [fX0_namesOnlyItsNodes_46] at hf
    refine lv_iload_n hx hb dX0_namesOnlyItsNodes_46 rfl (lv_at hl 1 rfl) ?_
    refine lv_aload_n hx hb dX0_namesOnlyItsNodes_47 rfl (lv_at hl 0 rfl) ?_
    refine kget C inX0 hP 0 rfl rfl 5 (by decide) mw_67 rfl dX0_namesOnlyItsNodes_48 ?_
    refine lv_icmp_ge (tgt := 88) hx hb dX0_namesOnlyItsNodes_51 (by decide) (fun hc => ?_) (fun hc => ?_)
    · rw [if_pos hc] at hf
      obtain rfl := Option.some.inj hf
      exact hk _ rfl _ _ _ hP hD hS (lv_sub hl [] rfl)
    · rw [if_neg hc] at hf
      refine lv_aload_n hx hb dX0_namesOnlyItsNodes_54 rfl (lv_at hl 0 rfl) ?_
      refine lv_iload_n hx hb dX0_namesOnlyItsNodes_55 rfl (lv_at hl 1 rfl) ?_
      refine lv_iconst (v := (1 : Int32)) hx hb dX0_namesOnlyItsNodes_56 (by decide) ?_
      obtain ⟨q57, hq57, hf⟩ := bd_some hf
      refine kcVi C (kX0_ofLetter (l := l) (D := D) (k := k) h0 h2 z0 (.ref h1) (.int v_nodes) (.int v_meetings) (.int v_letters) v_letterRows y1 (1 : Int32) q57 hq57) mt_X0_ofLetter mw_384 ⟨rfl, rfl, Nat.le_of_ble_eq_true rfl, Nat.le_of_ble_eq_true rfl⟩ hP hD hS 0 rfl rfl rfl [0, 2] rfl rfl [some 0, none, some 1] rfl rfl (w2 := (wX0_namesOnlyItsNodes k h0 h1 h2 z0 v_nodes v_meetings v_letters v_meetingRows v_letterRows)) rfl rfl rfl hl.1 (rest := []) (Nat.le_of_ble_eq_true rfl) rfl dX0_namesOnlyItsNodes_57 ⟨Nat.zero_le _, Nat.zero_le _⟩ (fun H locs hP hD hS => ?_)
      refine lv_aload_n hx hb dX0_namesOnlyItsNodes_60 rfl (lv_at hl 0 rfl) ?_
      refine kget C inX0 hP 0 rfl rfl 3 (by decide) mw_58 rfl dX0_namesOnlyItsNodes_61 ?_
      refine lv_icmp_ge (tgt := 80) hx hb dX0_namesOnlyItsNodes_64 (by decide) (fun hc => ?_) (fun hc => ?_)
      · rw [if_pos hc] at hf
        refine lv_iconst (v := (0 : Int32)) hx hb dX0_namesOnlyItsNodes_80 (by decide) ?_
        obtain rfl := Option.some.inj hf
        exact hr _ rfl _ _ _ _ dX0_namesOnlyItsNodes_81 (by decide) hP hS
      · rw [if_neg hc] at hf
        refine lv_aload_n hx hb dX0_namesOnlyItsNodes_67 rfl (lv_at hl 0 rfl) ?_
        refine lv_iload_n hx hb dX0_namesOnlyItsNodes_68 rfl (lv_at hl 1 rfl) ?_
        refine lv_iconst (v := (2 : Int32)) hx hb dX0_namesOnlyItsNodes_69 (by decide) ?_
        obtain ⟨q70, hq70, hf⟩ := bd_some hf
        refine kcVi C (kX0_ofLetter (l := l) (D := D) (k := k) h0 h2 z0 (.ref h1) (.int v_nodes) (.int v_meetings) (.int v_letters) v_letterRows y1 (2 : Int32) q70 hq70) mt_X0_ofLetter mw_384 ⟨rfl, rfl, Nat.le_of_ble_eq_true rfl, Nat.le_of_ble_eq_true rfl⟩ hP hD hS 0 rfl rfl rfl [0, 2] rfl rfl [some 0, none, some 1] rfl rfl (w2 := (wX0_namesOnlyItsNodes k h0 h1 h2 z0 v_nodes v_meetings v_letters v_meetingRows v_letterRows)) rfl rfl rfl hl.1 (rest := []) (Nat.le_of_ble_eq_true rfl) rfl dX0_namesOnlyItsNodes_70 ⟨Nat.zero_le _, Nat.zero_le _⟩ (fun H locs hP hD hS => ?_)
        refine lv_aload_n hx hb dX0_namesOnlyItsNodes_73 rfl (lv_at hl 0 rfl) ?_
        refine kget C inX0 hP 0 rfl rfl 3 (by decide) mw_58 rfl dX0_namesOnlyItsNodes_74 ?_
        refine lv_icmp_lt (tgt := 82) hx hb dX0_namesOnlyItsNodes_77 (by decide) (fun hc => ?_) (fun hc => ?_)
        · rw [if_pos hc] at hf
          refine lv_iinc (v := (y1 + (1 : Int32))) (lv' := [(1, .int (y1 + (1 : Int32))), (0, .ref h0)]) hx hb dX0_namesOnlyItsNodes_82 hl (k := 1) rfl rfl (by decide) rfl (fun ls hl => ?_)
          refine lv_goto (tgt := 46) hx hb dX0_namesOnlyItsNodes_85 (by decide) ?_
          exact ih (y1 + (1 : Int32)) _ _ _ _ hf hP hD hS (lv_sub hl [1, 0] rfl) hk hr
        · rw [if_neg hc] at hf
          refine lv_iconst (v := (0 : Int32)) hx hb dX0_namesOnlyItsNodes_80 (by decide) ?_
          obtain rfl := Option.some.inj hf
          exact hr _ rfl _ _ _ _ dX0_namesOnlyItsNodes_81 (by decide) hP hS
set_option maxHeartbeats 4000000 in
set_option maxRecDepth 100000 in
theorem kX0_namesOnlyItsNodes {l : Launch} {D : va_G} {k : Nat → ClassId} (h0 h1 h2 : Nat) (z0 : Value) (v_nodes : Int32) (v_meetings : Int32) (v_letters : Int32) (v_meetingRows : Nat → Int32) (v_letterRows : Nat → Int32) (q : Int32) (hf : fX0_namesOnlyItsNodes v_nodes v_meetings v_letters v_meetingRows v_letterRows = some q) : KMi l yX0_namesOnlyItsNodes cX0_namesOnlyItsNodes 2 (some .boolean) ({ frames := 1, cells := 0, slots := 0, locals := 22 } : Room) D k [.ref h0] (wX0_namesOnlyItsNodes k h0 h1 h2 z0 v_nodes v_meetings v_letters v_meetingRows v_letterRows) q (wX0_namesOnlyItsNodes k h0 h1 h2 z0 v_nodes v_meetings v_letters v_meetingRows v_letterRows) := by
  refine kent_z (by decide) (Nat.le_of_ble_eq_true rfl) ?_
  intro p e s m below meth c A Q ls C hP hD hS hl hret
  obtain ⟨hx, hb, -⟩ := id C
  have hl : lv_has ls 2 [(0, .ref h0)] := hl
  unfold fX0_namesOnlyItsNodes at hf
  generalize ([.ref h0] : List Value).toArray = args at *
  refine lv_iconst (v := (0 : Int32)) hx hb dX0_namesOnlyItsNodes_0 (by decide) ?_
  refine lv_istore_n (lv' := [(1, .int (0 : Int32)), (0, .ref h0)]) hx hb dX0_namesOnlyItsNodes_1 rfl hl (by decide) rfl (fun ls hl => ?_)
  obtain ⟨u2, hv, hf⟩ := lp_some hf
  refine wX0_namesOnlyItsNodes_2 C h0 h1 h2 z0 v_nodes v_meetings v_letters v_meetingRows v_letterRows FU (0 : Int32) u2 _ _ _ hv hP hD hS (lv_sub hl [1, 0] rfl) (fun ex2 ht H locs ls hP hD hS hl => ?_) (fun t ht H locs ls pc hdg h01 hP hS => ?_)
  · subst ht
    refine lv_iconst (v := (0 : Int32)) hx hb dX0_namesOnlyItsNodes_44 (by decide) ?_
    refine lv_istore_n (lv' := [(1, .int (0 : Int32)), (0, .ref h0)]) hx hb dX0_namesOnlyItsNodes_45 rfl hl (by decide) rfl (fun ls hl => ?_)
    obtain ⟨u46, hv, hf⟩ := lp_some hf
    refine wX0_namesOnlyItsNodes_46 C h0 h1 h2 z0 v_nodes v_meetings v_letters v_meetingRows v_letterRows FU (0 : Int32) u46 _ _ _ hv hP hD hS (lv_sub hl [1, 0] rfl) (fun ex46 ht H locs ls hP hD hS hl => ?_) (fun t ht H locs ls pc hdg h01 hP hS => ?_)
    · subst ht
      refine lv_iconst (v := (1 : Int32)) hx hb dX0_namesOnlyItsNodes_88 (by decide) ?_
      obtain rfl := Option.some.inj hf
      exact hret _ _ _ _ dX0_namesOnlyItsNodes_89 (by decide) hP hS
    · subst ht
      obtain rfl := Option.some.inj hf
      exact hret _ _ _ _ hdg h01 hP hS
  · subst ht
    obtain rfl := Option.some.inj hf
    exact hret _ _ _ _ hdg h01 hP hS
set_option maxHeartbeats 4000000 in
set_option maxRecDepth 100000 in
theorem kX0_isAt {l : Launch} {D : va_G} {k : Nat → ClassId} (h0 h1 : Nat) (z0 z1 z2 z3 z4 : Value) (v_meetingRows : Nat → Int32) (x1 : Int32) (x2 : Int32) (x3 : Int32) (q : Int32) (hf : fX0_isAt v_meetingRows x1 x2 x3 = some q) : KMi l yX0_isAt cX0_isAt 5 (some .boolean) ({ frames := 1, cells := 0, slots := 0, locals := 22 } : Room) D k [.ref h0, .int x1, .int x2, .int x3] (wX0_isAt k h0 h1 z0 z1 z2 z3 z4 v_meetingRows) q (wX0_isAt k h0 h1 z0 z1 z2 z3 z4 v_meetingRows) := by
  refine kent_z (by decide) (Nat.le_of_ble_eq_true rfl) ?_
  intro p e s m below meth c A Q ls C hP hD hS hl hret
  obtain ⟨hx, hb, -⟩ := id C
  have hl : lv_has ls 5 [(0, .ref h0), (1, .int x1), (2, .int x2), (3, .int x3)] := hl
  unfold fX0_isAt at hf
  generalize ([.ref h0, .int x1, .int x2, .int x3] : List Value).toArray = args at *
  refine lv_iload_n hx hb dX0_isAt_0 rfl (lv_at hl 2 rfl) ?_
  refine lv_aload_n hx hb dX0_isAt_1 rfl (lv_at hl 0 rfl) ?_
  refine lv_iload_n hx hb dX0_isAt_2 rfl (lv_at hl 1 rfl) ?_
  refine lv_iconst (v := (0 : Int32)) hx hb dX0_isAt_3 (by decide) ?_
  obtain ⟨q4, hq4, hf⟩ := bd_some hf
  refine kcVi C (kX0_ofMeeting (l := l) (D := D) (k := k) h0 h1 z0 z1 z2 z3 z4 v_meetingRows x1 (0 : Int32) q4 hq4) mt_X0_ofMeeting mw_380 ⟨rfl, rfl, Nat.le_of_ble_eq_true rfl, Nat.le_of_ble_eq_true rfl⟩ hP hD hS 0 rfl rfl rfl [0, 1] rfl rfl [some 0, some 1] rfl rfl (w2 := (wX0_isAt k h0 h1 z0 z1 z2 z3 z4 v_meetingRows)) rfl rfl rfl hl.1 (rest := [.int x2]) (Nat.le_of_ble_eq_true rfl) rfl dX0_isAt_4 ⟨Nat.zero_le _, Nat.zero_le _⟩ (fun H locs hP hD hS => ?_)
  refine lv_isub hx hb dX0_isAt_7 ?_
  refine lv_istore (lv' := [(4, .int (x2 - q4)), (0, .ref h0), (1, .int x1), (2, .int x2), (3, .int x3)]) hx hb dX0_isAt_8 hl (by decide) rfl (fun ls hl => ?_)
  refine lv_iload hx hb dX0_isAt_10 (lv_at hl 0 rfl) ?_
  refine lv_if_ne (tgt := 17) hx hb dX0_isAt_12 (by decide) (fun hc => ?_) (fun hc => ?_)
  · rw [if_neg hc] at hf
    refine lv_iload_n hx hb dX0_isAt_17 rfl (lv_at hl 4 rfl) ?_
    refine lv_if_le (tgt := 37) hx hb dX0_isAt_18 (by decide) (fun hc => ?_) (fun hc => ?_)
    · rw [if_pos hc] at hf
      refine lv_iconst (v := (0 : Int32)) hx hb dX0_isAt_37 (by decide) ?_
      obtain rfl := Option.some.inj hf
      exact hret _ _ _ _ dX0_isAt_38 (by decide) hP hS
    · rw [if_neg hc] at hf
      refine lv_iload hx hb dX0_isAt_21 (lv_at hl 0 rfl) ?_
      refine lv_if_le (tgt := 37) hx hb dX0_isAt_23 (by decide) (fun hc => ?_) (fun hc => ?_)
      · rw [if_pos hc] at hf
        refine lv_iconst (v := (0 : Int32)) hx hb dX0_isAt_37 (by decide) ?_
        obtain rfl := Option.some.inj hf
        exact hret _ _ _ _ dX0_isAt_38 (by decide) hP hS
      · rw [if_neg hc] at hf
        refine lv_iload hx hb dX0_isAt_26 (lv_at hl 0 rfl) ?_
        refine lv_iload_n hx hb dX0_isAt_28 rfl (lv_at hl 4 rfl) ?_
        obtain ⟨hne, hf⟩ := dv_some hf
        refine lv_irem hx hb dX0_isAt_29 hne ?_
        refine lv_if_ne (tgt := 37) hx hb dX0_isAt_30 (by decide) (fun hc => ?_) (fun hc => ?_)
        · rw [if_neg hc] at hf
          refine lv_iconst (v := (0 : Int32)) hx hb dX0_isAt_37 (by decide) ?_
          obtain rfl := Option.some.inj hf
          exact hret _ _ _ _ dX0_isAt_38 (by decide) hP hS
        · rw [if_pos hc] at hf
          refine lv_iconst (v := (1 : Int32)) hx hb dX0_isAt_33 (by decide) ?_
          refine lv_goto (tgt := 38) hx hb dX0_isAt_34 (by decide) ?_
          obtain rfl := Option.some.inj hf
          exact hret _ _ _ _ dX0_isAt_38 (by decide) hP hS
  · rw [if_pos hc] at hf
    refine lv_iconst (v := (1 : Int32)) hx hb dX0_isAt_15 (by decide) ?_
    obtain rfl := Option.some.inj hf
    exact hret _ _ _ _ dX0_isAt_16 (by decide) hP hS
set_option maxHeartbeats 4000000 in
set_option maxRecDepth 100000 in
theorem kX0_nextTime {l : Launch} {D : va_G} {k : Nat → ClassId} (h0 h1 : Nat) (z0 z1 z2 z3 z4 : Value) (v_meetingRows : Nat → Int32) (x1 : Int32) (x2 : Int32) (x3 : Int32) (q : Int32) (hf : fX0_nextTime v_meetingRows x1 x2 x3 = some q) : KMi l yX0_nextTime cX0_nextTime 5 (some .int) ({ frames := 1, cells := 0, slots := 0, locals := 22 } : Room) D k [.ref h0, .int x1, .int x2, .int x3] (wX0_nextTime k h0 h1 z0 z1 z2 z3 z4 v_meetingRows) q (wX0_nextTime k h0 h1 z0 z1 z2 z3 z4 v_meetingRows) := by
  refine kent_i (by decide) (Nat.le_of_ble_eq_true rfl) ?_
  intro p e s m below meth c A Q ls C hP hD hS hl hret
  obtain ⟨hx, hb, -⟩ := id C
  have hl : lv_has ls 5 [(0, .ref h0), (1, .int x1), (2, .int x2), (3, .int x3)] := hl
  unfold fX0_nextTime at hf
  generalize ([.ref h0, .int x1, .int x2, .int x3] : List Value).toArray = args at *
  refine lv_aload_n hx hb dX0_nextTime_0 rfl (lv_at hl 0 rfl) ?_
  refine lv_iload_n hx hb dX0_nextTime_1 rfl (lv_at hl 1 rfl) ?_
  refine lv_iconst (v := (0 : Int32)) hx hb dX0_nextTime_2 (by decide) ?_
  obtain ⟨q3, hq3, hf⟩ := bd_some hf
  refine kcVi C (kX0_ofMeeting (l := l) (D := D) (k := k) h0 h1 z0 z1 z2 z3 z4 v_meetingRows x1 (0 : Int32) q3 hq3) mt_X0_ofMeeting mw_380 ⟨rfl, rfl, Nat.le_of_ble_eq_true rfl, Nat.le_of_ble_eq_true rfl⟩ hP hD hS 0 rfl rfl rfl [0, 1] rfl rfl [some 0, some 1] rfl rfl (w2 := (wX0_nextTime k h0 h1 z0 z1 z2 z3 z4 v_meetingRows)) rfl rfl rfl hl.1 (rest := []) (Nat.le_of_ble_eq_true rfl) rfl dX0_nextTime_3 ⟨Nat.zero_le _, Nat.zero_le _⟩ (fun H locs hP hD hS => ?_)
  refine lv_istore (lv' := [(4, .int q3), (0, .ref h0), (1, .int x1), (2, .int x2), (3, .int x3)]) hx hb dX0_nextTime_6 hl (by decide) rfl (fun ls hl => ?_)
  refine lv_iload hx hb dX0_nextTime_8 (lv_at hl 0 rfl) ?_
  refine lv_iload_n hx hb dX0_nextTime_10 rfl (lv_at hl 3 rfl) ?_
  refine lv_icmp_le (tgt := 17) hx hb dX0_nextTime_11 (by decide) (fun hc => ?_) (fun hc => ?_)
  · rw [if_pos hc] at hf
    refine lv_iload_n hx hb dX0_nextTime_17 rfl (lv_at hl 4 rfl) ?_
    refine lv_if_gt (tgt := 24) hx hb dX0_nextTime_18 (by decide) (fun hc => ?_) (fun hc => ?_)
    · rw [if_pos hc] at hf
      refine lv_iload hx hb dX0_nextTime_24 (lv_at hl 0 rfl) ?_
      refine lv_iload_n hx hb dX0_nextTime_26 rfl (lv_at hl 3 rfl) ?_
      refine lv_iload hx hb dX0_nextTime_27 (lv_at hl 0 rfl) ?_
      refine lv_isub hx hb dX0_nextTime_29 ?_
      refine lv_iload_n hx hb dX0_nextTime_30 rfl (lv_at hl 4 rfl) ?_
      obtain ⟨hne, hf⟩ := dv_some hf
      refine lv_idiv hx hb dX0_nextTime_31 hne ?_
      refine lv_iconst (v := (1 : Int32)) hx hb dX0_nextTime_32 (by decide) ?_
      refine lv_iadd hx hb dX0_nextTime_33 ?_
      refine lv_iload_n hx hb dX0_nextTime_34 rfl (lv_at hl 4 rfl) ?_
      refine lv_imul hx hb dX0_nextTime_35 ?_
      refine lv_iadd hx hb dX0_nextTime_36 ?_
      obtain rfl := Option.some.inj hf
      exact hret _ _ _ _ dX0_nextTime_37 hP hS
    · rw [if_neg hc] at hf
      refine lv_bipush (v := (-4 : Int32)) hx hb dX0_nextTime_21 (by decide) ?_
      obtain rfl := Option.some.inj hf
      exact hret _ _ _ _ dX0_nextTime_23 hP hS
  · rw [if_neg hc] at hf
    refine lv_iload hx hb dX0_nextTime_14 (lv_at hl 0 rfl) ?_
    obtain rfl := Option.some.inj hf
    exact hret _ _ _ _ dX0_nextTime_16 hP hS
set_option maxHeartbeats 4000000 in
set_option maxRecDepth 100000 in
theorem kX4_hasCopy {l : Launch} {D : va_G} {k : Nat → ClassId} (h0 h1 : Nat) (z0 z1 z2 z3 z4 z5 z6 z7 z8 z9 z10 : Value) (v_tokens : Nat → Int32) (x1 : Int32) (x2 : Int32) (q : Int32) (hf : fX4_hasCopy v_tokens x1 x2 = some q) : KMi l yX4_hasCopy cX4_hasCopy 3 (some .boolean) ({ frames := 0, cells := 0, slots := 0, locals := 0 } : Room) D k [.ref h0, .int x1, .int x2] (wX4_hasCopy k h0 h1 z0 z1 z2 z3 z4 z5 z6 z7 z8 z9 z10 v_tokens) q (wX4_hasCopy k h0 h1 z0 z1 z2 z3 z4 z5 z6 z7 z8 z9 z10 v_tokens) := by
  refine kent_z (by decide) (Nat.le_of_ble_eq_true rfl) ?_
  intro p e s m below meth c A Q ls C hP hD hS hl hret
  obtain ⟨hx, hb, -⟩ := id C
  have hl : lv_has ls 3 [(0, .ref h0), (1, .int x1), (2, .int x2)] := hl
  unfold fX4_hasCopy at hf
  generalize ([.ref h0, .int x1, .int x2] : List Value).toArray = args at *
  refine lv_aload_n hx hb dX4_hasCopy_0 rfl (lv_at hl 0 rfl) ?_
  refine kget C inX4 hP 0 rfl rfl 4 (by decide) mw_141 rfl dX4_hasCopy_1 ?_
  refine lv_iload_n hx hb dX4_hasCopy_4 rfl (lv_at hl 1 rfl) ?_
  refine lv_bipush (v := (16 : Int32)) hx hb dX4_hasCopy_5 (by decide) ?_
  refine lv_imul hx hb dX4_hasCopy_7 ?_
  refine lv_iload_n hx hb dX4_hasCopy_8 rfl (lv_at hl 2 rfl) ?_
  refine lv_iadd hx hb dX4_hasCopy_9 ?_
  obtain ⟨hin, hf⟩ := gd_some hf
  refine kiald C hP 1 rfl hin dX4_hasCopy_10 (j := ((x1 * (16 : Int32)) + x2).toNatClampNeg) rfl ?_
  refine lv_if_le (tgt := 18) hx hb dX4_hasCopy_11 (by decide) (fun hc => ?_) (fun hc => ?_)
  · rw [if_pos hc] at hf
    refine lv_iconst (v := (0 : Int32)) hx hb dX4_hasCopy_18 (by decide) ?_
    obtain rfl := Option.some.inj hf
    exact hret _ _ _ _ dX4_hasCopy_19 (by decide) hP hS
  · rw [if_neg hc] at hf
    refine lv_iconst (v := (1 : Int32)) hx hb dX4_hasCopy_14 (by decide) ?_
    refine lv_goto (tgt := 19) hx hb dX4_hasCopy_15 (by decide) ?_
    obtain rfl := Option.some.inj hf
    exact hret _ _ _ _ dX4_hasCopy_19 (by decide) hP hS
set_option maxHeartbeats 4000000 in
set_option maxRecDepth 100000 in
theorem kX4_place {l : Launch} {D : va_G} {k : Nat → ClassId} (x0 : Int32) (x1 : Int32) (q : Int32) (hf : fX4_place x0 x1 = some q) : KMi l yX4_place cX4_place 2 (some .int) ({ frames := 0, cells := 0, slots := 0, locals := 0 } : Room) D k [.int x0, .int x1] (wX4_place k) q (wX4_place k) := by
  refine kent_i (by decide) (Nat.le_of_ble_eq_true rfl) ?_
  intro p e s m below meth c A Q ls C hP hD hS hl hret
  obtain ⟨hx, hb, -⟩ := id C
  have hl : lv_has ls 2 [(0, .int x0), (1, .int x1)] := hl
  unfold fX4_place at hf
  generalize ([.int x0, .int x1] : List Value).toArray = args at *
  refine lv_iload_n hx hb dX4_place_0 rfl (lv_at hl 0 rfl) ?_
  refine lv_bipush (v := (16 : Int32)) hx hb dX4_place_1 (by decide) ?_
  refine lv_imul hx hb dX4_place_3 ?_
  refine lv_iload_n hx hb dX4_place_4 rfl (lv_at hl 1 rfl) ?_
  refine lv_iadd hx hb dX4_place_5 ?_
  obtain rfl := Option.some.inj hf
  exact hret _ _ _ _ dX4_place_6 hP hS
set_option maxHeartbeats 4000000 in
set_option maxRecDepth 100000 in
theorem kX4_removeCopy {l : Launch} {D : va_G} {k : Nat → ClassId} (h0 h1 : Nat) (z0 z1 z2 z3 z4 z5 z6 z7 z8 z9 z10 : Value) (v_tokens : Nat → Int32) (x1 : Int32) (x2 : Int32) (q : (Nat → Int32)) (hf : fX4_removeCopy v_tokens x1 x2 = some q) : KMv l yX4_removeCopy cX4_removeCopy 3 ({ frames := 1, cells := 0, slots := 0, locals := 21 } : Room) D k [.ref h0, .int x1, .int x2] (wX4_removeCopy k h0 h1 z0 z1 z2 z3 z4 z5 z6 z7 z8 z9 z10 v_tokens) (wX4_removeCopy k h0 h1 z0 z1 z2 z3 z4 z5 z6 z7 z8 z9 z10 q) := by
  refine kent_v (by decide) (Nat.le_of_ble_eq_true rfl) ?_
  intro p e s m below meth c A Q ls C hP hD hS hl hret
  obtain ⟨hx, hb, -⟩ := id C
  have hl : lv_has ls 3 [(0, .ref h0), (1, .int x1), (2, .int x2)] := hl
  unfold fX4_removeCopy at hf
  generalize ([.ref h0, .int x1, .int x2] : List Value).toArray = args at *
  refine lv_aload_n hx hb dX4_removeCopy_0 rfl (lv_at hl 0 rfl) ?_
  refine kget C inX4 hP 0 rfl rfl 4 (by decide) mw_141 rfl dX4_removeCopy_1 ?_
  refine lv_iload_n hx hb dX4_removeCopy_4 rfl (lv_at hl 1 rfl) ?_
  refine lv_iload_n hx hb dX4_removeCopy_5 rfl (lv_at hl 2 rfl) ?_
  obtain ⟨q6, hq6, hf⟩ := bd_some hf
  refine kcSi C (kX4_place (l := l) (D := D) (k := k) x1 x2 q6 hq6) mt_X4_place mw_478 ⟨rfl, rfl, Nat.le_of_ble_eq_true rfl, Nat.le_of_ble_eq_true rfl⟩ hP hD hS [] rfl rfl [none, none] rfl rfl (w2 := (wX4_removeCopy k h0 h1 z0 z1 z2 z3 z4 z5 z6 z7 z8 z9 z10 v_tokens)) rfl rfl rfl hl.1 (rest := [.ref h1]) (Nat.le_of_ble_eq_true rfl) rfl dX4_removeCopy_6 ⟨Nat.zero_le _, Nat.zero_le _⟩ (fun H locs hP hD hS => ?_)
  refine lv_iconst (v := (0 : Int32)) hx hb dX4_removeCopy_9 (by decide) ?_
  obtain ⟨hin, hf⟩ := gd_some hf
  obtain ⟨v_tokens_10, hn10, hf⟩ := nm_some hf
  refine kiast C hP hD hS 1 rfl hin dX4_removeCopy_10 (j := q6.toNatClampNeg) rfl (g := v_tokens_10) hn10 (w2 := (wX4_removeCopy k h0 h1 z0 z1 z2 z3 z4 z5 z6 z7 z8 z9 z10 v_tokens_10)) rfl (fun H locs hP hD hS => ?_)
  obtain rfl := Option.some.inj hf
  exact hret _ _ _ _ dX4_removeCopy_11 hP hS
set_option maxHeartbeats 4000000 in
set_option maxRecDepth 100000 in
theorem wX4_loadOf_4 {p : Program} {l : Launch} {e : Env} {s : State} {m : MethodId} {args : Array Value} {below : List Frame} {meth : Method} {c : Code} {A : Nat → Prop} {Q : State → Prop} {D : va_G} {k : Nat → ClassId} (C : Cx p s m args c cX4_loadOf 4 RX4 A D k) (h0 h1 h2 h3 : Nat) (z0 z1 z2 z3 z4 z5 z6 z7 z8 z9 z10 z11 z12 z13 : Value) (v_letters : Int32) (v_letterRows : Nat → Int32) (v_tokens : Nat → Int32) (y1 : Int32) : ∀ (f : Nat) (y2 : Int32) (y3 : Int32) (ex : (Int32)) (H : Heap) (locs : List Loc) (ls : Array Slot), fX4_loadOf_4 v_letters v_letterRows v_tokens y1 f y2 y3 = some ex → va_P D vwCl (wX4_loadOf k h0 h1 h2 h3 z0 z1 z2 z3 z4 z5 z6 z7 z8 z9 z10 z11 z12 z13 v_letters v_letterRows v_tokens) H → va_D A (wX4_loadOf k h0 h1 h2 h3 z0 z1 z2 z3 z4 z5 z6 z7 z8 z9 z10 z11 z12 z13 v_letters v_letterRows v_tokens) → va_S A s.heap H locs → lv_has ls 4 [(0, .ref h0), (1, .int y1), (2, .int y2), (3, .int y3)] → (∀ (H : Heap) (locs : List Loc) (ls : Array Slot), va_P D vwCl (wX4_loadOf k h0 h1 h2 h3 z0 z1 z2 z3 z4 z5 z6 z7 z8 z9 z10 z11 z12 z13 v_letters v_letterRows v_tokens) H → va_D A (wX4_loadOf k h0 h1 h2 h3 z0 z1 z2 z3 z4 z5 z6 z7 z8 z9 z10 z11 z12 z13 v_letters v_letterRows v_tokens) → va_S A s.heap H locs → lv_has ls 4 [(2, .int ex)] → W p l e ({ frames := 1, cells := 0, slots := 0, locals := 22 } : Room) s m args below meth c H locs 0 0 Q (F0 m 42 ls [])) → W p l e ({ frames := 1, cells := 0, slots := 0, locals := 22 } : Room) s m args below meth c H locs 0 0 Q (F0 m 4 ls []) := by
  obtain ⟨hx, hb, -⟩ := id C
  intro f
  induction f with
  | zero =>
    intro y2 y3 ex H locs ls hf hP hD hS hl hk
    cases hf
  | succ f ih =>
    intro y2 y3 ex H locs ls hf hP hD hS hl hk
    rw [fX4_loadOf_4] at hf
    refine lv_iload_n hx hb dX4_loadOf_4 rfl (lv_at hl 3 rfl) ?_
    refine lv_aload_n hx hb dX4_loadOf_5 rfl (lv_at hl 0 rfl) ?_
    refine kget C inX4 hP 0 rfl rfl 0 (by decide) mw_129 rfl dX4_loadOf_6 ?_
    refine kget C inX0 hP 1 rfl rfl 5 (by decide) mw_71 rfl dX4_loadOf_9 ?_
    refine lv_icmp_ge (tgt := 42) hx hb dX4_loadOf_12 (by decide) (fun hc => ?_) (fun hc => ?_)
    · rw [if_pos hc] at hf
      obtain rfl := Option.some.inj hf
      exact hk _ _ _ hP hD hS (lv_sub hl [2] rfl)
    · rw [if_neg hc] at hf
      refine lv_aload_n hx hb dX4_loadOf_15 rfl (lv_at hl 0 rfl) ?_
      refine lv_iload_n hx hb dX4_loadOf_16 rfl (lv_at hl 1 rfl) ?_
      refine lv_iload_n hx hb dX4_loadOf_17 rfl (lv_at hl 3 rfl) ?_
      obtain ⟨q18, hq18, hf⟩ := bd_some hf
      refine kcVi C (kX4_hasCopy (l := l) (D := D) (k := k) h0 h3 (.ref h1) z0 z1 z2 z3 z4 z5 z6 z7 z8 z9 v_tokens y1 y3 q18 hq18) mt_X4_hasCopy mw_412 ⟨rfl, rfl, Nat.le_of_ble_eq_true rfl, Nat.le_of_ble_eq_true rfl⟩ hP hD hS 0 rfl rfl rfl [0, 3] rfl rfl [some 0, none, none, some 1] rfl rfl (w2 := (wX4_loadOf k h0 h1 h2 h3 z0 z1 z2 z3 z4 z5 z6 z7 z8 z9 z10 z11 z12 z13 v_letters v_letterRows v_tokens)) rfl rfl rfl hl.1 (rest := []) (Nat.le_of_ble_eq_true rfl) rfl dX4_loadOf_18 ⟨Nat.zero_le _, Nat.zero_le _⟩ (fun H locs hP hD hS => ?_)
      refine lv_if_eq (tgt := 36) hx hb dX4_loadOf_21 (by decide) (fun hc => ?_) (fun hc => ?_)
      · rw [if_pos hc] at hf
        refine lv_iinc (v := (y3 + (1 : Int32))) (lv' := [(3, .int (y3 + (1 : Int32))), (0, .ref h0), (1, .int y1), (2, .int y2)]) hx hb dX4_loadOf_36 hl (k := 3) rfl rfl (by decide) rfl (fun ls hl => ?_)
        refine lv_goto (tgt := 4) hx hb dX4_loadOf_39 (by decide) ?_
        exact ih y2 (y3 + (1 : Int32)) _ _ _ _ hf hP hD hS (lv_sub hl [1, 2, 3, 0] rfl) hk
      · rw [if_neg hc] at hf
        refine lv_iload_n hx hb dX4_loadOf_24 rfl (lv_at hl 2 rfl) ?_
        refine lv_aload_n hx hb dX4_loadOf_25 rfl (lv_at hl 0 rfl) ?_
        refine kget C inX4 hP 0 rfl rfl 0 (by decide) mw_129 rfl dX4_loadOf_26 ?_
        refine lv_iload_n hx hb dX4_loadOf_29 rfl (lv_at hl 3 rfl) ?_
        refine lv_iconst (v := (3 : Int32)) hx hb dX4_loadOf_30 (by decide) ?_
        obtain ⟨q31, hq31, hf⟩ := bd_some hf
        refine kcVi C (kX0_ofLetter (l := l) (D := D) (k := k) h1 h2 z10 z11 z12 z13 (.int v_letters) v_letterRows y3 (3 : Int32) q31 hq31) mt_X0_ofLetter mw_432 ⟨rfl, rfl, Nat.le_of_ble_eq_true rfl, Nat.le_of_ble_eq_true rfl⟩ hP hD hS 1 rfl rfl rfl [1, 2] rfl rfl [none, some 0, some 1, none] rfl rfl (w2 := (wX4_loadOf k h0 h1 h2 h3 z0 z1 z2 z3 z4 z5 z6 z7 z8 z9 z10 z11 z12 z13 v_letters v_letterRows v_tokens)) rfl rfl rfl hl.1 (rest := [.int y2]) (Nat.le_of_ble_eq_true rfl) rfl dX4_loadOf_31 ⟨Nat.zero_le _, Nat.zero_le _⟩ (fun H locs hP hD hS => ?_)
        refine lv_iadd hx hb dX4_loadOf_34 ?_
        refine lv_istore_n (lv' := [(2, .int (y2 + q31)), (0, .ref h0), (1, .int y1), (3, .int y3)]) hx hb dX4_loadOf_35 rfl hl (by decide) rfl (fun ls hl => ?_)
        refine lv_iinc (v := (y3 + (1 : Int32))) (lv' := [(3, .int (y3 + (1 : Int32))), (2, .int (y2 + q31)), (0, .ref h0), (1, .int y1)]) hx hb dX4_loadOf_36 hl (k := 3) rfl rfl (by decide) rfl (fun ls hl => ?_)
        refine lv_goto (tgt := 4) hx hb dX4_loadOf_39 (by decide) ?_
        exact ih (y2 + q31) (y3 + (1 : Int32)) _ _ _ _ hf hP hD hS (lv_sub hl [2, 3, 1, 0] rfl) hk
set_option maxHeartbeats 4000000 in
set_option maxRecDepth 100000 in
theorem kX4_loadOf {l : Launch} {D : va_G} {k : Nat → ClassId} (h0 h1 h2 h3 : Nat) (z0 z1 z2 z3 z4 z5 z6 z7 z8 z9 z10 z11 z12 z13 : Value) (v_letters : Int32) (v_letterRows : Nat → Int32) (v_tokens : Nat → Int32) (x1 : Int32) (q : Int32) (hf : fX4_loadOf v_letters v_letterRows v_tokens x1 = some q) : KMi l yX4_loadOf cX4_loadOf 4 (some .int) ({ frames := 1, cells := 0, slots := 0, locals := 22 } : Room) D k [.ref h0, .int x1] (wX4_loadOf k h0 h1 h2 h3 z0 z1 z2 z3 z4 z5 z6 z7 z8 z9 z10 z11 z12 z13 v_letters v_letterRows v_tokens) q (wX4_loadOf k h0 h1 h2 h3 z0 z1 z2 z3 z4 z5 z6 z7 z8 z9 z10 z11 z12 z13 v_letters v_letterRows v_tokens) := by
  refine kent_i (by decide) (Nat.le_of_ble_eq_true rfl) ?_
  intro p e s m below meth c A Q ls C hP hD hS hl hret
  obtain ⟨hx, hb, -⟩ := id C
  have hl : lv_has ls 4 [(0, .ref h0), (1, .int x1)] := hl
  unfold fX4_loadOf at hf
  generalize ([.ref h0, .int x1] : List Value).toArray = args at *
  refine lv_iconst (v := (0 : Int32)) hx hb dX4_loadOf_0 (by decide) ?_
  refine lv_istore_n (lv' := [(2, .int (0 : Int32)), (0, .ref h0), (1, .int x1)]) hx hb dX4_loadOf_1 rfl hl (by decide) rfl (fun ls hl => ?_)
  refine lv_iconst (v := (0 : Int32)) hx hb dX4_loadOf_2 (by decide) ?_
  refine lv_istore_n (lv' := [(3, .int (0 : Int32)), (2, .int (0 : Int32)), (0, .ref h0), (1, .int x1)]) hx hb dX4_loadOf_3 rfl hl (by decide) rfl (fun ls hl => ?_)
  obtain ⟨ex4, hv, hf⟩ := bd_some hf
  refine wX4_loadOf_4 C h0 h1 h2 h3 z0 z1 z2 z3 z4 z5 z6 z7 z8 z9 z10 z11 z12 z13 v_letters v_letterRows v_tokens x1 FU (0 : Int32) (0 : Int32) ex4 _ _ _ hv hP hD hS (lv_sub hl [2, 3, 1, 0] rfl) (fun H locs ls hP hD hS hl => ?_)
  refine lv_iload_n hx hb dX4_loadOf_42 rfl (lv_at hl 0 rfl) ?_
  obtain rfl := Option.some.inj hf
  exact hret _ _ _ _ dX4_loadOf_43 hP hS
set_option maxHeartbeats 4000000 in
set_option maxRecDepth 100000 in
theorem wX4_ownLoadOf_4 {p : Program} {l : Launch} {e : Env} {s : State} {m : MethodId} {args : Array Value} {below : List Frame} {meth : Method} {c : Code} {A : Nat → Prop} {Q : State → Prop} {D : va_G} {k : Nat → ClassId} (C : Cx p s m args c cX4_ownLoadOf 4 RX4 A D k) (h0 h1 h2 h3 : Nat) (z0 z1 z2 z3 z4 z5 z6 z7 z8 z9 z10 z11 z12 z13 : Value) (v_letters : Int32) (v_letterRows : Nat → Int32) (v_tokens : Nat → Int32) (y1 : Int32) : ∀ (f : Nat) (y2 : Int32) (y3 : Int32) (ex : (Int32)) (H : Heap) (locs : List Loc) (ls : Array Slot), fX4_ownLoadOf_4 v_letters v_letterRows v_tokens y1 f y2 y3 = some ex → va_P D vwCl (wX4_ownLoadOf k h0 h1 h2 h3 z0 z1 z2 z3 z4 z5 z6 z7 z8 z9 z10 z11 z12 z13 v_letters v_letterRows v_tokens) H → va_D A (wX4_ownLoadOf k h0 h1 h2 h3 z0 z1 z2 z3 z4 z5 z6 z7 z8 z9 z10 z11 z12 z13 v_letters v_letterRows v_tokens) → va_S A s.heap H locs → lv_has ls 4 [(0, .ref h0), (1, .int y1), (2, .int y2), (3, .int y3)] → (∀ (H : Heap) (locs : List Loc) (ls : Array Slot), va_P D vwCl (wX4_ownLoadOf k h0 h1 h2 h3 z0 z1 z2 z3 z4 z5 z6 z7 z8 z9 z10 z11 z12 z13 v_letters v_letterRows v_tokens) H → va_D A (wX4_ownLoadOf k h0 h1 h2 h3 z0 z1 z2 z3 z4 z5 z6 z7 z8 z9 z10 z11 z12 z13 v_letters v_letterRows v_tokens) → va_S A s.heap H locs → lv_has ls 4 [(2, .int ex)] → W p l e ({ frames := 1, cells := 0, slots := 0, locals := 22 } : Room) s m args below meth c H locs 0 0 Q (F0 m 55 ls [])) → W p l e ({ frames := 1, cells := 0, slots := 0, locals := 22 } : Room) s m args below meth c H locs 0 0 Q (F0 m 4 ls []) := by
  obtain ⟨hx, hb, -⟩ := id C
  intro f
  induction f with
  | zero =>
    intro y2 y3 ex H locs ls hf hP hD hS hl hk
    cases hf
  | succ f ih =>
    intro y2 y3 ex H locs ls hf hP hD hS hl hk
    rw [fX4_ownLoadOf_4] at hf
    refine lv_iload_n hx hb dX4_ownLoadOf_4 rfl (lv_at hl 3 rfl) ?_
    refine lv_aload_n hx hb dX4_ownLoadOf_5 rfl (lv_at hl 0 rfl) ?_
    refine kget C inX4 hP 0 rfl rfl 0 (by decide) mw_129 rfl dX4_ownLoadOf_6 ?_
    refine kget C inX0 hP 1 rfl rfl 5 (by decide) mw_71 rfl dX4_ownLoadOf_9 ?_
    refine lv_icmp_ge (tgt := 55) hx hb dX4_ownLoadOf_12 (by decide) (fun hc => ?_) (fun hc => ?_)
    · rw [if_pos hc] at hf
      obtain rfl := Option.some.inj hf
      exact hk _ _ _ hP hD hS (lv_sub hl [2] rfl)
    · rw [if_neg hc] at hf
      refine lv_aload_n hx hb dX4_ownLoadOf_15 rfl (lv_at hl 0 rfl) ?_
      refine lv_iload_n hx hb dX4_ownLoadOf_16 rfl (lv_at hl 1 rfl) ?_
      refine lv_iload_n hx hb dX4_ownLoadOf_17 rfl (lv_at hl 3 rfl) ?_
      obtain ⟨q18, hq18, hf⟩ := bd_some hf
      refine kcVi C (kX4_hasCopy (l := l) (D := D) (k := k) h0 h3 (.ref h1) z0 z1 z2 z3 z4 z5 z6 z7 z8 z9 v_tokens y1 y3 q18 hq18) mt_X4_hasCopy mw_412 ⟨rfl, rfl, Nat.le_of_ble_eq_true rfl, Nat.le_of_ble_eq_true rfl⟩ hP hD hS 0 rfl rfl rfl [0, 3] rfl rfl [some 0, none, none, some 1] rfl rfl (w2 := (wX4_ownLoadOf k h0 h1 h2 h3 z0 z1 z2 z3 z4 z5 z6 z7 z8 z9 z10 z11 z12 z13 v_letters v_letterRows v_tokens)) rfl rfl rfl hl.1 (rest := []) (Nat.le_of_ble_eq_true rfl) rfl dX4_ownLoadOf_18 ⟨Nat.zero_le _, Nat.zero_le _⟩ (fun H locs hP hD hS => ?_)
      refine lv_if_eq (tgt := 49) hx hb dX4_ownLoadOf_21 (by decide) (fun hc => ?_) (fun hc => ?_)
      · rw [if_pos hc] at hf
        refine lv_iinc (v := (y3 + (1 : Int32))) (lv' := [(3, .int (y3 + (1 : Int32))), (0, .ref h0), (1, .int y1), (2, .int y2)]) hx hb dX4_ownLoadOf_49 hl (k := 3) rfl rfl (by decide) rfl (fun ls hl => ?_)
        refine lv_goto (tgt := 4) hx hb dX4_ownLoadOf_52 (by decide) ?_
        exact ih y2 (y3 + (1 : Int32)) _ _ _ _ hf hP hD hS (lv_sub hl [1, 2, 3, 0] rfl) hk
      · rw [if_neg hc] at hf
        refine lv_aload_n hx hb dX4_ownLoadOf_24 rfl (lv_at hl 0 rfl) ?_
        refine kget C inX4 hP 0 rfl rfl 0 (by decide) mw_129 rfl dX4_ownLoadOf_25 ?_
        refine lv_iload_n hx hb dX4_ownLoadOf_28 rfl (lv_at hl 3 rfl) ?_
        refine lv_iconst (v := (1 : Int32)) hx hb dX4_ownLoadOf_29 (by decide) ?_
        obtain ⟨q30, hq30, hf⟩ := bd_some hf
        refine kcVi C (kX0_ofLetter (l := l) (D := D) (k := k) h1 h2 z10 z11 z12 z13 (.int v_letters) v_letterRows y3 (1 : Int32) q30 hq30) mt_X0_ofLetter mw_432 ⟨rfl, rfl, Nat.le_of_ble_eq_true rfl, Nat.le_of_ble_eq_true rfl⟩ hP hD hS 1 rfl rfl rfl [1, 2] rfl rfl [none, some 0, some 1, none] rfl rfl (w2 := (wX4_ownLoadOf k h0 h1 h2 h3 z0 z1 z2 z3 z4 z5 z6 z7 z8 z9 z10 z11 z12 z13 v_letters v_letterRows v_tokens)) rfl rfl rfl hl.1 (rest := []) (Nat.le_of_ble_eq_true rfl) rfl dX4_ownLoadOf_30 ⟨Nat.zero_le _, Nat.zero_le _⟩ (fun H locs hP hD hS => ?_)
        refine lv_iload_n hx hb dX4_ownLoadOf_33 rfl (lv_at hl 1 rfl) ?_
        refine lv_icmp_ne (tgt := 49) hx hb dX4_ownLoadOf_34 (by decide) (fun hc => ?_) (fun hc => ?_)
        · rw [if_neg hc] at hf
          refine lv_iinc (v := (y3 + (1 : Int32))) (lv' := [(3, .int (y3 + (1 : Int32))), (0, .ref h0), (1, .int y1), (2, .int y2)]) hx hb dX4_ownLoadOf_49 hl (k := 3) rfl rfl (by decide) rfl (fun ls hl => ?_)
          refine lv_goto (tgt := 4) hx hb dX4_ownLoadOf_52 (by decide) ?_
          exact ih y2 (y3 + (1 : Int32)) _ _ _ _ hf hP hD hS (lv_sub hl [1, 2, 3, 0] rfl) hk
        · rw [if_pos hc] at hf
          refine lv_iload_n hx hb dX4_ownLoadOf_37 rfl (lv_at hl 2 rfl) ?_
          refine lv_aload_n hx hb dX4_ownLoadOf_38 rfl (lv_at hl 0 rfl) ?_
          refine kget C inX4 hP 0 rfl rfl 0 (by decide) mw_129 rfl dX4_ownLoadOf_39 ?_
          refine lv_iload_n hx hb dX4_ownLoadOf_42 rfl (lv_at hl 3 rfl) ?_
          refine lv_iconst (v := (3 : Int32)) hx hb dX4_ownLoadOf_43 (by decide) ?_
          obtain ⟨q44, hq44, hf⟩ := bd_some hf
          refine kcVi C (kX0_ofLetter (l := l) (D := D) (k := k) h1 h2 z10 z11 z12 z13 (.int v_letters) v_letterRows y3 (3 : Int32) q44 hq44) mt_X0_ofLetter mw_432 ⟨rfl, rfl, Nat.le_of_ble_eq_true rfl, Nat.le_of_ble_eq_true rfl⟩ hP hD hS 1 rfl rfl rfl [1, 2] rfl rfl [none, some 0, some 1, none] rfl rfl (w2 := (wX4_ownLoadOf k h0 h1 h2 h3 z0 z1 z2 z3 z4 z5 z6 z7 z8 z9 z10 z11 z12 z13 v_letters v_letterRows v_tokens)) rfl rfl rfl hl.1 (rest := [.int y2]) (Nat.le_of_ble_eq_true rfl) rfl dX4_ownLoadOf_44 ⟨Nat.zero_le _, Nat.zero_le _⟩ (fun H locs hP hD hS => ?_)
          refine lv_iadd hx hb dX4_ownLoadOf_47 ?_
          refine lv_istore_n (lv' := [(2, .int (y2 + q44)), (0, .ref h0), (1, .int y1), (3, .int y3)]) hx hb dX4_ownLoadOf_48 rfl hl (by decide) rfl (fun ls hl => ?_)
          refine lv_iinc (v := (y3 + (1 : Int32))) (lv' := [(3, .int (y3 + (1 : Int32))), (2, .int (y2 + q44)), (0, .ref h0), (1, .int y1)]) hx hb dX4_ownLoadOf_49 hl (k := 3) rfl rfl (by decide) rfl (fun ls hl => ?_)
          refine lv_goto (tgt := 4) hx hb dX4_ownLoadOf_52 (by decide) ?_
          exact ih (y2 + q44) (y3 + (1 : Int32)) _ _ _ _ hf hP hD hS (lv_sub hl [2, 3, 1, 0] rfl) hk
set_option maxHeartbeats 4000000 in
set_option maxRecDepth 100000 in
theorem kX4_ownLoadOf {l : Launch} {D : va_G} {k : Nat → ClassId} (h0 h1 h2 h3 : Nat) (z0 z1 z2 z3 z4 z5 z6 z7 z8 z9 z10 z11 z12 z13 : Value) (v_letters : Int32) (v_letterRows : Nat → Int32) (v_tokens : Nat → Int32) (x1 : Int32) (q : Int32) (hf : fX4_ownLoadOf v_letters v_letterRows v_tokens x1 = some q) : KMi l yX4_ownLoadOf cX4_ownLoadOf 4 (some .int) ({ frames := 1, cells := 0, slots := 0, locals := 22 } : Room) D k [.ref h0, .int x1] (wX4_ownLoadOf k h0 h1 h2 h3 z0 z1 z2 z3 z4 z5 z6 z7 z8 z9 z10 z11 z12 z13 v_letters v_letterRows v_tokens) q (wX4_ownLoadOf k h0 h1 h2 h3 z0 z1 z2 z3 z4 z5 z6 z7 z8 z9 z10 z11 z12 z13 v_letters v_letterRows v_tokens) := by
  refine kent_i (by decide) (Nat.le_of_ble_eq_true rfl) ?_
  intro p e s m below meth c A Q ls C hP hD hS hl hret
  obtain ⟨hx, hb, -⟩ := id C
  have hl : lv_has ls 4 [(0, .ref h0), (1, .int x1)] := hl
  unfold fX4_ownLoadOf at hf
  generalize ([.ref h0, .int x1] : List Value).toArray = args at *
  refine lv_iconst (v := (0 : Int32)) hx hb dX4_ownLoadOf_0 (by decide) ?_
  refine lv_istore_n (lv' := [(2, .int (0 : Int32)), (0, .ref h0), (1, .int x1)]) hx hb dX4_ownLoadOf_1 rfl hl (by decide) rfl (fun ls hl => ?_)
  refine lv_iconst (v := (0 : Int32)) hx hb dX4_ownLoadOf_2 (by decide) ?_
  refine lv_istore_n (lv' := [(3, .int (0 : Int32)), (2, .int (0 : Int32)), (0, .ref h0), (1, .int x1)]) hx hb dX4_ownLoadOf_3 rfl hl (by decide) rfl (fun ls hl => ?_)
  obtain ⟨ex4, hv, hf⟩ := bd_some hf
  refine wX4_ownLoadOf_4 C h0 h1 h2 h3 z0 z1 z2 z3 z4 z5 z6 z7 z8 z9 z10 z11 z12 z13 v_letters v_letterRows v_tokens x1 FU (0 : Int32) (0 : Int32) ex4 _ _ _ hv hP hD hS (lv_sub hl [2, 3, 1, 0] rfl) (fun H locs ls hP hD hS hl => ?_)
  refine lv_iload_n hx hb dX4_ownLoadOf_55 rfl (lv_at hl 0 rfl) ?_
  obtain rfl := Option.some.inj hf
  exact hret _ _ _ _ dX4_ownLoadOf_56 hP hS
set_option maxHeartbeats 4000000 in
set_option maxRecDepth 100000 in
theorem kX4_putCopy {l : Launch} {D : va_G} {k : Nat → ClassId} (h0 h1 h2 h3 : Nat) (z0 z1 z2 z3 z4 z5 z6 z7 : Value) (v_clock : Int32) (v_tokens : Nat → Int32) (v_hops : Nat → Int32) (v_since : Nat → Int32) (x1 : Int32) (x2 : Int32) (x3 : Int32) (x4 : Int32) (q : (Nat → Int32) × (Nat → Int32) × (Nat → Int32)) (hf : fX4_putCopy v_clock v_tokens v_hops v_since x1 x2 x3 x4 = some q) : KMv l yX4_putCopy cX4_putCopy 6 ({ frames := 1, cells := 0, slots := 0, locals := 21 } : Room) D k [.ref h0, .int x1, .int x2, .int x3, .int x4] (wX4_putCopy k h0 h1 h2 h3 z0 z1 z2 z3 z4 z5 z6 z7 v_clock v_tokens v_hops v_since) (wX4_putCopy k h0 h1 h2 h3 z0 z1 z2 z3 z4 z5 z6 z7 v_clock q.1 q.2.1 q.2.2) := by
  refine kent_v (by decide) (Nat.le_of_ble_eq_true rfl) ?_
  intro p e s m below meth c A Q ls C hP hD hS hl hret
  obtain ⟨hx, hb, -⟩ := id C
  have hl : lv_has ls 6 [(0, .ref h0), (1, .int x1), (2, .int x2), (3, .int x3), (4, .int x4)] := hl
  unfold fX4_putCopy at hf
  generalize ([.ref h0, .int x1, .int x2, .int x3, .int x4] : List Value).toArray = args at *
  refine lv_iload_n hx hb dX4_putCopy_0 rfl (lv_at hl 1 rfl) ?_
  refine lv_iload_n hx hb dX4_putCopy_1 rfl (lv_at hl 2 rfl) ?_
  obtain ⟨q2, hq2, hf⟩ := bd_some hf
  refine kcSi C (kX4_place (l := l) (D := D) (k := k) x1 x2 q2 hq2) mt_X4_place mw_478 ⟨rfl, rfl, Nat.le_of_ble_eq_true rfl, Nat.le_of_ble_eq_true rfl⟩ hP hD hS [] rfl rfl [none, none, none, none] rfl rfl (w2 := (wX4_putCopy k h0 h1 h2 h3 z0 z1 z2 z3 z4 z5 z6 z7 v_clock v_tokens v_hops v_since)) rfl rfl rfl hl.1 (rest := []) (Nat.le_of_ble_eq_true rfl) rfl dX4_putCopy_2 ⟨Nat.zero_le _, Nat.zero_le _⟩ (fun H locs hP hD hS => ?_)
  refine lv_istore (lv' := [(5, .int q2), (0, .ref h0), (1, .int x1), (2, .int x2), (3, .int x3), (4, .int x4)]) hx hb dX4_putCopy_5 hl (by decide) rfl (fun ls hl => ?_)
  refine lv_aload_n hx hb dX4_putCopy_7 rfl (lv_at hl 1 rfl) ?_
  refine kget C inX4 hP 0 rfl rfl 4 (by decide) mw_141 rfl dX4_putCopy_8 ?_
  refine lv_iload hx hb dX4_putCopy_11 (lv_at hl 0 rfl) ?_
  refine lv_iload_n hx hb dX4_putCopy_13 rfl (lv_at hl 4 rfl) ?_
  obtain ⟨hin, hf⟩ := gd_some hf
  obtain ⟨v_tokens_14, hn14, hf⟩ := nm_some hf
  refine kiast C hP hD hS 1 rfl hin dX4_putCopy_14 (j := q2.toNatClampNeg) rfl (g := v_tokens_14) hn14 (w2 := (wX4_putCopy k h0 h1 h2 h3 z0 z1 z2 z3 z4 z5 z6 z7 v_clock v_tokens_14 v_hops v_since)) rfl (fun H locs hP hD hS => ?_)
  refine lv_aload_n hx hb dX4_putCopy_15 rfl (lv_at hl 1 rfl) ?_
  refine kget C inX4 hP 0 rfl rfl 5 (by decide) mw_144 rfl dX4_putCopy_16 ?_
  refine lv_iload hx hb dX4_putCopy_19 (lv_at hl 0 rfl) ?_
  refine lv_iload hx hb dX4_putCopy_21 (lv_at hl 5 rfl) ?_
  obtain ⟨hin, hf⟩ := gd_some hf
  obtain ⟨v_hops_23, hn23, hf⟩ := nm_some hf
  refine kiast C hP hD hS 2 rfl hin dX4_putCopy_23 (j := q2.toNatClampNeg) rfl (g := v_hops_23) hn23 (w2 := (wX4_putCopy k h0 h1 h2 h3 z0 z1 z2 z3 z4 z5 z6 z7 v_clock v_tokens_14 v_hops_23 v_since)) rfl (fun H locs hP hD hS => ?_)
  refine lv_aload_n hx hb dX4_putCopy_24 rfl (lv_at hl 1 rfl) ?_
  refine kget C inX4 hP 0 rfl rfl 6 (by decide) mw_147 rfl dX4_putCopy_25 ?_
  refine lv_iload hx hb dX4_putCopy_28 (lv_at hl 0 rfl) ?_
  refine lv_aload_n hx hb dX4_putCopy_30 rfl (lv_at hl 1 rfl) ?_
  refine kget C inX4 hP 0 rfl rfl 11 (by decide) mw_161 rfl dX4_putCopy_31 ?_
  obtain ⟨hin, hf⟩ := gd_some hf
  obtain ⟨v_since_34, hn34, hf⟩ := nm_some hf
  refine kiast C hP hD hS 3 rfl hin dX4_putCopy_34 (j := q2.toNatClampNeg) rfl (g := v_since_34) hn34 (w2 := (wX4_putCopy k h0 h1 h2 h3 z0 z1 z2 z3 z4 z5 z6 z7 v_clock v_tokens_14 v_hops_23 v_since_34)) rfl (fun H locs hP hD hS => ?_)
  obtain rfl := Option.some.inj hf
  exact hret _ _ _ _ dX4_putCopy_35 hP hS
set_option maxHeartbeats 4000000 in
set_option maxRecDepth 100000 in
theorem kX4_lastOf {l : Launch} {D : va_G} {k : Nat → ClassId} (h0 h1 : Nat) (z0 z1 z2 z3 z4 z5 z6 z7 z8 z9 z10 : Value) (v_lasts : Nat → Int32) (x1 : Int32) (x2 : Int32) (q : Int32) (hf : fX4_lastOf v_lasts x1 x2 = some q) : KMi l yX4_lastOf cX4_lastOf 3 (some .int) ({ frames := 0, cells := 0, slots := 0, locals := 0 } : Room) D k [.ref h0, .int x1, .int x2] (wX4_lastOf k h0 h1 z0 z1 z2 z3 z4 z5 z6 z7 z8 z9 z10 v_lasts) q (wX4_lastOf k h0 h1 z0 z1 z2 z3 z4 z5 z6 z7 z8 z9 z10 v_lasts) := by
  refine kent_i (by decide) (Nat.le_of_ble_eq_true rfl) ?_
  intro p e s m below meth c A Q ls C hP hD hS hl hret
  obtain ⟨hx, hb, -⟩ := id C
  have hl : lv_has ls 3 [(0, .ref h0), (1, .int x1), (2, .int x2)] := hl
  unfold fX4_lastOf at hf
  generalize ([.ref h0, .int x1, .int x2] : List Value).toArray = args at *
  refine lv_aload_n hx hb dX4_lastOf_0 rfl (lv_at hl 0 rfl) ?_
  refine kget C inX4 hP 0 rfl rfl 8 (by decide) mw_153 rfl dX4_lastOf_1 ?_
  refine lv_iload_n hx hb dX4_lastOf_4 rfl (lv_at hl 1 rfl) ?_
  refine lv_bipush (v := (8 : Int32)) hx hb dX4_lastOf_5 (by decide) ?_
  refine lv_imul hx hb dX4_lastOf_7 ?_
  refine lv_iload_n hx hb dX4_lastOf_8 rfl (lv_at hl 2 rfl) ?_
  refine lv_iadd hx hb dX4_lastOf_9 ?_
  obtain ⟨hin, hf⟩ := gd_some hf
  refine kiald C hP 1 rfl hin dX4_lastOf_10 (j := ((x1 * (8 : Int32)) + x2).toNatClampNeg) rfl ?_
  obtain rfl := Option.some.inj hf
  exact hret _ _ _ _ dX4_lastOf_11 hP hS
set_option maxHeartbeats 4000000 in
set_option maxRecDepth 100000 in
theorem kX4_noteMet {l : Launch} {D : va_G} {k : Nat → ClassId} (h0 h1 : Nat) (z0 z1 z2 z3 z4 z5 z6 z7 z8 z9 : Value) (v_clock : Int32) (v_lasts : Nat → Int32) (x1 : Int32) (x2 : Int32) (q : (Nat → Int32)) (hf : fX4_noteMet v_clock v_lasts x1 x2 = some q) : KMv l yX4_noteMet cX4_noteMet 3 ({ frames := 0, cells := 0, slots := 0, locals := 0 } : Room) D k [.ref h0, .int x1, .int x2] (wX4_noteMet k h0 h1 z0 z1 z2 z3 z4 z5 z6 z7 z8 z9 v_clock v_lasts) (wX4_noteMet k h0 h1 z0 z1 z2 z3 z4 z5 z6 z7 z8 z9 v_clock q) := by
  refine kent_v (by decide) (Nat.le_of_ble_eq_true rfl) ?_
  intro p e s m below meth c A Q ls C hP hD hS hl hret
  obtain ⟨hx, hb, -⟩ := id C
  have hl : lv_has ls 3 [(0, .ref h0), (1, .int x1), (2, .int x2)] := hl
  unfold fX4_noteMet at hf
  generalize ([.ref h0, .int x1, .int x2] : List Value).toArray = args at *
  refine lv_aload_n hx hb dX4_noteMet_0 rfl (lv_at hl 0 rfl) ?_
  refine kget C inX4 hP 0 rfl rfl 8 (by decide) mw_153 rfl dX4_noteMet_1 ?_
  refine lv_iload_n hx hb dX4_noteMet_4 rfl (lv_at hl 1 rfl) ?_
  refine lv_bipush (v := (8 : Int32)) hx hb dX4_noteMet_5 (by decide) ?_
  refine lv_imul hx hb dX4_noteMet_7 ?_
  refine lv_iload_n hx hb dX4_noteMet_8 rfl (lv_at hl 2 rfl) ?_
  refine lv_iadd hx hb dX4_noteMet_9 ?_
  refine lv_aload_n hx hb dX4_noteMet_10 rfl (lv_at hl 0 rfl) ?_
  refine kget C inX4 hP 0 rfl rfl 11 (by decide) mw_161 rfl dX4_noteMet_11 ?_
  obtain ⟨hin, hf⟩ := gd_some hf
  obtain ⟨v_lasts_14, hn14, hf⟩ := nm_some hf
  refine kiast C hP hD hS 1 rfl hin dX4_noteMet_14 (j := ((x1 * (8 : Int32)) + x2).toNatClampNeg) rfl (g := v_lasts_14) hn14 (w2 := (wX4_noteMet k h0 h1 z0 z1 z2 z3 z4 z5 z6 z7 z8 z9 v_clock v_lasts_14)) rfl (fun H locs hP hD hS => ?_)
  refine lv_aload_n hx hb dX4_noteMet_15 rfl (lv_at hl 0 rfl) ?_
  refine kget C inX4 hP 0 rfl rfl 8 (by decide) mw_153 rfl dX4_noteMet_16 ?_
  refine lv_iload_n hx hb dX4_noteMet_19 rfl (lv_at hl 2 rfl) ?_
  refine lv_bipush (v := (8 : Int32)) hx hb dX4_noteMet_20 (by decide) ?_
  refine lv_imul hx hb dX4_noteMet_22 ?_
  refine lv_iload_n hx hb dX4_noteMet_23 rfl (lv_at hl 1 rfl) ?_
  refine lv_iadd hx hb dX4_noteMet_24 ?_
  refine lv_aload_n hx hb dX4_noteMet_25 rfl (lv_at hl 0 rfl) ?_
  refine kget C inX4 hP 0 rfl rfl 11 (by decide) mw_161 rfl dX4_noteMet_26 ?_
  obtain ⟨hin, hf⟩ := gd_some hf
  obtain ⟨v_lasts_29, hn29, hf⟩ := nm_some hf
  refine kiast C hP hD hS 1 rfl hin dX4_noteMet_29 (j := ((x2 * (8 : Int32)) + x1).toNatClampNeg) rfl (g := v_lasts_29) hn29 (w2 := (wX4_noteMet k h0 h1 z0 z1 z2 z3 z4 z5 z6 z7 z8 z9 v_clock v_lasts_29)) rfl (fun H locs hP hD hS => ?_)
  obtain rfl := Option.some.inj hf
  exact hret _ _ _ _ dX4_noteMet_30 hP hS
set_option maxHeartbeats 4000000 in
set_option maxRecDepth 100000 in
theorem wX4_fill_2 {p : Program} {l : Launch} {e : Env} {s : State} {m : MethodId} {args : Array Value} {below : List Frame} {meth : Method} {c : Code} {A : Nat → Prop} {Q : State → Prop} {D : va_G} {k : Nat → ClassId} (C : Cx p s m args c cX4_fill 3 RX4 A D k) (h0 : Nat) (n_a0 : Nat) (y1 : Int32) : ∀ (f : Nat) (v_a0 : Nat → Int32) (y2 : Int32) (ex : ((Nat → Int32))) (H : Heap) (locs : List Loc) (ls : Array Slot), fX4_fill_2 n_a0 y1 f v_a0 y2 = some ex → va_P D vwCl (wX4_fill k h0 n_a0 v_a0) H → va_D A (wX4_fill k h0 n_a0 v_a0) → va_S A s.heap H locs → lv_has ls 3 [(0, .ref h0), (1, .int y1), (2, .int y2)] → (∀ (H : Heap) (locs : List Loc) (ls : Array Slot), va_P D vwCl (wX4_fill k h0 n_a0 ex) H → va_D A (wX4_fill k h0 n_a0 ex) → va_S A s.heap H locs → lv_has ls 3 [] → W p l e ({ frames := 0, cells := 0, slots := 0, locals := 0 } : Room) s m args below meth c H locs 0 0 Q (F0 m 18 ls [])) → W p l e ({ frames := 0, cells := 0, slots := 0, locals := 0 } : Room) s m args below meth c H locs 0 0 Q (F0 m 2 ls []) := by
  obtain ⟨hx, hb, -⟩ := id C
  intro f
  induction f with
  | zero =>
    intro v_a0 y2 ex H locs ls hf hP hD hS hl hk
    cases hf
  | succ f ih =>
    intro v_a0 y2 ex H locs ls hf hP hD hS hl hk
    rw [fX4_fill_2] at hf
    refine lv_iload_n hx hb dX4_fill_2 rfl (lv_at hl 2 rfl) ?_
    refine lv_aload_n hx hb dX4_fill_3 rfl (lv_at hl 0 rfl) ?_
    refine va_alen hx hb C.2.2.2.2.2.2 hP 0 0 rfl rfl (v := (Int32.ofNat n_a0)) rfl dX4_fill_4 ?_
    refine lv_icmp_ge (tgt := 18) hx hb dX4_fill_5 (by decide) (fun hc => ?_) (fun hc => ?_)
    · rw [if_pos hc] at hf
      obtain rfl := Option.some.inj hf
      exact hk _ _ _ hP hD hS (lv_sub hl [] rfl)
    · rw [if_neg hc] at hf
      refine lv_aload_n hx hb dX4_fill_8 rfl (lv_at hl 0 rfl) ?_
      refine lv_iload_n hx hb dX4_fill_9 rfl (lv_at hl 2 rfl) ?_
      refine lv_iload_n hx hb dX4_fill_10 rfl (lv_at hl 1 rfl) ?_
      obtain ⟨hin, hf⟩ := gd_some hf
      obtain ⟨v_a0_11, hn11, hf⟩ := nm_some hf
      refine kiast C hP hD hS 0 rfl hin dX4_fill_11 (j := y2.toNatClampNeg) rfl (g := v_a0_11) hn11 (w2 := (wX4_fill k h0 n_a0 v_a0_11)) rfl (fun H locs hP hD hS => ?_)
      refine lv_iinc (v := (y2 + (1 : Int32))) (lv' := [(2, .int (y2 + (1 : Int32))), (0, .ref h0), (1, .int y1)]) hx hb dX4_fill_12 hl (k := 2) rfl rfl (by decide) rfl (fun ls hl => ?_)
      refine lv_goto (tgt := 2) hx hb dX4_fill_15 (by decide) ?_
      exact ih v_a0_11 (y2 + (1 : Int32)) _ _ _ _ hf hP hD hS (lv_sub hl [1, 2, 0] rfl) hk
set_option maxHeartbeats 4000000 in
set_option maxRecDepth 100000 in
theorem kX4_fill {l : Launch} {D : va_G} {k : Nat → ClassId} (h0 : Nat) (n_a0 : Nat) (v_a0 : Nat → Int32) (x1 : Int32) (q : (Nat → Int32)) (hf : fX4_fill n_a0 v_a0 x1 = some q) : KMv l yX4_fill cX4_fill 3 ({ frames := 0, cells := 0, slots := 0, locals := 0 } : Room) D k [.ref h0, .int x1] (wX4_fill k h0 n_a0 v_a0) (wX4_fill k h0 n_a0 q) := by
  refine kent_v (by decide) (Nat.le_of_ble_eq_true rfl) ?_
  intro p e s m below meth c A Q ls C hP hD hS hl hret
  obtain ⟨hx, hb, -⟩ := id C
  have hl : lv_has ls 3 [(0, .ref h0), (1, .int x1)] := hl
  unfold fX4_fill at hf
  generalize ([.ref h0, .int x1] : List Value).toArray = args at *
  refine lv_iconst (v := (0 : Int32)) hx hb dX4_fill_0 (by decide) ?_
  refine lv_istore_n (lv' := [(2, .int (0 : Int32)), (0, .ref h0), (1, .int x1)]) hx hb dX4_fill_1 rfl hl (by decide) rfl (fun ls hl => ?_)
  obtain ⟨ex2, hv, hf⟩ := bd_some hf
  refine wX4_fill_2 C h0 n_a0 x1 FU v_a0 (0 : Int32) ex2 _ _ _ hv hP hD hS (lv_sub hl [1, 2, 0] rfl) (fun H locs ls hP hD hS hl => ?_)
  obtain rfl := Option.some.inj hf
  exact hret _ _ _ _ dX4_fill_18 hP hS
set_option maxHeartbeats 4000000 in
set_option maxRecDepth 100000 in
theorem kX4_beginAnew {l : Launch} {D : va_G} {k : Nat → ClassId} (h0 h1 h2 h3 h4 h5 h6 h7 : Nat) (z0 z1 z2 z3 : Value) (v_clock : Int32) (v_counts : Nat → Int32) (v_refused : Nat → Int32) (v_tokens : Nat → Int32) (v_notes : Nat → Int32) (v_lasts : Nat → Int32) (v_deliveredAt : Nat → Int32) (v_deliveredHops : Nat → Int32) (q : Int32 × (Nat → Int32) × (Nat → Int32) × (Nat → Int32) × (Nat → Int32) × (Nat → Int32) × (Nat → Int32) × (Nat → Int32)) (hf : fX4_beginAnew v_clock v_counts v_refused v_tokens v_notes v_lasts v_deliveredAt v_deliveredHops = some q) : KMv l yX4_beginAnew cX4_beginAnew 1 ({ frames := 1, cells := 0, slots := 0, locals := 22 } : Room) D k [.ref h0] (wX4_beginAnew k h0 h1 h2 h3 h4 h5 h6 h7 z0 z1 z2 z3 v_clock v_counts v_refused v_tokens v_notes v_lasts v_deliveredAt v_deliveredHops) (wX4_beginAnew k h0 h1 h2 h3 h4 h5 h6 h7 z0 z1 z2 z3 q.1 q.2.1 q.2.2.1 q.2.2.2.1 q.2.2.2.2.1 q.2.2.2.2.2.1 q.2.2.2.2.2.2.1 q.2.2.2.2.2.2.2) := by
  refine kent_v (by decide) (Nat.le_of_ble_eq_true rfl) ?_
  intro p e s m below meth c A Q ls C hP hD hS hl hret
  obtain ⟨hx, hb, -⟩ := id C
  have hl : lv_has ls 1 [(0, .ref h0)] := hl
  unfold fX4_beginAnew at hf
  generalize ([.ref h0] : List Value).toArray = args at *
  refine lv_aload_n hx hb dX4_beginAnew_0 rfl (lv_at hl 0 rfl) ?_
  refine lv_iconst (v := (0 : Int32)) hx hb dX4_beginAnew_1 (by decide) ?_
  refine kput C inX4 tyX4_ok nmX4 hP hD hS 0 rfl rfl 11 (by decide) mw_161 rfl rfl rfl (Nat.le_of_ble_eq_true rfl) dX4_beginAnew_2 (w2 := (wX4_beginAnew k h0 h1 h2 h3 h4 h5 h6 h7 z0 z1 z2 z3 (0 : Int32) v_counts v_refused v_tokens v_notes v_lasts v_deliveredAt v_deliveredHops)) rfl (fun H locs hP hD hS => ?_)
  refine lv_aload_n hx hb dX4_beginAnew_5 rfl (lv_at hl 0 rfl) ?_
  refine kget C inX4 hP 0 rfl rfl 2 (by decide) mw_135 rfl dX4_beginAnew_6 ?_
  refine lv_iconst (v := (0 : Int32)) hx hb dX4_beginAnew_9 (by decide) ?_
  obtain ⟨q10, hq10, hf⟩ := bd_some hf
  refine kcSv C (kX4_fill (l := l) (D := D) (k := k) h1 8 v_counts (0 : Int32) q10 hq10) mt_X4_fill mw_126 ⟨rfl, rfl, Nat.le_of_ble_eq_true rfl, Nat.le_of_ble_eq_true rfl⟩ hP hD hS [1] rfl rfl [none, some 0, none, none, none, none, none, none] rfl rfl (w2 := (wX4_beginAnew k h0 h1 h2 h3 h4 h5 h6 h7 z0 z1 z2 z3 (0 : Int32) q10 v_refused v_tokens v_notes v_lasts v_deliveredAt v_deliveredHops)) rfl rfl rfl hl.1 (rest := []) (Nat.le_of_ble_eq_true rfl) rfl dX4_beginAnew_10 ⟨Nat.zero_le _, Nat.zero_le _⟩ (fun H locs hP hD hS => ?_)
  refine lv_aload_n hx hb dX4_beginAnew_13 rfl (lv_at hl 0 rfl) ?_
  refine kget C inX4 hP 0 rfl rfl 3 (by decide) mw_138 rfl dX4_beginAnew_14 ?_
  refine lv_iconst (v := (0 : Int32)) hx hb dX4_beginAnew_17 (by decide) ?_
  obtain ⟨q18, hq18, hf⟩ := bd_some hf
  refine kcSv C (kX4_fill (l := l) (D := D) (k := k) h2 6 v_refused (0 : Int32) q18 hq18) mt_X4_fill mw_126 ⟨rfl, rfl, Nat.le_of_ble_eq_true rfl, Nat.le_of_ble_eq_true rfl⟩ hP hD hS [2] rfl rfl [none, none, some 0, none, none, none, none, none] rfl rfl (w2 := (wX4_beginAnew k h0 h1 h2 h3 h4 h5 h6 h7 z0 z1 z2 z3 (0 : Int32) q10 q18 v_tokens v_notes v_lasts v_deliveredAt v_deliveredHops)) rfl rfl rfl hl.1 (rest := []) (Nat.le_of_ble_eq_true rfl) rfl dX4_beginAnew_18 ⟨Nat.zero_le _, Nat.zero_le _⟩ (fun H locs hP hD hS => ?_)
  refine lv_aload_n hx hb dX4_beginAnew_21 rfl (lv_at hl 0 rfl) ?_
  refine kget C inX4 hP 0 rfl rfl 4 (by decide) mw_141 rfl dX4_beginAnew_22 ?_
  refine lv_iconst (v := (0 : Int32)) hx hb dX4_beginAnew_25 (by decide) ?_
  obtain ⟨q26, hq26, hf⟩ := bd_some hf
  refine kcSv C (kX4_fill (l := l) (D := D) (k := k) h3 128 v_tokens (0 : Int32) q26 hq26) mt_X4_fill mw_126 ⟨rfl, rfl, Nat.le_of_ble_eq_true rfl, Nat.le_of_ble_eq_true rfl⟩ hP hD hS [3] rfl rfl [none, none, none, some 0, none, none, none, none] rfl rfl (w2 := (wX4_beginAnew k h0 h1 h2 h3 h4 h5 h6 h7 z0 z1 z2 z3 (0 : Int32) q10 q18 q26 v_notes v_lasts v_deliveredAt v_deliveredHops)) rfl rfl rfl hl.1 (rest := []) (Nat.le_of_ble_eq_true rfl) rfl dX4_beginAnew_26 ⟨Nat.zero_le _, Nat.zero_le _⟩ (fun H locs hP hD hS => ?_)
  refine lv_aload_n hx hb dX4_beginAnew_29 rfl (lv_at hl 0 rfl) ?_
  refine kget C inX4 hP 0 rfl rfl 7 (by decide) mw_150 rfl dX4_beginAnew_30 ?_
  refine lv_iconst (v := (0 : Int32)) hx hb dX4_beginAnew_33 (by decide) ?_
  obtain ⟨q34, hq34, hf⟩ := bd_some hf
  refine kcSv C (kX4_fill (l := l) (D := D) (k := k) h4 8 v_notes (0 : Int32) q34 hq34) mt_X4_fill mw_126 ⟨rfl, rfl, Nat.le_of_ble_eq_true rfl, Nat.le_of_ble_eq_true rfl⟩ hP hD hS [4] rfl rfl [none, none, none, none, some 0, none, none, none] rfl rfl (w2 := (wX4_beginAnew k h0 h1 h2 h3 h4 h5 h6 h7 z0 z1 z2 z3 (0 : Int32) q10 q18 q26 q34 v_lasts v_deliveredAt v_deliveredHops)) rfl rfl rfl hl.1 (rest := []) (Nat.le_of_ble_eq_true rfl) rfl dX4_beginAnew_34 ⟨Nat.zero_le _, Nat.zero_le _⟩ (fun H locs hP hD hS => ?_)
  refine lv_aload_n hx hb dX4_beginAnew_37 rfl (lv_at hl 0 rfl) ?_
  refine kget C inX4 hP 0 rfl rfl 8 (by decide) mw_153 rfl dX4_beginAnew_38 ?_
  refine lv_iconst (v := (-1 : Int32)) hx hb dX4_beginAnew_41 (by decide) ?_
  obtain ⟨q42, hq42, hf⟩ := bd_some hf
  refine kcSv C (kX4_fill (l := l) (D := D) (k := k) h5 64 v_lasts (-1 : Int32) q42 hq42) mt_X4_fill mw_126 ⟨rfl, rfl, Nat.le_of_ble_eq_true rfl, Nat.le_of_ble_eq_true rfl⟩ hP hD hS [5] rfl rfl [none, none, none, none, none, some 0, none, none] rfl rfl (w2 := (wX4_beginAnew k h0 h1 h2 h3 h4 h5 h6 h7 z0 z1 z2 z3 (0 : Int32) q10 q18 q26 q34 q42 v_deliveredAt v_deliveredHops)) rfl rfl rfl hl.1 (rest := []) (Nat.le_of_ble_eq_true rfl) rfl dX4_beginAnew_42 ⟨Nat.zero_le _, Nat.zero_le _⟩ (fun H locs hP hD hS => ?_)
  refine lv_aload_n hx hb dX4_beginAnew_45 rfl (lv_at hl 0 rfl) ?_
  refine kget C inX4 hP 0 rfl rfl 9 (by decide) mw_154 rfl dX4_beginAnew_46 ?_
  refine lv_bipush (v := (-4 : Int32)) hx hb dX4_beginAnew_49 (by decide) ?_
  obtain ⟨q51, hq51, hf⟩ := bd_some hf
  refine kcSv C (kX4_fill (l := l) (D := D) (k := k) h6 16 v_deliveredAt (-4 : Int32) q51 hq51) mt_X4_fill mw_126 ⟨rfl, rfl, Nat.le_of_ble_eq_true rfl, Nat.le_of_ble_eq_true rfl⟩ hP hD hS [6] rfl rfl [none, none, none, none, none, none, some 0, none] rfl rfl (w2 := (wX4_beginAnew k h0 h1 h2 h3 h4 h5 h6 h7 z0 z1 z2 z3 (0 : Int32) q10 q18 q26 q34 q42 q51 v_deliveredHops)) rfl rfl rfl hl.1 (rest := []) (Nat.le_of_ble_eq_true rfl) rfl dX4_beginAnew_51 ⟨Nat.zero_le _, Nat.zero_le _⟩ (fun H locs hP hD hS => ?_)
  refine lv_aload_n hx hb dX4_beginAnew_54 rfl (lv_at hl 0 rfl) ?_
  refine kget C inX4 hP 0 rfl rfl 10 (by decide) mw_157 rfl dX4_beginAnew_55 ?_
  refine lv_bipush (v := (-4 : Int32)) hx hb dX4_beginAnew_58 (by decide) ?_
  obtain ⟨q60, hq60, hf⟩ := bd_some hf
  refine kcSv C (kX4_fill (l := l) (D := D) (k := k) h7 16 v_deliveredHops (-4 : Int32) q60 hq60) mt_X4_fill mw_126 ⟨rfl, rfl, Nat.le_of_ble_eq_true rfl, Nat.le_of_ble_eq_true rfl⟩ hP hD hS [7] rfl rfl [none, none, none, none, none, none, none, some 0] rfl rfl (w2 := (wX4_beginAnew k h0 h1 h2 h3 h4 h5 h6 h7 z0 z1 z2 z3 (0 : Int32) q10 q18 q26 q34 q42 q51 q60)) rfl rfl rfl hl.1 (rest := []) (Nat.le_of_ble_eq_true rfl) rfl dX4_beginAnew_60 ⟨Nat.zero_le _, Nat.zero_le _⟩ (fun H locs hP hD hS => ?_)
  obtain rfl := Option.some.inj hf
  exact hret _ _ _ _ dX4_beginAnew_63 hP hS
set_option maxHeartbeats 4000000 in
set_option maxRecDepth 100000 in
theorem kX4_take {l : Launch} {D : va_G} {k : Nat → ClassId} (h0 h1 : Nat) (n_a0 n_a1 : Nat) (v_a0 : Nat → Int32) (v_a1 : Nat → Int32) (q : (Nat → Int32)) (hf : fX4_take n_a0 n_a1 v_a0 v_a1 = some q) : KMv l yX4_take cX4_take 2 ({ frames := 1, cells := 0, slots := 0, locals := 48 } : Room) D k [.ref h0, .ref h1] (wX4_take k h0 h1 n_a0 n_a1 v_a0 v_a1) (wX4_take k h0 h1 n_a0 n_a1 v_a0 q) := by
  refine kent_v (by decide) (Nat.le_of_ble_eq_true rfl) ?_
  intro p e s m below meth c A Q ls C hP hD hS hl hret
  obtain ⟨hx, hb, -⟩ := id C
  have hl : lv_has ls 2 [(0, .ref h0), (1, .ref h1)] := hl
  unfold fX4_take at hf
  generalize ([.ref h0, .ref h1] : List Value).toArray = args at *
  refine lv_aload_n hx hb dX4_take_0 rfl (lv_at hl 0 rfl) ?_
  refine lv_iconst (v := (0 : Int32)) hx hb dX4_take_1 (by decide) ?_
  refine lv_aload_n hx hb dX4_take_2 rfl (lv_at hl 1 rfl) ?_
  refine lv_iconst (v := (0 : Int32)) hx hb dX4_take_3 (by decide) ?_
  refine lv_aload_n hx hb dX4_take_4 rfl (lv_at hl 0 rfl) ?_
  refine va_alen hx hb C.2.2.2.2.2.2 hP 0 0 rfl rfl (v := (Int32.ofNat n_a0)) rfl dX4_take_5 ?_
  refine lv_aload_n hx hb dX4_take_6 rfl (lv_at hl 1 rfl) ?_
  refine va_alen hx hb C.2.2.2.2.2.2 hP 1 0 rfl rfl (v := (Int32.ofNat n_a1)) rfl dX4_take_7 ?_
  refine va_mmin hx hb (C.2.2.1.trans hl.1.symm) C.2.2.2.1 (C.2.2.2.2.1 _ mw_673) (C.2.2.2.2.1 _ mw_674) (C.2.2.2.2.1 _ mw_14) (C.2.2.2.2.1 _ mw_675) (Nat.le_of_ble_eq_true rfl) (Nat.le_of_ble_eq_true rfl) (Nat.zero_le _) (Nat.zero_le _) dX4_take_8 ?_
  obtain ⟨h3, h4, h5, hf⟩ := cpg_some hf
  obtain ⟨v_a1_11, hn11, hf⟩ := nm_some hf
  refine va_copyi hx hb (C.2.2.1.trans hl.1.symm) C.2.2.2.1 (C.2.2.2.2.1 _ mw_676) (C.2.2.2.2.1 _ mw_394) (C.2.2.2.2.1 _ mw_393) (C.2.2.2.2.1 _ mw_12) C.2.2.2.2.2.2 hP hD hS 0 1 0 0 rfl rfl rfl rfl rfl (by decide) (by decide) h3 h4 h5 (fun _ _ => rfl) (Nat.le_of_ble_eq_true rfl) (by decide) dX4_take_11 (fun H locs hP hD hS => ?_)
  have hP : va_P D vwCl (wX4_take k h0 h1 n_a0 n_a1 v_a0 v_a1_11) H := by rw [hn11]; exact hP
  have hD : va_D A (wX4_take k h0 h1 n_a0 n_a1 v_a0 v_a1_11) := by rw [hn11]; exact hD
  obtain rfl := Option.some.inj hf
  exact hret _ _ _ _ dX4_take_14 hP hS
set_option maxHeartbeats 4000000 in
set_option maxRecDepth 100000 in
theorem kX4_copyFrom {l : Launch} {D : va_G} {k : Nat → ClassId} (h0 h1 h2 h3 h4 h5 h6 h7 h8 h9 h10 h11 h12 h13 h14 h15 h16 h17 h18 h19 h20 h21 h22 h23 h24 h25 h26 h27 h28 h29 : Nat) (v_clock : Int32) (v_nodes : Int32) (v_meetings : Int32) (v_letters : Int32) (v_rooms : Nat → Int32) (v_meetingRows : Nat → Int32) (v_letterRows : Nat → Int32) (v_rules : Nat → Int32) (v_counts : Nat → Int32) (v_refused : Nat → Int32) (v_tokens : Nat → Int32) (v_hops : Nat → Int32) (v_since : Nat → Int32) (v_notes : Nat → Int32) (v_lasts : Nat → Int32) (v_deliveredAt : Nat → Int32) (v_deliveredHops : Nat → Int32) (v_a1_clock : Int32) (v_a1_nodes : Int32) (v_a1_meetings : Int32) (v_a1_letters : Int32) (v_a1_rooms : Nat → Int32) (v_a1_meetingRows : Nat → Int32) (v_a1_letterRows : Nat → Int32) (v_a1_rules : Nat → Int32) (v_a1_counts : Nat → Int32) (v_a1_refused : Nat → Int32) (v_a1_tokens : Nat → Int32) (v_a1_hops : Nat → Int32) (v_a1_since : Nat → Int32) (v_a1_notes : Nat → Int32) (v_a1_lasts : Nat → Int32) (v_a1_deliveredAt : Nat → Int32) (v_a1_deliveredHops : Nat → Int32) (q : Int32 × Int32 × Int32 × Int32 × (Nat → Int32) × (Nat → Int32) × (Nat → Int32) × (Nat → Int32) × (Nat → Int32) × (Nat → Int32) × (Nat → Int32) × (Nat → Int32) × (Nat → Int32) × (Nat → Int32) × (Nat → Int32) × (Nat → Int32) × (Nat → Int32)) (hf : fX4_copyFrom v_clock v_nodes v_meetings v_letters v_rooms v_meetingRows v_letterRows v_rules v_counts v_refused v_tokens v_hops v_since v_notes v_lasts v_deliveredAt v_deliveredHops v_a1_clock v_a1_nodes v_a1_meetings v_a1_letters v_a1_rooms v_a1_meetingRows v_a1_letterRows v_a1_rules v_a1_counts v_a1_refused v_a1_tokens v_a1_hops v_a1_since v_a1_notes v_a1_lasts v_a1_deliveredAt v_a1_deliveredHops = some q) : KMv l yX4_copyFrom cX4_copyFrom 2 ({ frames := 2, cells := 0, slots := 0, locals := 69 } : Room) D k [.ref h0, .ref h15] (wX4_copyFrom k h0 h1 h2 h3 h4 h5 h6 h7 h8 h9 h10 h11 h12 h13 h14 h15 h16 h17 h18 h19 h20 h21 h22 h23 h24 h25 h26 h27 h28 h29 v_clock v_nodes v_meetings v_letters v_rooms v_meetingRows v_letterRows v_rules v_counts v_refused v_tokens v_hops v_since v_notes v_lasts v_deliveredAt v_deliveredHops v_a1_clock v_a1_nodes v_a1_meetings v_a1_letters v_a1_rooms v_a1_meetingRows v_a1_letterRows v_a1_rules v_a1_counts v_a1_refused v_a1_tokens v_a1_hops v_a1_since v_a1_notes v_a1_lasts v_a1_deliveredAt v_a1_deliveredHops) (wX4_copyFrom k h0 h1 h2 h3 h4 h5 h6 h7 h8 h9 h10 h11 h12 h13 h14 h15 h16 h17 h18 h19 h20 h21 h22 h23 h24 h25 h26 h27 h28 h29 q.1 q.2.1 q.2.2.1 q.2.2.2.1 q.2.2.2.2.1 q.2.2.2.2.2.1 q.2.2.2.2.2.2.1 q.2.2.2.2.2.2.2.1 q.2.2.2.2.2.2.2.2.1 q.2.2.2.2.2.2.2.2.2.1 q.2.2.2.2.2.2.2.2.2.2.1 q.2.2.2.2.2.2.2.2.2.2.2.1 q.2.2.2.2.2.2.2.2.2.2.2.2.1 q.2.2.2.2.2.2.2.2.2.2.2.2.2.1 q.2.2.2.2.2.2.2.2.2.2.2.2.2.2.1 q.2.2.2.2.2.2.2.2.2.2.2.2.2.2.2.1 q.2.2.2.2.2.2.2.2.2.2.2.2.2.2.2.2 v_a1_clock v_a1_nodes v_a1_meetings v_a1_letters v_a1_rooms v_a1_meetingRows v_a1_letterRows v_a1_rules v_a1_counts v_a1_refused v_a1_tokens v_a1_hops v_a1_since v_a1_notes v_a1_lasts v_a1_deliveredAt v_a1_deliveredHops) := by
  refine kent_v (by decide) (Nat.le_of_ble_eq_true rfl) ?_
  intro p e s m below meth c A Q ls C hP hD hS hl hret
  obtain ⟨hx, hb, -⟩ := id C
  have hl : lv_has ls 2 [(0, .ref h0), (1, .ref h15)] := hl
  unfold fX4_copyFrom at hf
  generalize ([.ref h0, .ref h15] : List Value).toArray = args at *
  refine lv_aload_n hx hb dX4_copyFrom_0 rfl (lv_at hl 0 rfl) ?_
  refine kget C inX4 hP 0 rfl rfl 0 (by decide) mw_129 rfl dX4_copyFrom_1 ?_
  refine lv_aload_n hx hb dX4_copyFrom_4 rfl (lv_at hl 1 rfl) ?_
  refine kget C inX4 hP 15 rfl rfl 0 (by decide) mw_129 rfl dX4_copyFrom_5 ?_
  obtain ⟨q8, hq8, hf⟩ := bd_some hf
  refine kcVv C (kX0_copyFrom (l := l) (D := D) (k := k) h1 h2 h3 h4 h16 h17 h18 h19 v_nodes v_meetings v_letters v_rooms v_meetingRows v_letterRows v_a1_nodes v_a1_meetings v_a1_letters v_a1_rooms v_a1_meetingRows v_a1_letterRows q8 hq8) mt_X0_copyFrom mw_669 ⟨rfl, rfl, Nat.le_of_ble_eq_true rfl, Nat.le_of_ble_eq_true rfl⟩ hP hD hS 1 rfl rfl rfl [1, 2, 3, 4, 16, 17, 18, 19] rfl rfl [none, some 0, some 1, some 2, some 3, none, none, none, none, none, none, none, none, none, none, none, some 4, some 5, some 6, some 7, none, none, none, none, none, none, none, none, none, none] rfl rfl (w2 := (wX4_copyFrom k h0 h1 h2 h3 h4 h5 h6 h7 h8 h9 h10 h11 h12 h13 h14 h15 h16 h17 h18 h19 h20 h21 h22 h23 h24 h25 h26 h27 h28 h29 v_clock q8.1 q8.2.1 q8.2.2.1 q8.2.2.2.1 q8.2.2.2.2.1 q8.2.2.2.2.2 v_rules v_counts v_refused v_tokens v_hops v_since v_notes v_lasts v_deliveredAt v_deliveredHops v_a1_clock v_a1_nodes v_a1_meetings v_a1_letters v_a1_rooms v_a1_meetingRows v_a1_letterRows v_a1_rules v_a1_counts v_a1_refused v_a1_tokens v_a1_hops v_a1_since v_a1_notes v_a1_lasts v_a1_deliveredAt v_a1_deliveredHops)) rfl rfl rfl hl.1 (rest := []) (Nat.le_of_ble_eq_true rfl) rfl dX4_copyFrom_8 ⟨Nat.zero_le _, Nat.zero_le _⟩ (fun H locs hP hD hS => ?_)
  refine lv_aload_n hx hb dX4_copyFrom_11 rfl (lv_at hl 1 rfl) ?_
  refine kget C inX4 hP 15 rfl rfl 1 (by decide) mw_132 rfl dX4_copyFrom_12 ?_
  refine lv_aload_n hx hb dX4_copyFrom_15 rfl (lv_at hl 0 rfl) ?_
  refine kget C inX4 hP 0 rfl rfl 1 (by decide) mw_132 rfl dX4_copyFrom_16 ?_
  obtain ⟨q19, hq19, hf⟩ := bd_some hf
  refine kcSv C (kX4_take (l := l) (D := D) (k := k) h20 h5 4 4 v_a1_rules v_rules q19 hq19) mt_X4_take mw_670 ⟨rfl, rfl, Nat.le_of_ble_eq_true rfl, Nat.le_of_ble_eq_true rfl⟩ hP hD hS [20, 5] rfl rfl [none, none, none, none, none, some 1, none, none, none, none, none, none, none, none, none, none, none, none, none, none, some 0, none, none, none, none, none, none, none, none, none] rfl rfl (w2 := (wX4_copyFrom k h0 h1 h2 h3 h4 h5 h6 h7 h8 h9 h10 h11 h12 h13 h14 h15 h16 h17 h18 h19 h20 h21 h22 h23 h24 h25 h26 h27 h28 h29 v_clock q8.1 q8.2.1 q8.2.2.1 q8.2.2.2.1 q8.2.2.2.2.1 q8.2.2.2.2.2 q19 v_counts v_refused v_tokens v_hops v_since v_notes v_lasts v_deliveredAt v_deliveredHops v_a1_clock v_a1_nodes v_a1_meetings v_a1_letters v_a1_rooms v_a1_meetingRows v_a1_letterRows v_a1_rules v_a1_counts v_a1_refused v_a1_tokens v_a1_hops v_a1_since v_a1_notes v_a1_lasts v_a1_deliveredAt v_a1_deliveredHops)) rfl rfl rfl hl.1 (rest := []) (Nat.le_of_ble_eq_true rfl) rfl dX4_copyFrom_19 ⟨Nat.zero_le _, Nat.zero_le _⟩ (fun H locs hP hD hS => ?_)
  refine lv_aload_n hx hb dX4_copyFrom_22 rfl (lv_at hl 1 rfl) ?_
  refine kget C inX4 hP 15 rfl rfl 2 (by decide) mw_135 rfl dX4_copyFrom_23 ?_
  refine lv_aload_n hx hb dX4_copyFrom_26 rfl (lv_at hl 0 rfl) ?_
  refine kget C inX4 hP 0 rfl rfl 2 (by decide) mw_135 rfl dX4_copyFrom_27 ?_
  obtain ⟨q30, hq30, hf⟩ := bd_some hf
  refine kcSv C (kX4_take (l := l) (D := D) (k := k) h21 h6 8 8 v_a1_counts v_counts q30 hq30) mt_X4_take mw_670 ⟨rfl, rfl, Nat.le_of_ble_eq_true rfl, Nat.le_of_ble_eq_true rfl⟩ hP hD hS [21, 6] rfl rfl [none, none, none, none, none, none, some 1, none, none, none, none, none, none, none, none, none, none, none, none, none, none, some 0, none, none, none, none, none, none, none, none] rfl rfl (w2 := (wX4_copyFrom k h0 h1 h2 h3 h4 h5 h6 h7 h8 h9 h10 h11 h12 h13 h14 h15 h16 h17 h18 h19 h20 h21 h22 h23 h24 h25 h26 h27 h28 h29 v_clock q8.1 q8.2.1 q8.2.2.1 q8.2.2.2.1 q8.2.2.2.2.1 q8.2.2.2.2.2 q19 q30 v_refused v_tokens v_hops v_since v_notes v_lasts v_deliveredAt v_deliveredHops v_a1_clock v_a1_nodes v_a1_meetings v_a1_letters v_a1_rooms v_a1_meetingRows v_a1_letterRows v_a1_rules v_a1_counts v_a1_refused v_a1_tokens v_a1_hops v_a1_since v_a1_notes v_a1_lasts v_a1_deliveredAt v_a1_deliveredHops)) rfl rfl rfl hl.1 (rest := []) (Nat.le_of_ble_eq_true rfl) rfl dX4_copyFrom_30 ⟨Nat.zero_le _, Nat.zero_le _⟩ (fun H locs hP hD hS => ?_)
  refine lv_aload_n hx hb dX4_copyFrom_33 rfl (lv_at hl 1 rfl) ?_
  refine kget C inX4 hP 15 rfl rfl 3 (by decide) mw_138 rfl dX4_copyFrom_34 ?_
  refine lv_aload_n hx hb dX4_copyFrom_37 rfl (lv_at hl 0 rfl) ?_
  refine kget C inX4 hP 0 rfl rfl 3 (by decide) mw_138 rfl dX4_copyFrom_38 ?_
  obtain ⟨q41, hq41, hf⟩ := bd_some hf
  refine kcSv C (kX4_take (l := l) (D := D) (k := k) h22 h7 6 6 v_a1_refused v_refused q41 hq41) mt_X4_take mw_670 ⟨rfl, rfl, Nat.le_of_ble_eq_true rfl, Nat.le_of_ble_eq_true rfl⟩ hP hD hS [22, 7] rfl rfl [none, none, none, none, none, none, none, some 1, none, none, none, none, none, none, none, none, none, none, none, none, none, none, some 0, none, none, none, none, none, none, none] rfl rfl (w2 := (wX4_copyFrom k h0 h1 h2 h3 h4 h5 h6 h7 h8 h9 h10 h11 h12 h13 h14 h15 h16 h17 h18 h19 h20 h21 h22 h23 h24 h25 h26 h27 h28 h29 v_clock q8.1 q8.2.1 q8.2.2.1 q8.2.2.2.1 q8.2.2.2.2.1 q8.2.2.2.2.2 q19 q30 q41 v_tokens v_hops v_since v_notes v_lasts v_deliveredAt v_deliveredHops v_a1_clock v_a1_nodes v_a1_meetings v_a1_letters v_a1_rooms v_a1_meetingRows v_a1_letterRows v_a1_rules v_a1_counts v_a1_refused v_a1_tokens v_a1_hops v_a1_since v_a1_notes v_a1_lasts v_a1_deliveredAt v_a1_deliveredHops)) rfl rfl rfl hl.1 (rest := []) (Nat.le_of_ble_eq_true rfl) rfl dX4_copyFrom_41 ⟨Nat.zero_le _, Nat.zero_le _⟩ (fun H locs hP hD hS => ?_)
  refine lv_aload_n hx hb dX4_copyFrom_44 rfl (lv_at hl 1 rfl) ?_
  refine kget C inX4 hP 15 rfl rfl 4 (by decide) mw_141 rfl dX4_copyFrom_45 ?_
  refine lv_aload_n hx hb dX4_copyFrom_48 rfl (lv_at hl 0 rfl) ?_
  refine kget C inX4 hP 0 rfl rfl 4 (by decide) mw_141 rfl dX4_copyFrom_49 ?_
  obtain ⟨q52, hq52, hf⟩ := bd_some hf
  refine kcSv C (kX4_take (l := l) (D := D) (k := k) h23 h8 128 128 v_a1_tokens v_tokens q52 hq52) mt_X4_take mw_670 ⟨rfl, rfl, Nat.le_of_ble_eq_true rfl, Nat.le_of_ble_eq_true rfl⟩ hP hD hS [23, 8] rfl rfl [none, none, none, none, none, none, none, none, some 1, none, none, none, none, none, none, none, none, none, none, none, none, none, none, some 0, none, none, none, none, none, none] rfl rfl (w2 := (wX4_copyFrom k h0 h1 h2 h3 h4 h5 h6 h7 h8 h9 h10 h11 h12 h13 h14 h15 h16 h17 h18 h19 h20 h21 h22 h23 h24 h25 h26 h27 h28 h29 v_clock q8.1 q8.2.1 q8.2.2.1 q8.2.2.2.1 q8.2.2.2.2.1 q8.2.2.2.2.2 q19 q30 q41 q52 v_hops v_since v_notes v_lasts v_deliveredAt v_deliveredHops v_a1_clock v_a1_nodes v_a1_meetings v_a1_letters v_a1_rooms v_a1_meetingRows v_a1_letterRows v_a1_rules v_a1_counts v_a1_refused v_a1_tokens v_a1_hops v_a1_since v_a1_notes v_a1_lasts v_a1_deliveredAt v_a1_deliveredHops)) rfl rfl rfl hl.1 (rest := []) (Nat.le_of_ble_eq_true rfl) rfl dX4_copyFrom_52 ⟨Nat.zero_le _, Nat.zero_le _⟩ (fun H locs hP hD hS => ?_)
  refine lv_aload_n hx hb dX4_copyFrom_55 rfl (lv_at hl 1 rfl) ?_
  refine kget C inX4 hP 15 rfl rfl 5 (by decide) mw_144 rfl dX4_copyFrom_56 ?_
  refine lv_aload_n hx hb dX4_copyFrom_59 rfl (lv_at hl 0 rfl) ?_
  refine kget C inX4 hP 0 rfl rfl 5 (by decide) mw_144 rfl dX4_copyFrom_60 ?_
  obtain ⟨q63, hq63, hf⟩ := bd_some hf
  refine kcSv C (kX4_take (l := l) (D := D) (k := k) h24 h9 128 128 v_a1_hops v_hops q63 hq63) mt_X4_take mw_670 ⟨rfl, rfl, Nat.le_of_ble_eq_true rfl, Nat.le_of_ble_eq_true rfl⟩ hP hD hS [24, 9] rfl rfl [none, none, none, none, none, none, none, none, none, some 1, none, none, none, none, none, none, none, none, none, none, none, none, none, none, some 0, none, none, none, none, none] rfl rfl (w2 := (wX4_copyFrom k h0 h1 h2 h3 h4 h5 h6 h7 h8 h9 h10 h11 h12 h13 h14 h15 h16 h17 h18 h19 h20 h21 h22 h23 h24 h25 h26 h27 h28 h29 v_clock q8.1 q8.2.1 q8.2.2.1 q8.2.2.2.1 q8.2.2.2.2.1 q8.2.2.2.2.2 q19 q30 q41 q52 q63 v_since v_notes v_lasts v_deliveredAt v_deliveredHops v_a1_clock v_a1_nodes v_a1_meetings v_a1_letters v_a1_rooms v_a1_meetingRows v_a1_letterRows v_a1_rules v_a1_counts v_a1_refused v_a1_tokens v_a1_hops v_a1_since v_a1_notes v_a1_lasts v_a1_deliveredAt v_a1_deliveredHops)) rfl rfl rfl hl.1 (rest := []) (Nat.le_of_ble_eq_true rfl) rfl dX4_copyFrom_63 ⟨Nat.zero_le _, Nat.zero_le _⟩ (fun H locs hP hD hS => ?_)
  refine lv_aload_n hx hb dX4_copyFrom_66 rfl (lv_at hl 1 rfl) ?_
  refine kget C inX4 hP 15 rfl rfl 6 (by decide) mw_147 rfl dX4_copyFrom_67 ?_
  refine lv_aload_n hx hb dX4_copyFrom_70 rfl (lv_at hl 0 rfl) ?_
  refine kget C inX4 hP 0 rfl rfl 6 (by decide) mw_147 rfl dX4_copyFrom_71 ?_
  obtain ⟨q74, hq74, hf⟩ := bd_some hf
  refine kcSv C (kX4_take (l := l) (D := D) (k := k) h25 h10 128 128 v_a1_since v_since q74 hq74) mt_X4_take mw_670 ⟨rfl, rfl, Nat.le_of_ble_eq_true rfl, Nat.le_of_ble_eq_true rfl⟩ hP hD hS [25, 10] rfl rfl [none, none, none, none, none, none, none, none, none, none, some 1, none, none, none, none, none, none, none, none, none, none, none, none, none, none, some 0, none, none, none, none] rfl rfl (w2 := (wX4_copyFrom k h0 h1 h2 h3 h4 h5 h6 h7 h8 h9 h10 h11 h12 h13 h14 h15 h16 h17 h18 h19 h20 h21 h22 h23 h24 h25 h26 h27 h28 h29 v_clock q8.1 q8.2.1 q8.2.2.1 q8.2.2.2.1 q8.2.2.2.2.1 q8.2.2.2.2.2 q19 q30 q41 q52 q63 q74 v_notes v_lasts v_deliveredAt v_deliveredHops v_a1_clock v_a1_nodes v_a1_meetings v_a1_letters v_a1_rooms v_a1_meetingRows v_a1_letterRows v_a1_rules v_a1_counts v_a1_refused v_a1_tokens v_a1_hops v_a1_since v_a1_notes v_a1_lasts v_a1_deliveredAt v_a1_deliveredHops)) rfl rfl rfl hl.1 (rest := []) (Nat.le_of_ble_eq_true rfl) rfl dX4_copyFrom_74 ⟨Nat.zero_le _, Nat.zero_le _⟩ (fun H locs hP hD hS => ?_)
  refine lv_aload_n hx hb dX4_copyFrom_77 rfl (lv_at hl 1 rfl) ?_
  refine kget C inX4 hP 15 rfl rfl 7 (by decide) mw_150 rfl dX4_copyFrom_78 ?_
  refine lv_aload_n hx hb dX4_copyFrom_81 rfl (lv_at hl 0 rfl) ?_
  refine kget C inX4 hP 0 rfl rfl 7 (by decide) mw_150 rfl dX4_copyFrom_82 ?_
  obtain ⟨q85, hq85, hf⟩ := bd_some hf
  refine kcSv C (kX4_take (l := l) (D := D) (k := k) h26 h11 8 8 v_a1_notes v_notes q85 hq85) mt_X4_take mw_670 ⟨rfl, rfl, Nat.le_of_ble_eq_true rfl, Nat.le_of_ble_eq_true rfl⟩ hP hD hS [26, 11] rfl rfl [none, none, none, none, none, none, none, none, none, none, none, some 1, none, none, none, none, none, none, none, none, none, none, none, none, none, none, some 0, none, none, none] rfl rfl (w2 := (wX4_copyFrom k h0 h1 h2 h3 h4 h5 h6 h7 h8 h9 h10 h11 h12 h13 h14 h15 h16 h17 h18 h19 h20 h21 h22 h23 h24 h25 h26 h27 h28 h29 v_clock q8.1 q8.2.1 q8.2.2.1 q8.2.2.2.1 q8.2.2.2.2.1 q8.2.2.2.2.2 q19 q30 q41 q52 q63 q74 q85 v_lasts v_deliveredAt v_deliveredHops v_a1_clock v_a1_nodes v_a1_meetings v_a1_letters v_a1_rooms v_a1_meetingRows v_a1_letterRows v_a1_rules v_a1_counts v_a1_refused v_a1_tokens v_a1_hops v_a1_since v_a1_notes v_a1_lasts v_a1_deliveredAt v_a1_deliveredHops)) rfl rfl rfl hl.1 (rest := []) (Nat.le_of_ble_eq_true rfl) rfl dX4_copyFrom_85 ⟨Nat.zero_le _, Nat.zero_le _⟩ (fun H locs hP hD hS => ?_)
  refine lv_aload_n hx hb dX4_copyFrom_88 rfl (lv_at hl 1 rfl) ?_
  refine kget C inX4 hP 15 rfl rfl 8 (by decide) mw_153 rfl dX4_copyFrom_89 ?_
  refine lv_aload_n hx hb dX4_copyFrom_92 rfl (lv_at hl 0 rfl) ?_
  refine kget C inX4 hP 0 rfl rfl 8 (by decide) mw_153 rfl dX4_copyFrom_93 ?_
  obtain ⟨q96, hq96, hf⟩ := bd_some hf
  refine kcSv C (kX4_take (l := l) (D := D) (k := k) h27 h12 64 64 v_a1_lasts v_lasts q96 hq96) mt_X4_take mw_670 ⟨rfl, rfl, Nat.le_of_ble_eq_true rfl, Nat.le_of_ble_eq_true rfl⟩ hP hD hS [27, 12] rfl rfl [none, none, none, none, none, none, none, none, none, none, none, none, some 1, none, none, none, none, none, none, none, none, none, none, none, none, none, none, some 0, none, none] rfl rfl (w2 := (wX4_copyFrom k h0 h1 h2 h3 h4 h5 h6 h7 h8 h9 h10 h11 h12 h13 h14 h15 h16 h17 h18 h19 h20 h21 h22 h23 h24 h25 h26 h27 h28 h29 v_clock q8.1 q8.2.1 q8.2.2.1 q8.2.2.2.1 q8.2.2.2.2.1 q8.2.2.2.2.2 q19 q30 q41 q52 q63 q74 q85 q96 v_deliveredAt v_deliveredHops v_a1_clock v_a1_nodes v_a1_meetings v_a1_letters v_a1_rooms v_a1_meetingRows v_a1_letterRows v_a1_rules v_a1_counts v_a1_refused v_a1_tokens v_a1_hops v_a1_since v_a1_notes v_a1_lasts v_a1_deliveredAt v_a1_deliveredHops)) rfl rfl rfl hl.1 (rest := []) (Nat.le_of_ble_eq_true rfl) rfl dX4_copyFrom_96 ⟨Nat.zero_le _, Nat.zero_le _⟩ (fun H locs hP hD hS => ?_)
  refine lv_aload_n hx hb dX4_copyFrom_99 rfl (lv_at hl 1 rfl) ?_
  refine kget C inX4 hP 15 rfl rfl 9 (by decide) mw_154 rfl dX4_copyFrom_100 ?_
  refine lv_aload_n hx hb dX4_copyFrom_103 rfl (lv_at hl 0 rfl) ?_
  refine kget C inX4 hP 0 rfl rfl 9 (by decide) mw_154 rfl dX4_copyFrom_104 ?_
  obtain ⟨q107, hq107, hf⟩ := bd_some hf
  refine kcSv C (kX4_take (l := l) (D := D) (k := k) h28 h13 16 16 v_a1_deliveredAt v_deliveredAt q107 hq107) mt_X4_take mw_670 ⟨rfl, rfl, Nat.le_of_ble_eq_true rfl, Nat.le_of_ble_eq_true rfl⟩ hP hD hS [28, 13] rfl rfl [none, none, none, none, none, none, none, none, none, none, none, none, none, some 1, none, none, none, none, none, none, none, none, none, none, none, none, none, none, some 0, none] rfl rfl (w2 := (wX4_copyFrom k h0 h1 h2 h3 h4 h5 h6 h7 h8 h9 h10 h11 h12 h13 h14 h15 h16 h17 h18 h19 h20 h21 h22 h23 h24 h25 h26 h27 h28 h29 v_clock q8.1 q8.2.1 q8.2.2.1 q8.2.2.2.1 q8.2.2.2.2.1 q8.2.2.2.2.2 q19 q30 q41 q52 q63 q74 q85 q96 q107 v_deliveredHops v_a1_clock v_a1_nodes v_a1_meetings v_a1_letters v_a1_rooms v_a1_meetingRows v_a1_letterRows v_a1_rules v_a1_counts v_a1_refused v_a1_tokens v_a1_hops v_a1_since v_a1_notes v_a1_lasts v_a1_deliveredAt v_a1_deliveredHops)) rfl rfl rfl hl.1 (rest := []) (Nat.le_of_ble_eq_true rfl) rfl dX4_copyFrom_107 ⟨Nat.zero_le _, Nat.zero_le _⟩ (fun H locs hP hD hS => ?_)
  refine lv_aload_n hx hb dX4_copyFrom_110 rfl (lv_at hl 1 rfl) ?_
  refine kget C inX4 hP 15 rfl rfl 10 (by decide) mw_157 rfl dX4_copyFrom_111 ?_
  refine lv_aload_n hx hb dX4_copyFrom_114 rfl (lv_at hl 0 rfl) ?_
  refine kget C inX4 hP 0 rfl rfl 10 (by decide) mw_157 rfl dX4_copyFrom_115 ?_
  obtain ⟨q118, hq118, hf⟩ := bd_some hf
  refine kcSv C (kX4_take (l := l) (D := D) (k := k) h29 h14 16 16 v_a1_deliveredHops v_deliveredHops q118 hq118) mt_X4_take mw_670 ⟨rfl, rfl, Nat.le_of_ble_eq_true rfl, Nat.le_of_ble_eq_true rfl⟩ hP hD hS [29, 14] rfl rfl [none, none, none, none, none, none, none, none, none, none, none, none, none, none, some 1, none, none, none, none, none, none, none, none, none, none, none, none, none, none, some 0] rfl rfl (w2 := (wX4_copyFrom k h0 h1 h2 h3 h4 h5 h6 h7 h8 h9 h10 h11 h12 h13 h14 h15 h16 h17 h18 h19 h20 h21 h22 h23 h24 h25 h26 h27 h28 h29 v_clock q8.1 q8.2.1 q8.2.2.1 q8.2.2.2.1 q8.2.2.2.2.1 q8.2.2.2.2.2 q19 q30 q41 q52 q63 q74 q85 q96 q107 q118 v_a1_clock v_a1_nodes v_a1_meetings v_a1_letters v_a1_rooms v_a1_meetingRows v_a1_letterRows v_a1_rules v_a1_counts v_a1_refused v_a1_tokens v_a1_hops v_a1_since v_a1_notes v_a1_lasts v_a1_deliveredAt v_a1_deliveredHops)) rfl rfl rfl hl.1 (rest := []) (Nat.le_of_ble_eq_true rfl) rfl dX4_copyFrom_118 ⟨Nat.zero_le _, Nat.zero_le _⟩ (fun H locs hP hD hS => ?_)
  refine lv_aload_n hx hb dX4_copyFrom_121 rfl (lv_at hl 0 rfl) ?_
  refine lv_aload_n hx hb dX4_copyFrom_122 rfl (lv_at hl 1 rfl) ?_
  refine kget C inX4 hP 15 rfl rfl 11 (by decide) mw_161 rfl dX4_copyFrom_123 ?_
  refine kput C inX4 tyX4_ok nmX4 hP hD hS 0 rfl rfl 11 (by decide) mw_161 rfl rfl rfl (Nat.le_of_ble_eq_true rfl) dX4_copyFrom_126 (w2 := (wX4_copyFrom k h0 h1 h2 h3 h4 h5 h6 h7 h8 h9 h10 h11 h12 h13 h14 h15 h16 h17 h18 h19 h20 h21 h22 h23 h24 h25 h26 h27 h28 h29 v_a1_clock q8.1 q8.2.1 q8.2.2.1 q8.2.2.2.1 q8.2.2.2.2.1 q8.2.2.2.2.2 q19 q30 q41 q52 q63 q74 q85 q96 q107 q118 v_a1_clock v_a1_nodes v_a1_meetings v_a1_letters v_a1_rooms v_a1_meetingRows v_a1_letterRows v_a1_rules v_a1_counts v_a1_refused v_a1_tokens v_a1_hops v_a1_since v_a1_notes v_a1_lasts v_a1_deliveredAt v_a1_deliveredHops)) rfl (fun H locs hP hD hS => ?_)
  obtain rfl := Option.some.inj hf
  exact hret _ _ _ _ dX4_copyFrom_129 hP hS
set_option maxHeartbeats 4000000 in
set_option maxRecDepth 100000 in
theorem wX4_copiesIn_4 {p : Program} {l : Launch} {e : Env} {s : State} {m : MethodId} {args : Array Value} {below : List Frame} {meth : Method} {c : Code} {A : Nat → Prop} {Q : State → Prop} {D : va_G} {k : Nat → ClassId} (C : Cx p s m args c cX4_copiesIn 4 RX4 A D k) (h0 h1 h2 : Nat) (z0 z1 z2 z3 z4 z5 z6 z7 z8 z9 z10 z11 z12 z13 z14 : Value) (v_letters : Int32) (v_tokens : Nat → Int32) (y1 : Int32) : ∀ (f : Nat) (y2 : Int32) (y3 : Int32) (ex : (Int32)) (H : Heap) (locs : List Loc) (ls : Array Slot), fX4_copiesIn_4 v_letters v_tokens y1 f y2 y3 = some ex → va_P D vwCl (wX4_copiesIn k h0 h1 h2 z0 z1 z2 z3 z4 z5 z6 z7 z8 z9 z10 z11 z12 z13 z14 v_letters v_tokens) H → va_D A (wX4_copiesIn k h0 h1 h2 z0 z1 z2 z3 z4 z5 z6 z7 z8 z9 z10 z11 z12 z13 z14 v_letters v_tokens) → va_S A s.heap H locs → lv_has ls 4 [(0, .ref h0), (1, .int y1), (2, .int y2), (3, .int y3)] → (∀ (H : Heap) (locs : List Loc) (ls : Array Slot), va_P D vwCl (wX4_copiesIn k h0 h1 h2 z0 z1 z2 z3 z4 z5 z6 z7 z8 z9 z10 z11 z12 z13 z14 v_letters v_tokens) H → va_D A (wX4_copiesIn k h0 h1 h2 z0 z1 z2 z3 z4 z5 z6 z7 z8 z9 z10 z11 z12 z13 z14 v_letters v_tokens) → va_S A s.heap H locs → lv_has ls 4 [(2, .int ex)] → W p l e ({ frames := 1, cells := 0, slots := 0, locals := 22 } : Room) s m args below meth c H locs 0 0 Q (F0 m 33 ls [])) → W p l e ({ frames := 1, cells := 0, slots := 0, locals := 22 } : Room) s m args below meth c H locs 0 0 Q (F0 m 4 ls []) := by
  obtain ⟨hx, hb, -⟩ := id C
  intro f
  induction f with
  | zero =>
    intro y2 y3 ex H locs ls hf hP hD hS hl hk
    cases hf
  | succ f ih =>
    intro y2 y3 ex H locs ls hf hP hD hS hl hk
    rw [fX4_copiesIn_4] at hf
    refine lv_iload_n hx hb dX4_copiesIn_4 rfl (lv_at hl 3 rfl) ?_
    refine lv_aload_n hx hb dX4_copiesIn_5 rfl (lv_at hl 0 rfl) ?_
    refine kget C inX4 hP 0 rfl rfl 0 (by decide) mw_129 rfl dX4_copiesIn_6 ?_
    refine kget C inX0 hP 1 rfl rfl 5 (by decide) mw_71 rfl dX4_copiesIn_9 ?_
    refine lv_icmp_ge (tgt := 33) hx hb dX4_copiesIn_12 (by decide) (fun hc => ?_) (fun hc => ?_)
    · rw [if_pos hc] at hf
      obtain rfl := Option.some.inj hf
      exact hk _ _ _ hP hD hS (lv_sub hl [2] rfl)
    · rw [if_neg hc] at hf
      refine lv_aload_n hx hb dX4_copiesIn_15 rfl (lv_at hl 0 rfl) ?_
      refine lv_iload_n hx hb dX4_copiesIn_16 rfl (lv_at hl 1 rfl) ?_
      refine lv_iload_n hx hb dX4_copiesIn_17 rfl (lv_at hl 3 rfl) ?_
      obtain ⟨q18, hq18, hf⟩ := bd_some hf
      refine kcVi C (kX4_hasCopy (l := l) (D := D) (k := k) h0 h2 (.ref h1) z0 z1 z2 z3 z4 z5 z6 z7 z8 z9 v_tokens y1 y3 q18 hq18) mt_X4_hasCopy mw_412 ⟨rfl, rfl, Nat.le_of_ble_eq_true rfl, Nat.le_of_ble_eq_true rfl⟩ hP hD hS 0 rfl rfl rfl [0, 2] rfl rfl [some 0, none, some 1] rfl rfl (w2 := (wX4_copiesIn k h0 h1 h2 z0 z1 z2 z3 z4 z5 z6 z7 z8 z9 z10 z11 z12 z13 z14 v_letters v_tokens)) rfl rfl rfl hl.1 (rest := []) (Nat.le_of_ble_eq_true rfl) rfl dX4_copiesIn_18 ⟨Nat.zero_le _, Nat.zero_le _⟩ (fun H locs hP hD hS => ?_)
      refine lv_if_eq (tgt := 27) hx hb dX4_copiesIn_21 (by decide) (fun hc => ?_) (fun hc => ?_)
      · rw [if_pos hc] at hf
        refine lv_iinc (v := (y3 + (1 : Int32))) (lv' := [(3, .int (y3 + (1 : Int32))), (0, .ref h0), (1, .int y1), (2, .int y2)]) hx hb dX4_copiesIn_27 hl (k := 3) rfl rfl (by decide) rfl (fun ls hl => ?_)
        refine lv_goto (tgt := 4) hx hb dX4_copiesIn_30 (by decide) ?_
        exact ih y2 (y3 + (1 : Int32)) _ _ _ _ hf hP hD hS (lv_sub hl [1, 2, 3, 0] rfl) hk
      · rw [if_neg hc] at hf
        refine lv_iinc (v := (y2 + (1 : Int32))) (lv' := [(2, .int (y2 + (1 : Int32))), (0, .ref h0), (1, .int y1), (3, .int y3)]) hx hb dX4_copiesIn_24 hl (k := 2) rfl rfl (by decide) rfl (fun ls hl => ?_)
        refine lv_iinc (v := (y3 + (1 : Int32))) (lv' := [(3, .int (y3 + (1 : Int32))), (2, .int (y2 + (1 : Int32))), (0, .ref h0), (1, .int y1)]) hx hb dX4_copiesIn_27 hl (k := 3) rfl rfl (by decide) rfl (fun ls hl => ?_)
        refine lv_goto (tgt := 4) hx hb dX4_copiesIn_30 (by decide) ?_
        exact ih (y2 + (1 : Int32)) (y3 + (1 : Int32)) _ _ _ _ hf hP hD hS (lv_sub hl [2, 3, 1, 0] rfl) hk
set_option maxHeartbeats 4000000 in
set_option maxRecDepth 100000 in
theorem kX4_copiesIn {l : Launch} {D : va_G} {k : Nat → ClassId} (h0 h1 h2 : Nat) (z0 z1 z2 z3 z4 z5 z6 z7 z8 z9 z10 z11 z12 z13 z14 : Value) (v_letters : Int32) (v_tokens : Nat → Int32) (x1 : Int32) (q : Int32) (hf : fX4_copiesIn v_letters v_tokens x1 = some q) : KMi l yX4_copiesIn cX4_copiesIn 4 (some .int) ({ frames := 1, cells := 0, slots := 0, locals := 22 } : Room) D k [.ref h0, .int x1] (wX4_copiesIn k h0 h1 h2 z0 z1 z2 z3 z4 z5 z6 z7 z8 z9 z10 z11 z12 z13 z14 v_letters v_tokens) q (wX4_copiesIn k h0 h1 h2 z0 z1 z2 z3 z4 z5 z6 z7 z8 z9 z10 z11 z12 z13 z14 v_letters v_tokens) := by
  refine kent_i (by decide) (Nat.le_of_ble_eq_true rfl) ?_
  intro p e s m below meth c A Q ls C hP hD hS hl hret
  obtain ⟨hx, hb, -⟩ := id C
  have hl : lv_has ls 4 [(0, .ref h0), (1, .int x1)] := hl
  unfold fX4_copiesIn at hf
  generalize ([.ref h0, .int x1] : List Value).toArray = args at *
  refine lv_iconst (v := (0 : Int32)) hx hb dX4_copiesIn_0 (by decide) ?_
  refine lv_istore_n (lv' := [(2, .int (0 : Int32)), (0, .ref h0), (1, .int x1)]) hx hb dX4_copiesIn_1 rfl hl (by decide) rfl (fun ls hl => ?_)
  refine lv_iconst (v := (0 : Int32)) hx hb dX4_copiesIn_2 (by decide) ?_
  refine lv_istore_n (lv' := [(3, .int (0 : Int32)), (2, .int (0 : Int32)), (0, .ref h0), (1, .int x1)]) hx hb dX4_copiesIn_3 rfl hl (by decide) rfl (fun ls hl => ?_)
  obtain ⟨ex4, hv, hf⟩ := bd_some hf
  refine wX4_copiesIn_4 C h0 h1 h2 z0 z1 z2 z3 z4 z5 z6 z7 z8 z9 z10 z11 z12 z13 z14 v_letters v_tokens x1 FU (0 : Int32) (0 : Int32) ex4 _ _ _ hv hP hD hS (lv_sub hl [2, 3, 1, 0] rfl) (fun H locs ls hP hD hS hl => ?_)
  refine lv_iload_n hx hb dX4_copiesIn_33 rfl (lv_at hl 0 rfl) ?_
  obtain rfl := Option.some.inj hf
  exact hret _ _ _ _ dX4_copiesIn_34 hP hS
set_option maxHeartbeats 4000000 in
set_option maxRecDepth 100000 in
theorem wX4_copiesOf_4 {p : Program} {l : Launch} {e : Env} {s : State} {m : MethodId} {args : Array Value} {below : List Frame} {meth : Method} {c : Code} {A : Nat → Prop} {Q : State → Prop} {D : va_G} {k : Nat → ClassId} (C : Cx p s m args c cX4_copiesOf 4 RX4 A D k) (h0 h1 h2 : Nat) (z0 z1 z2 z3 z4 z5 z6 z7 z8 z9 z10 z11 z12 z13 z14 : Value) (v_nodes : Int32) (v_tokens : Nat → Int32) (y1 : Int32) : ∀ (f : Nat) (y2 : Int32) (y3 : Int32) (ex : (Int32)) (H : Heap) (locs : List Loc) (ls : Array Slot), fX4_copiesOf_4 v_nodes v_tokens y1 f y2 y3 = some ex → va_P D vwCl (wX4_copiesOf k h0 h1 h2 z0 z1 z2 z3 z4 z5 z6 z7 z8 z9 z10 z11 z12 z13 z14 v_nodes v_tokens) H → va_D A (wX4_copiesOf k h0 h1 h2 z0 z1 z2 z3 z4 z5 z6 z7 z8 z9 z10 z11 z12 z13 z14 v_nodes v_tokens) → va_S A s.heap H locs → lv_has ls 4 [(0, .ref h0), (1, .int y1), (2, .int y2), (3, .int y3)] → (∀ (H : Heap) (locs : List Loc) (ls : Array Slot), va_P D vwCl (wX4_copiesOf k h0 h1 h2 z0 z1 z2 z3 z4 z5 z6 z7 z8 z9 z10 z11 z12 z13 z14 v_nodes v_tokens) H → va_D A (wX4_copiesOf k h0 h1 h2 z0 z1 z2 z3 z4 z5 z6 z7 z8 z9 z10 z11 z12 z13 z14 v_nodes v_tokens) → va_S A s.heap H locs → lv_has ls 4 [(2, .int ex)] → W p l e ({ frames := 1, cells := 0, slots := 0, locals := 22 } : Room) s m args below meth c H locs 0 0 Q (F0 m 33 ls [])) → W p l e ({ frames := 1, cells := 0, slots := 0, locals := 22 } : Room) s m args below meth c H locs 0 0 Q (F0 m 4 ls []) := by
  obtain ⟨hx, hb, -⟩ := id C
  intro f
  induction f with
  | zero =>
    intro y2 y3 ex H locs ls hf hP hD hS hl hk
    cases hf
  | succ f ih =>
    intro y2 y3 ex H locs ls hf hP hD hS hl hk
    rw [fX4_copiesOf_4] at hf
    refine lv_iload_n hx hb dX4_copiesOf_4 rfl (lv_at hl 3 rfl) ?_
    refine lv_aload_n hx hb dX4_copiesOf_5 rfl (lv_at hl 0 rfl) ?_
    refine kget C inX4 hP 0 rfl rfl 0 (by decide) mw_129 rfl dX4_copiesOf_6 ?_
    refine kget C inX0 hP 1 rfl rfl 3 (by decide) mw_62 rfl dX4_copiesOf_9 ?_
    refine lv_icmp_ge (tgt := 33) hx hb dX4_copiesOf_12 (by decide) (fun hc => ?_) (fun hc => ?_)
    · rw [if_pos hc] at hf
      obtain rfl := Option.some.inj hf
      exact hk _ _ _ hP hD hS (lv_sub hl [2] rfl)
    · rw [if_neg hc] at hf
      refine lv_aload_n hx hb dX4_copiesOf_15 rfl (lv_at hl 0 rfl) ?_
      refine lv_iload_n hx hb dX4_copiesOf_16 rfl (lv_at hl 3 rfl) ?_
      refine lv_iload_n hx hb dX4_copiesOf_17 rfl (lv_at hl 1 rfl) ?_
      obtain ⟨q18, hq18, hf⟩ := bd_some hf
      refine kcVi C (kX4_hasCopy (l := l) (D := D) (k := k) h0 h2 (.ref h1) z0 z1 z2 z3 z4 z5 z6 z7 z8 z9 v_tokens y3 y1 q18 hq18) mt_X4_hasCopy mw_412 ⟨rfl, rfl, Nat.le_of_ble_eq_true rfl, Nat.le_of_ble_eq_true rfl⟩ hP hD hS 0 rfl rfl rfl [0, 2] rfl rfl [some 0, none, some 1] rfl rfl (w2 := (wX4_copiesOf k h0 h1 h2 z0 z1 z2 z3 z4 z5 z6 z7 z8 z9 z10 z11 z12 z13 z14 v_nodes v_tokens)) rfl rfl rfl hl.1 (rest := []) (Nat.le_of_ble_eq_true rfl) rfl dX4_copiesOf_18 ⟨Nat.zero_le _, Nat.zero_le _⟩ (fun H locs hP hD hS => ?_)
      refine lv_if_eq (tgt := 27) hx hb dX4_copiesOf_21 (by decide) (fun hc => ?_) (fun hc => ?_)
      · rw [if_pos hc] at hf
        refine lv_iinc (v := (y3 + (1 : Int32))) (lv' := [(3, .int (y3 + (1 : Int32))), (0, .ref h0), (1, .int y1), (2, .int y2)]) hx hb dX4_copiesOf_27 hl (k := 3) rfl rfl (by decide) rfl (fun ls hl => ?_)
        refine lv_goto (tgt := 4) hx hb dX4_copiesOf_30 (by decide) ?_
        exact ih y2 (y3 + (1 : Int32)) _ _ _ _ hf hP hD hS (lv_sub hl [1, 2, 3, 0] rfl) hk
      · rw [if_neg hc] at hf
        refine lv_iinc (v := (y2 + (1 : Int32))) (lv' := [(2, .int (y2 + (1 : Int32))), (0, .ref h0), (1, .int y1), (3, .int y3)]) hx hb dX4_copiesOf_24 hl (k := 2) rfl rfl (by decide) rfl (fun ls hl => ?_)
        refine lv_iinc (v := (y3 + (1 : Int32))) (lv' := [(3, .int (y3 + (1 : Int32))), (2, .int (y2 + (1 : Int32))), (0, .ref h0), (1, .int y1)]) hx hb dX4_copiesOf_27 hl (k := 3) rfl rfl (by decide) rfl (fun ls hl => ?_)
        refine lv_goto (tgt := 4) hx hb dX4_copiesOf_30 (by decide) ?_
        exact ih (y2 + (1 : Int32)) (y3 + (1 : Int32)) _ _ _ _ hf hP hD hS (lv_sub hl [2, 3, 1, 0] rfl) hk
set_option maxHeartbeats 4000000 in
set_option maxRecDepth 100000 in
theorem kX4_copiesOf {l : Launch} {D : va_G} {k : Nat → ClassId} (h0 h1 h2 : Nat) (z0 z1 z2 z3 z4 z5 z6 z7 z8 z9 z10 z11 z12 z13 z14 : Value) (v_nodes : Int32) (v_tokens : Nat → Int32) (x1 : Int32) (q : Int32) (hf : fX4_copiesOf v_nodes v_tokens x1 = some q) : KMi l yX4_copiesOf cX4_copiesOf 4 (some .int) ({ frames := 1, cells := 0, slots := 0, locals := 22 } : Room) D k [.ref h0, .int x1] (wX4_copiesOf k h0 h1 h2 z0 z1 z2 z3 z4 z5 z6 z7 z8 z9 z10 z11 z12 z13 z14 v_nodes v_tokens) q (wX4_copiesOf k h0 h1 h2 z0 z1 z2 z3 z4 z5 z6 z7 z8 z9 z10 z11 z12 z13 z14 v_nodes v_tokens) := by
  refine kent_i (by decide) (Nat.le_of_ble_eq_true rfl) ?_
  intro p e s m below meth c A Q ls C hP hD hS hl hret
  obtain ⟨hx, hb, -⟩ := id C
  have hl : lv_has ls 4 [(0, .ref h0), (1, .int x1)] := hl
  unfold fX4_copiesOf at hf
  generalize ([.ref h0, .int x1] : List Value).toArray = args at *
  refine lv_iconst (v := (0 : Int32)) hx hb dX4_copiesOf_0 (by decide) ?_
  refine lv_istore_n (lv' := [(2, .int (0 : Int32)), (0, .ref h0), (1, .int x1)]) hx hb dX4_copiesOf_1 rfl hl (by decide) rfl (fun ls hl => ?_)
  refine lv_iconst (v := (0 : Int32)) hx hb dX4_copiesOf_2 (by decide) ?_
  refine lv_istore_n (lv' := [(3, .int (0 : Int32)), (2, .int (0 : Int32)), (0, .ref h0), (1, .int x1)]) hx hb dX4_copiesOf_3 rfl hl (by decide) rfl (fun ls hl => ?_)
  obtain ⟨ex4, hv, hf⟩ := bd_some hf
  refine wX4_copiesOf_4 C h0 h1 h2 z0 z1 z2 z3 z4 z5 z6 z7 z8 z9 z10 z11 z12 z13 z14 v_nodes v_tokens x1 FU (0 : Int32) (0 : Int32) ex4 _ _ _ hv hP hD hS (lv_sub hl [2, 3, 1, 0] rfl) (fun H locs ls hP hD hS hl => ?_)
  refine lv_iload_n hx hb dX4_copiesOf_33 rfl (lv_at hl 0 rfl) ?_
  obtain rfl := Option.some.inj hf
  exact hret _ _ _ _ dX4_copiesOf_34 hP hS
set_option maxHeartbeats 4000000 in
set_option maxRecDepth 100000 in
theorem wX4_copiesInAll_4 {p : Program} {l : Launch} {e : Env} {s : State} {m : MethodId} {args : Array Value} {below : List Frame} {meth : Method} {c : Code} {A : Nat → Prop} {Q : State → Prop} {D : va_G} {k : Nat → ClassId} (C : Cx p s m args c cX4_copiesInAll 3 RX4 A D k) (h0 h1 h2 : Nat) (z0 z1 z2 z3 z4 z5 z6 z7 z8 z9 z10 z11 z12 z13 : Value) (v_nodes : Int32) (v_letters : Int32) (v_tokens : Nat → Int32) : ∀ (f : Nat) (y1 : Int32) (y2 : Int32) (ex : (Int32)) (H : Heap) (locs : List Loc) (ls : Array Slot), fX4_copiesInAll_4 v_nodes v_letters v_tokens f y1 y2 = some ex → va_P D vwCl (wX4_copiesInAll k h0 h1 h2 z0 z1 z2 z3 z4 z5 z6 z7 z8 z9 z10 z11 z12 z13 v_nodes v_letters v_tokens) H → va_D A (wX4_copiesInAll k h0 h1 h2 z0 z1 z2 z3 z4 z5 z6 z7 z8 z9 z10 z11 z12 z13 v_nodes v_letters v_tokens) → va_S A s.heap H locs → lv_has ls 3 [(0, .ref h0), (1, .int y1), (2, .int y2)] → (∀ (H : Heap) (locs : List Loc) (ls : Array Slot), va_P D vwCl (wX4_copiesInAll k h0 h1 h2 z0 z1 z2 z3 z4 z5 z6 z7 z8 z9 z10 z11 z12 z13 v_nodes v_letters v_tokens) H → va_D A (wX4_copiesInAll k h0 h1 h2 z0 z1 z2 z3 z4 z5 z6 z7 z8 z9 z10 z11 z12 z13 v_nodes v_letters v_tokens) → va_S A s.heap H locs → lv_has ls 3 [(1, .int ex)] → W p l e ({ frames := 2, cells := 0, slots := 0, locals := 45 } : Room) s m args below meth c H locs 0 0 Q (F0 m 29 ls [])) → W p l e ({ frames := 2, cells := 0, slots := 0, locals := 45 } : Room) s m args below meth c H locs 0 0 Q (F0 m 4 ls []) := by
  obtain ⟨hx, hb, -⟩ := id C
  intro f
  induction f with
  | zero =>
    intro y1 y2 ex H locs ls hf hP hD hS hl hk
    cases hf
  | succ f ih =>
    intro y1 y2 ex H locs ls hf hP hD hS hl hk
    rw [fX4_copiesInAll_4] at hf
    refine lv_iload_n hx hb dX4_copiesInAll_4 rfl (lv_at hl 2 rfl) ?_
    refine lv_aload_n hx hb dX4_copiesInAll_5 rfl (lv_at hl 0 rfl) ?_
    refine kget C inX4 hP 0 rfl rfl 0 (by decide) mw_129 rfl dX4_copiesInAll_6 ?_
    refine kget C inX0 hP 1 rfl rfl 3 (by decide) mw_62 rfl dX4_copiesInAll_9 ?_
    refine lv_icmp_ge (tgt := 29) hx hb dX4_copiesInAll_12 (by decide) (fun hc => ?_) (fun hc => ?_)
    · rw [if_pos hc] at hf
      obtain rfl := Option.some.inj hf
      exact hk _ _ _ hP hD hS (lv_sub hl [1] rfl)
    · rw [if_neg hc] at hf
      refine lv_iload_n hx hb dX4_copiesInAll_15 rfl (lv_at hl 1 rfl) ?_
      refine lv_aload_n hx hb dX4_copiesInAll_16 rfl (lv_at hl 0 rfl) ?_
      refine lv_iload_n hx hb dX4_copiesInAll_17 rfl (lv_at hl 2 rfl) ?_
      obtain ⟨q18, hq18, hf⟩ := bd_some hf
      refine kcVi C (kX4_copiesIn (l := l) (D := D) (k := k) h0 h1 h2 z0 z1 z2 z3 z4 z5 z6 z7 z8 z9 z10 z11 z12 (.int v_nodes) z13 v_letters v_tokens y2 q18 hq18) mt_X4_copiesIn mw_408 ⟨rfl, rfl, Nat.le_of_ble_eq_true rfl, Nat.le_of_ble_eq_true rfl⟩ hP hD hS 0 rfl rfl rfl [0, 1, 2] rfl rfl [some 0, some 1, some 2] rfl rfl (w2 := (wX4_copiesInAll k h0 h1 h2 z0 z1 z2 z3 z4 z5 z6 z7 z8 z9 z10 z11 z12 z13 v_nodes v_letters v_tokens)) rfl rfl rfl hl.1 (rest := [.int y1]) (Nat.le_of_ble_eq_true rfl) rfl dX4_copiesInAll_18 ⟨Nat.zero_le _, Nat.zero_le _⟩ (fun H locs hP hD hS => ?_)
      refine lv_iadd hx hb dX4_copiesInAll_21 ?_
      refine lv_istore_n (lv' := [(1, .int (y1 + q18)), (0, .ref h0), (2, .int y2)]) hx hb dX4_copiesInAll_22 rfl hl (by decide) rfl (fun ls hl => ?_)
      refine lv_iinc (v := (y2 + (1 : Int32))) (lv' := [(2, .int (y2 + (1 : Int32))), (1, .int (y1 + q18)), (0, .ref h0)]) hx hb dX4_copiesInAll_23 hl (k := 2) rfl rfl (by decide) rfl (fun ls hl => ?_)
      refine lv_goto (tgt := 4) hx hb dX4_copiesInAll_26 (by decide) ?_
      exact ih (y1 + q18) (y2 + (1 : Int32)) _ _ _ _ hf hP hD hS (lv_sub hl [2, 1, 0] rfl) hk
set_option maxHeartbeats 4000000 in
set_option maxRecDepth 100000 in
theorem kX4_copiesInAll {l : Launch} {D : va_G} {k : Nat → ClassId} (h0 h1 h2 : Nat) (z0 z1 z2 z3 z4 z5 z6 z7 z8 z9 z10 z11 z12 z13 : Value) (v_nodes : Int32) (v_letters : Int32) (v_tokens : Nat → Int32) (q : Int32) (hf : fX4_copiesInAll v_nodes v_letters v_tokens = some q) : KMi l yX4_copiesInAll cX4_copiesInAll 3 (some .int) ({ frames := 2, cells := 0, slots := 0, locals := 45 } : Room) D k [.ref h0] (wX4_copiesInAll k h0 h1 h2 z0 z1 z2 z3 z4 z5 z6 z7 z8 z9 z10 z11 z12 z13 v_nodes v_letters v_tokens) q (wX4_copiesInAll k h0 h1 h2 z0 z1 z2 z3 z4 z5 z6 z7 z8 z9 z10 z11 z12 z13 v_nodes v_letters v_tokens) := by
  refine kent_i (by decide) (Nat.le_of_ble_eq_true rfl) ?_
  intro p e s m below meth c A Q ls C hP hD hS hl hret
  obtain ⟨hx, hb, -⟩ := id C
  have hl : lv_has ls 3 [(0, .ref h0)] := hl
  unfold fX4_copiesInAll at hf
  generalize ([.ref h0] : List Value).toArray = args at *
  refine lv_iconst (v := (0 : Int32)) hx hb dX4_copiesInAll_0 (by decide) ?_
  refine lv_istore_n (lv' := [(1, .int (0 : Int32)), (0, .ref h0)]) hx hb dX4_copiesInAll_1 rfl hl (by decide) rfl (fun ls hl => ?_)
  refine lv_iconst (v := (0 : Int32)) hx hb dX4_copiesInAll_2 (by decide) ?_
  refine lv_istore_n (lv' := [(2, .int (0 : Int32)), (1, .int (0 : Int32)), (0, .ref h0)]) hx hb dX4_copiesInAll_3 rfl hl (by decide) rfl (fun ls hl => ?_)
  obtain ⟨ex4, hv, hf⟩ := bd_some hf
  refine wX4_copiesInAll_4 C h0 h1 h2 z0 z1 z2 z3 z4 z5 z6 z7 z8 z9 z10 z11 z12 z13 v_nodes v_letters v_tokens FU (0 : Int32) (0 : Int32) ex4 _ _ _ hv hP hD hS (lv_sub hl [2, 1, 0] rfl) (fun H locs ls hP hD hS hl => ?_)
  refine lv_iload_n hx hb dX4_copiesInAll_29 rfl (lv_at hl 0 rfl) ?_
  obtain rfl := Option.some.inj hf
  exact hret _ _ _ _ dX4_copiesInAll_30 hP hS
set_option maxHeartbeats 4000000 in
set_option maxRecDepth 100000 in
theorem wX4_tokensOf_4 {p : Program} {l : Launch} {e : Env} {s : State} {m : MethodId} {args : Array Value} {below : List Frame} {meth : Method} {c : Code} {A : Nat → Prop} {Q : State → Prop} {D : va_G} {k : Nat → ClassId} (C : Cx p s m args c cX4_tokensOf 4 RX4 A D k) (h0 h1 h2 : Nat) (z0 z1 z2 z3 z4 z5 z6 z7 z8 z9 z10 z11 z12 z13 z14 : Value) (v_nodes : Int32) (v_tokens : Nat → Int32) (y1 : Int32) : ∀ (f : Nat) (y2 : Int32) (y3 : Int32) (ex : (Int32)) (H : Heap) (locs : List Loc) (ls : Array Slot), fX4_tokensOf_4 v_nodes v_tokens y1 f y2 y3 = some ex → va_P D vwCl (wX4_tokensOf k h0 h1 h2 z0 z1 z2 z3 z4 z5 z6 z7 z8 z9 z10 z11 z12 z13 z14 v_nodes v_tokens) H → va_D A (wX4_tokensOf k h0 h1 h2 z0 z1 z2 z3 z4 z5 z6 z7 z8 z9 z10 z11 z12 z13 z14 v_nodes v_tokens) → va_S A s.heap H locs → lv_has ls 4 [(0, .ref h0), (1, .int y1), (2, .int y2), (3, .int y3)] → (∀ (H : Heap) (locs : List Loc) (ls : Array Slot), va_P D vwCl (wX4_tokensOf k h0 h1 h2 z0 z1 z2 z3 z4 z5 z6 z7 z8 z9 z10 z11 z12 z13 z14 v_nodes v_tokens) H → va_D A (wX4_tokensOf k h0 h1 h2 z0 z1 z2 z3 z4 z5 z6 z7 z8 z9 z10 z11 z12 z13 z14 v_nodes v_tokens) → va_S A s.heap H locs → lv_has ls 4 [(2, .int ex)] → W p l e ({ frames := 1, cells := 0, slots := 0, locals := 21 } : Room) s m args below meth c H locs 0 0 Q (F0 m 34 ls [])) → W p l e ({ frames := 1, cells := 0, slots := 0, locals := 21 } : Room) s m args below meth c H locs 0 0 Q (F0 m 4 ls []) := by
  obtain ⟨hx, hb, -⟩ := id C
  intro f
  induction f with
  | zero =>
    intro y2 y3 ex H locs ls hf hP hD hS hl hk
    cases hf
  | succ f ih =>
    intro y2 y3 ex H locs ls hf hP hD hS hl hk
    rw [fX4_tokensOf_4] at hf
    refine lv_iload_n hx hb dX4_tokensOf_4 rfl (lv_at hl 3 rfl) ?_
    refine lv_aload_n hx hb dX4_tokensOf_5 rfl (lv_at hl 0 rfl) ?_
    refine kget C inX4 hP 0 rfl rfl 0 (by decide) mw_129 rfl dX4_tokensOf_6 ?_
    refine kget C inX0 hP 1 rfl rfl 3 (by decide) mw_62 rfl dX4_tokensOf_9 ?_
    refine lv_icmp_ge (tgt := 34) hx hb dX4_tokensOf_12 (by decide) (fun hc => ?_) (fun hc => ?_)
    · rw [if_pos hc] at hf
      obtain rfl := Option.some.inj hf
      exact hk _ _ _ hP hD hS (lv_sub hl [2] rfl)
    · rw [if_neg hc] at hf
      refine lv_iload_n hx hb dX4_tokensOf_15 rfl (lv_at hl 2 rfl) ?_
      refine lv_aload_n hx hb dX4_tokensOf_16 rfl (lv_at hl 0 rfl) ?_
      refine kget C inX4 hP 0 rfl rfl 4 (by decide) mw_141 rfl dX4_tokensOf_17 ?_
      refine lv_iload_n hx hb dX4_tokensOf_20 rfl (lv_at hl 3 rfl) ?_
      refine lv_iload_n hx hb dX4_tokensOf_21 rfl (lv_at hl 1 rfl) ?_
      obtain ⟨q22, hq22, hf⟩ := bd_some hf
      refine kcSi C (kX4_place (l := l) (D := D) (k := k) y3 y1 q22 hq22) mt_X4_place mw_478 ⟨rfl, rfl, Nat.le_of_ble_eq_true rfl, Nat.le_of_ble_eq_true rfl⟩ hP hD hS [] rfl rfl [none, none, none] rfl rfl (w2 := (wX4_tokensOf k h0 h1 h2 z0 z1 z2 z3 z4 z5 z6 z7 z8 z9 z10 z11 z12 z13 z14 v_nodes v_tokens)) rfl rfl rfl hl.1 (rest := [.ref h2, .int y2]) (Nat.le_of_ble_eq_true rfl) rfl dX4_tokensOf_22 ⟨Nat.zero_le _, Nat.zero_le _⟩ (fun H locs hP hD hS => ?_)
      obtain ⟨hin, hf⟩ := gd_some hf
      refine kiald C hP 2 rfl hin dX4_tokensOf_25 (j := q22.toNatClampNeg) rfl ?_
      refine lv_iadd hx hb dX4_tokensOf_26 ?_
      refine lv_istore_n (lv' := [(2, .int (y2 + (v_tokens q22.toNatClampNeg))), (0, .ref h0), (1, .int y1), (3, .int y3)]) hx hb dX4_tokensOf_27 rfl hl (by decide) rfl (fun ls hl => ?_)
      refine lv_iinc (v := (y3 + (1 : Int32))) (lv' := [(3, .int (y3 + (1 : Int32))), (2, .int (y2 + (v_tokens q22.toNatClampNeg))), (0, .ref h0), (1, .int y1)]) hx hb dX4_tokensOf_28 hl (k := 3) rfl rfl (by decide) rfl (fun ls hl => ?_)
      refine lv_goto (tgt := 4) hx hb dX4_tokensOf_31 (by decide) ?_
      exact ih (y2 + (v_tokens q22.toNatClampNeg)) (y3 + (1 : Int32)) _ _ _ _ hf hP hD hS (lv_sub hl [2, 3, 1, 0] rfl) hk
set_option maxHeartbeats 4000000 in
set_option maxRecDepth 100000 in
theorem kX4_tokensOf {l : Launch} {D : va_G} {k : Nat → ClassId} (h0 h1 h2 : Nat) (z0 z1 z2 z3 z4 z5 z6 z7 z8 z9 z10 z11 z12 z13 z14 : Value) (v_nodes : Int32) (v_tokens : Nat → Int32) (x1 : Int32) (q : Int32) (hf : fX4_tokensOf v_nodes v_tokens x1 = some q) : KMi l yX4_tokensOf cX4_tokensOf 4 (some .int) ({ frames := 1, cells := 0, slots := 0, locals := 21 } : Room) D k [.ref h0, .int x1] (wX4_tokensOf k h0 h1 h2 z0 z1 z2 z3 z4 z5 z6 z7 z8 z9 z10 z11 z12 z13 z14 v_nodes v_tokens) q (wX4_tokensOf k h0 h1 h2 z0 z1 z2 z3 z4 z5 z6 z7 z8 z9 z10 z11 z12 z13 z14 v_nodes v_tokens) := by
  refine kent_i (by decide) (Nat.le_of_ble_eq_true rfl) ?_
  intro p e s m below meth c A Q ls C hP hD hS hl hret
  obtain ⟨hx, hb, -⟩ := id C
  have hl : lv_has ls 4 [(0, .ref h0), (1, .int x1)] := hl
  unfold fX4_tokensOf at hf
  generalize ([.ref h0, .int x1] : List Value).toArray = args at *
  refine lv_iconst (v := (0 : Int32)) hx hb dX4_tokensOf_0 (by decide) ?_
  refine lv_istore_n (lv' := [(2, .int (0 : Int32)), (0, .ref h0), (1, .int x1)]) hx hb dX4_tokensOf_1 rfl hl (by decide) rfl (fun ls hl => ?_)
  refine lv_iconst (v := (0 : Int32)) hx hb dX4_tokensOf_2 (by decide) ?_
  refine lv_istore_n (lv' := [(3, .int (0 : Int32)), (2, .int (0 : Int32)), (0, .ref h0), (1, .int x1)]) hx hb dX4_tokensOf_3 rfl hl (by decide) rfl (fun ls hl => ?_)
  obtain ⟨ex4, hv, hf⟩ := bd_some hf
  refine wX4_tokensOf_4 C h0 h1 h2 z0 z1 z2 z3 z4 z5 z6 z7 z8 z9 z10 z11 z12 z13 z14 v_nodes v_tokens x1 FU (0 : Int32) (0 : Int32) ex4 _ _ _ hv hP hD hS (lv_sub hl [2, 3, 1, 0] rfl) (fun H locs ls hP hD hS hl => ?_)
  refine lv_iload_n hx hb dX4_tokensOf_34 rfl (lv_at hl 0 rfl) ?_
  obtain rfl := Option.some.inj hf
  exact hret _ _ _ _ dX4_tokensOf_35 hP hS
set_option maxHeartbeats 4000000 in
set_option maxRecDepth 100000 in
theorem wX4_othersMet_4 {p : Program} {l : Launch} {e : Env} {s : State} {m : MethodId} {args : Array Value} {below : List Frame} {meth : Method} {c : Code} {A : Nat → Prop} {Q : State → Prop} {D : va_G} {k : Nat → ClassId} (C : Cx p s m args c cX4_othersMet 4 RX4 A D k) (h0 h1 h2 : Nat) (z0 z1 z2 z3 z4 z5 z6 z7 z8 z9 z10 z11 z12 z13 z14 : Value) (v_nodes : Int32) (v_lasts : Nat → Int32) (y1 : Int32) : ∀ (f : Nat) (y2 : Int32) (y3 : Int32) (ex : (Int32)) (H : Heap) (locs : List Loc) (ls : Array Slot), fX4_othersMet_4 v_nodes v_lasts y1 f y2 y3 = some ex → va_P D vwCl (wX4_othersMet k h0 h1 h2 z0 z1 z2 z3 z4 z5 z6 z7 z8 z9 z10 z11 z12 z13 z14 v_nodes v_lasts) H → va_D A (wX4_othersMet k h0 h1 h2 z0 z1 z2 z3 z4 z5 z6 z7 z8 z9 z10 z11 z12 z13 z14 v_nodes v_lasts) → va_S A s.heap H locs → lv_has ls 4 [(0, .ref h0), (1, .int y1), (2, .int y2), (3, .int y3)] → (∀ (H : Heap) (locs : List Loc) (ls : Array Slot), va_P D vwCl (wX4_othersMet k h0 h1 h2 z0 z1 z2 z3 z4 z5 z6 z7 z8 z9 z10 z11 z12 z13 z14 v_nodes v_lasts) H → va_D A (wX4_othersMet k h0 h1 h2 z0 z1 z2 z3 z4 z5 z6 z7 z8 z9 z10 z11 z12 z13 z14 v_nodes v_lasts) → va_S A s.heap H locs → lv_has ls 4 [(2, .int ex)] → W p l e ({ frames := 1, cells := 0, slots := 0, locals := 22 } : Room) s m args below meth c H locs 0 0 Q (F0 m 34 ls [])) → W p l e ({ frames := 1, cells := 0, slots := 0, locals := 22 } : Room) s m args below meth c H locs 0 0 Q (F0 m 4 ls []) := by
  obtain ⟨hx, hb, -⟩ := id C
  intro f
  induction f with
  | zero =>
    intro y2 y3 ex H locs ls hf hP hD hS hl hk
    cases hf
  | succ f ih =>
    intro y2 y3 ex H locs ls hf hP hD hS hl hk
    rw [fX4_othersMet_4] at hf
    refine lv_iload_n hx hb dX4_othersMet_4 rfl (lv_at hl 3 rfl) ?_
    refine lv_aload_n hx hb dX4_othersMet_5 rfl (lv_at hl 0 rfl) ?_
    refine kget C inX4 hP 0 rfl rfl 0 (by decide) mw_129 rfl dX4_othersMet_6 ?_
    refine kget C inX0 hP 1 rfl rfl 3 (by decide) mw_62 rfl dX4_othersMet_9 ?_
    refine lv_icmp_ge (tgt := 34) hx hb dX4_othersMet_12 (by decide) (fun hc => ?_) (fun hc => ?_)
    · rw [if_pos hc] at hf
      obtain rfl := Option.some.inj hf
      exact hk _ _ _ hP hD hS (lv_sub hl [2] rfl)
    · rw [if_neg hc] at hf
      refine lv_aload_n hx hb dX4_othersMet_15 rfl (lv_at hl 0 rfl) ?_
      refine lv_iload_n hx hb dX4_othersMet_16 rfl (lv_at hl 1 rfl) ?_
      refine lv_iload_n hx hb dX4_othersMet_17 rfl (lv_at hl 3 rfl) ?_
      obtain ⟨q18, hq18, hf⟩ := bd_some hf
      refine kcVi C (kX4_lastOf (l := l) (D := D) (k := k) h0 h2 (.ref h1) z0 z1 z2 z3 z4 z5 z6 z7 z8 z9 v_lasts y1 y3 q18 hq18) mt_X4_lastOf mw_444 ⟨rfl, rfl, Nat.le_of_ble_eq_true rfl, Nat.le_of_ble_eq_true rfl⟩ hP hD hS 0 rfl rfl rfl [0, 2] rfl rfl [some 0, none, some 1] rfl rfl (w2 := (wX4_othersMet k h0 h1 h2 z0 z1 z2 z3 z4 z5 z6 z7 z8 z9 z10 z11 z12 z13 z14 v_nodes v_lasts)) rfl rfl rfl hl.1 (rest := []) (Nat.le_of_ble_eq_true rfl) rfl dX4_othersMet_18 ⟨Nat.zero_le _, Nat.zero_le _⟩ (fun H locs hP hD hS => ?_)
      refine lv_iconst (v := (-1 : Int32)) hx hb dX4_othersMet_21 (by decide) ?_
      refine lv_icmp_eq (tgt := 28) hx hb dX4_othersMet_22 (by decide) (fun hc => ?_) (fun hc => ?_)
      · rw [if_pos hc] at hf
        refine lv_iinc (v := (y3 + (1 : Int32))) (lv' := [(3, .int (y3 + (1 : Int32))), (0, .ref h0), (1, .int y1), (2, .int y2)]) hx hb dX4_othersMet_28 hl (k := 3) rfl rfl (by decide) rfl (fun ls hl => ?_)
        refine lv_goto (tgt := 4) hx hb dX4_othersMet_31 (by decide) ?_
        exact ih y2 (y3 + (1 : Int32)) _ _ _ _ hf hP hD hS (lv_sub hl [1, 2, 3, 0] rfl) hk
      · rw [if_neg hc] at hf
        refine lv_iinc (v := (y2 + (1 : Int32))) (lv' := [(2, .int (y2 + (1 : Int32))), (0, .ref h0), (1, .int y1), (3, .int y3)]) hx hb dX4_othersMet_25 hl (k := 2) rfl rfl (by decide) rfl (fun ls hl => ?_)
        refine lv_iinc (v := (y3 + (1 : Int32))) (lv' := [(3, .int (y3 + (1 : Int32))), (2, .int (y2 + (1 : Int32))), (0, .ref h0), (1, .int y1)]) hx hb dX4_othersMet_28 hl (k := 3) rfl rfl (by decide) rfl (fun ls hl => ?_)
        refine lv_goto (tgt := 4) hx hb dX4_othersMet_31 (by decide) ?_
        exact ih (y2 + (1 : Int32)) (y3 + (1 : Int32)) _ _ _ _ hf hP hD hS (lv_sub hl [2, 3, 1, 0] rfl) hk
set_option maxHeartbeats 4000000 in
set_option maxRecDepth 100000 in
theorem kX4_othersMet {l : Launch} {D : va_G} {k : Nat → ClassId} (h0 h1 h2 : Nat) (z0 z1 z2 z3 z4 z5 z6 z7 z8 z9 z10 z11 z12 z13 z14 : Value) (v_nodes : Int32) (v_lasts : Nat → Int32) (x1 : Int32) (q : Int32) (hf : fX4_othersMet v_nodes v_lasts x1 = some q) : KMi l yX4_othersMet cX4_othersMet 4 (some .int) ({ frames := 1, cells := 0, slots := 0, locals := 22 } : Room) D k [.ref h0, .int x1] (wX4_othersMet k h0 h1 h2 z0 z1 z2 z3 z4 z5 z6 z7 z8 z9 z10 z11 z12 z13 z14 v_nodes v_lasts) q (wX4_othersMet k h0 h1 h2 z0 z1 z2 z3 z4 z5 z6 z7 z8 z9 z10 z11 z12 z13 z14 v_nodes v_lasts) := by
  refine kent_i (by decide) (Nat.le_of_ble_eq_true rfl) ?_
  intro p e s m below meth c A Q ls C hP hD hS hl hret
  obtain ⟨hx, hb, -⟩ := id C
  have hl : lv_has ls 4 [(0, .ref h0), (1, .int x1)] := hl
  unfold fX4_othersMet at hf
  generalize ([.ref h0, .int x1] : List Value).toArray = args at *
  refine lv_iconst (v := (0 : Int32)) hx hb dX4_othersMet_0 (by decide) ?_
  refine lv_istore_n (lv' := [(2, .int (0 : Int32)), (0, .ref h0), (1, .int x1)]) hx hb dX4_othersMet_1 rfl hl (by decide) rfl (fun ls hl => ?_)
  refine lv_iconst (v := (0 : Int32)) hx hb dX4_othersMet_2 (by decide) ?_
  refine lv_istore_n (lv' := [(3, .int (0 : Int32)), (2, .int (0 : Int32)), (0, .ref h0), (1, .int x1)]) hx hb dX4_othersMet_3 rfl hl (by decide) rfl (fun ls hl => ?_)
  obtain ⟨ex4, hv, hf⟩ := bd_some hf
  refine wX4_othersMet_4 C h0 h1 h2 z0 z1 z2 z3 z4 z5 z6 z7 z8 z9 z10 z11 z12 z13 z14 v_nodes v_lasts x1 FU (0 : Int32) (0 : Int32) ex4 _ _ _ hv hP hD hS (lv_sub hl [2, 3, 1, 0] rfl) (fun H locs ls hP hD hS hl => ?_)
  refine lv_iload_n hx hb dX4_othersMet_34 rfl (lv_at hl 0 rfl) ?_
  obtain rfl := Option.some.inj hf
  exact hret _ _ _ _ dX4_othersMet_35 hP hS
set_option maxHeartbeats 4000000 in
set_option maxRecDepth 100000 in
theorem kX4_stateOf {l : Launch} {D : va_G} {k : Nat → ClassId} (h0 h1 h2 h3 h4 : Nat) (z0 z1 z2 z3 z4 z5 z6 z7 z8 z9 z10 z11 : Value) (v_clock : Int32) (v_nodes : Int32) (v_letterRows : Nat → Int32) (v_tokens : Nat → Int32) (v_deliveredAt : Nat → Int32) (x1 : Int32) (q : Int32) (hf : fX4_stateOf v_clock v_nodes v_letterRows v_tokens v_deliveredAt x1 = some q) : KMi l yX4_stateOf cX4_stateOf 2 (some .int) ({ frames := 2, cells := 0, slots := 0, locals := 45 } : Room) D k [.ref h0, .int x1] (wX4_stateOf k h0 h1 h2 h3 h4 z0 z1 z2 z3 z4 z5 z6 z7 z8 z9 z10 z11 v_clock v_nodes v_letterRows v_tokens v_deliveredAt) q (wX4_stateOf k h0 h1 h2 h3 h4 z0 z1 z2 z3 z4 z5 z6 z7 z8 z9 z10 z11 v_clock v_nodes v_letterRows v_tokens v_deliveredAt) := by
  refine kent_i (by decide) (Nat.le_of_ble_eq_true rfl) ?_
  intro p e s m below meth c A Q ls C hP hD hS hl hret
  obtain ⟨hx, hb, -⟩ := id C
  have hl : lv_has ls 2 [(0, .ref h0), (1, .int x1)] := hl
  unfold fX4_stateOf at hf
  generalize ([.ref h0, .int x1] : List Value).toArray = args at *
  refine lv_aload_n hx hb dX4_stateOf_0 rfl (lv_at hl 0 rfl) ?_
  refine kget C inX4 hP 0 rfl rfl 0 (by decide) mw_129 rfl dX4_stateOf_1 ?_
  refine lv_iload_n hx hb dX4_stateOf_4 rfl (lv_at hl 1 rfl) ?_
  refine lv_iconst (v := (0 : Int32)) hx hb dX4_stateOf_5 (by decide) ?_
  obtain ⟨q6, hq6, hf⟩ := bd_some hf
  refine kcVi C (kX0_ofLetter (l := l) (D := D) (k := k) h1 h2 z8 z9 (.int v_nodes) z10 z11 v_letterRows x1 (0 : Int32) q6 hq6) mt_X0_ofLetter mw_432 ⟨rfl, rfl, Nat.le_of_ble_eq_true rfl, Nat.le_of_ble_eq_true rfl⟩ hP hD hS 1 rfl rfl rfl [1, 2] rfl rfl [none, some 0, some 1, none, none] rfl rfl (w2 := (wX4_stateOf k h0 h1 h2 h3 h4 z0 z1 z2 z3 z4 z5 z6 z7 z8 z9 z10 z11 v_clock v_nodes v_letterRows v_tokens v_deliveredAt)) rfl rfl rfl hl.1 (rest := []) (Nat.le_of_ble_eq_true rfl) rfl dX4_stateOf_6 ⟨Nat.zero_le _, Nat.zero_le _⟩ (fun H locs hP hD hS => ?_)
  refine lv_aload_n hx hb dX4_stateOf_9 rfl (lv_at hl 0 rfl) ?_
  refine kget C inX4 hP 0 rfl rfl 11 (by decide) mw_161 rfl dX4_stateOf_10 ?_
  refine lv_icmp_le (tgt := 18) hx hb dX4_stateOf_13 (by decide) (fun hc => ?_) (fun hc => ?_)
  · rw [if_pos hc] at hf
    refine lv_aload_n hx hb dX4_stateOf_18 rfl (lv_at hl 0 rfl) ?_
    refine kget C inX4 hP 0 rfl rfl 9 (by decide) mw_154 rfl dX4_stateOf_19 ?_
    refine lv_iload_n hx hb dX4_stateOf_22 rfl (lv_at hl 1 rfl) ?_
    obtain ⟨hin, hf⟩ := gd_some hf
    refine kiald C hP 4 rfl hin dX4_stateOf_23 (j := x1.toNatClampNeg) rfl ?_
    refine lv_bipush (v := (-4 : Int32)) hx hb dX4_stateOf_24 (by decide) ?_
    refine lv_icmp_eq (tgt := 31) hx hb dX4_stateOf_26 (by decide) (fun hc => ?_) (fun hc => ?_)
    · rw [if_pos hc] at hf
      refine lv_aload_n hx hb dX4_stateOf_31 rfl (lv_at hl 0 rfl) ?_
      refine lv_iload_n hx hb dX4_stateOf_32 rfl (lv_at hl 1 rfl) ?_
      obtain ⟨q33, hq33, hf⟩ := bd_some hf
      refine kcVi C (kX4_copiesOf (l := l) (D := D) (k := k) h0 h1 h3 z0 z1 z2 z3 z4 z5 z6 (.ref h4) z7 (.int v_clock) z8 z9 (.ref h2) z10 z11 v_nodes v_tokens x1 q33 hq33) mt_X4_copiesOf mw_469 ⟨rfl, rfl, Nat.le_of_ble_eq_true rfl, Nat.le_of_ble_eq_true rfl⟩ hP hD hS 0 rfl rfl rfl [0, 1, 3] rfl rfl [some 0, some 1, none, some 2, none] rfl rfl (w2 := (wX4_stateOf k h0 h1 h2 h3 h4 z0 z1 z2 z3 z4 z5 z6 z7 z8 z9 z10 z11 v_clock v_nodes v_letterRows v_tokens v_deliveredAt)) rfl rfl rfl hl.1 (rest := []) (Nat.le_of_ble_eq_true rfl) rfl dX4_stateOf_33 ⟨Nat.zero_le _, Nat.zero_le _⟩ (fun H locs hP hD hS => ?_)
      refine lv_if_le (tgt := 43) hx hb dX4_stateOf_36 (by decide) (fun hc => ?_) (fun hc => ?_)
      · rw [if_pos hc] at hf
        refine lv_iconst (v := (3 : Int32)) hx hb dX4_stateOf_43 (by decide) ?_
        obtain rfl := Option.some.inj hf
        exact hret _ _ _ _ dX4_stateOf_44 hP hS
      · rw [if_neg hc] at hf
        refine lv_iconst (v := (1 : Int32)) hx hb dX4_stateOf_39 (by decide) ?_
        refine lv_goto (tgt := 44) hx hb dX4_stateOf_40 (by decide) ?_
        obtain rfl := Option.some.inj hf
        exact hret _ _ _ _ dX4_stateOf_44 hP hS
    · rw [if_neg hc] at hf
      refine lv_iconst (v := (2 : Int32)) hx hb dX4_stateOf_29 (by decide) ?_
      obtain rfl := Option.some.inj hf
      exact hret _ _ _ _ dX4_stateOf_30 hP hS
  · rw [if_neg hc] at hf
    refine lv_iconst (v := (0 : Int32)) hx hb dX4_stateOf_16 (by decide) ?_
    obtain rfl := Option.some.inj hf
    exact hret _ _ _ _ dX4_stateOf_17 hP hS
set_option maxHeartbeats 4000000 in
set_option maxRecDepth 100000 in
theorem kJ6_bitCount_0f7a4 {l : Launch} {D : va_G} {k : Nat → ClassId} (x0 : Int32) (q : Int32) (hf : fJ6_bitCount_0f7a4 x0 = some q) : KMi l yJ6_bitCount_0f7a4 cJ6_bitCount_0f7a4 1 (some .int) ({ frames := 0, cells := 0, slots := 0, locals := 0 } : Room) D k [.int x0] (wJ6_bitCount_0f7a4 k) q (wJ6_bitCount_0f7a4 k) := by
  refine kent_i (by decide) (Nat.le_of_ble_eq_true rfl) ?_
  intro p e s m below meth c A Q ls C hP hD hS hl hret
  obtain ⟨hx, hb, -⟩ := id C
  have hl : lv_has ls 1 [(0, .int x0)] := hl
  unfold fJ6_bitCount_0f7a4 at hf
  generalize ([.int x0] : List Value).toArray = args at *
  refine lv_iload_n hx hb dJ6_bitCount_0f7a4_0 rfl (lv_at hl 0 rfl) ?_
  refine lv_iload_n hx hb dJ6_bitCount_0f7a4_1 rfl (lv_at hl 0 rfl) ?_
  refine lv_iconst (v := (1 : Int32)) hx hb dJ6_bitCount_0f7a4_2 (by decide) ?_
  refine lv_iushr (v := ((x0.toUInt32 >>> ((1 : Int32).toUInt32 &&& Int32.toUInt32 31)).toInt32)) hx hb dJ6_bitCount_0f7a4_3 rfl ?_
  refine lv_ldcw (v := (1431655765 : Int32)) hx hb C.2.2.2.1 (C.2.2.2.2.1 _ mw_437) dJ6_bitCount_0f7a4_4 ?_
  refine lv_iand hx hb dJ6_bitCount_0f7a4_7 ?_
  refine lv_isub hx hb dJ6_bitCount_0f7a4_8 ?_
  refine lv_istore_n (lv' := [(0, .int (x0 - (((x0.toUInt32 >>> ((1 : Int32).toUInt32 &&& Int32.toUInt32 31)).toInt32) &&& (1431655765 : Int32))))]) hx hb dJ6_bitCount_0f7a4_9 rfl hl (by decide) rfl (fun ls hl => ?_)
  refine lv_iload_n hx hb dJ6_bitCount_0f7a4_10 rfl (lv_at hl 0 rfl) ?_
  refine lv_ldcw (v := (858993459 : Int32)) hx hb C.2.2.2.1 (C.2.2.2.2.1 _ mw_438) dJ6_bitCount_0f7a4_11 ?_
  refine lv_iand hx hb dJ6_bitCount_0f7a4_14 ?_
  refine lv_iload_n hx hb dJ6_bitCount_0f7a4_15 rfl (lv_at hl 0 rfl) ?_
  refine lv_iconst (v := (2 : Int32)) hx hb dJ6_bitCount_0f7a4_16 (by decide) ?_
  refine lv_iushr (v := (((x0 - (((x0.toUInt32 >>> ((1 : Int32).toUInt32 &&& Int32.toUInt32 31)).toInt32) &&& (1431655765 : Int32))).toUInt32 >>> ((2 : Int32).toUInt32 &&& Int32.toUInt32 31)).toInt32)) hx hb dJ6_bitCount_0f7a4_17 rfl ?_
  refine lv_ldcw (v := (858993459 : Int32)) hx hb C.2.2.2.1 (C.2.2.2.2.1 _ mw_438) dJ6_bitCount_0f7a4_18 ?_
  refine lv_iand hx hb dJ6_bitCount_0f7a4_21 ?_
  refine lv_iadd hx hb dJ6_bitCount_0f7a4_22 ?_
  refine lv_istore_n (lv' := [(0, .int (((x0 - (((x0.toUInt32 >>> ((1 : Int32).toUInt32 &&& Int32.toUInt32 31)).toInt32) &&& (1431655765 : Int32))) &&& (858993459 : Int32)) + ((((x0 - (((x0.toUInt32 >>> ((1 : Int32).toUInt32 &&& Int32.toUInt32 31)).toInt32) &&& (1431655765 : Int32))).toUInt32 >>> ((2 : Int32).toUInt32 &&& Int32.toUInt32 31)).toInt32) &&& (858993459 : Int32))))]) hx hb dJ6_bitCount_0f7a4_23 rfl hl (by decide) rfl (fun ls hl => ?_)
  refine lv_iload_n hx hb dJ6_bitCount_0f7a4_24 rfl (lv_at hl 0 rfl) ?_
  refine lv_iload_n hx hb dJ6_bitCount_0f7a4_25 rfl (lv_at hl 0 rfl) ?_
  refine lv_iconst (v := (4 : Int32)) hx hb dJ6_bitCount_0f7a4_26 (by decide) ?_
  refine lv_iushr (v := (((((x0 - (((x0.toUInt32 >>> ((1 : Int32).toUInt32 &&& Int32.toUInt32 31)).toInt32) &&& (1431655765 : Int32))) &&& (858993459 : Int32)) + ((((x0 - (((x0.toUInt32 >>> ((1 : Int32).toUInt32 &&& Int32.toUInt32 31)).toInt32) &&& (1431655765 : Int32))).toUInt32 >>> ((2 : Int32).toUInt32 &&& Int32.toUInt32 31)).toInt32) &&& (858993459 : Int32))).toUInt32 >>> ((4 : Int32).toUInt32 &&& Int32.toUInt32 31)).toInt32)) hx hb dJ6_bitCount_0f7a4_27 rfl ?_
  refine lv_iadd hx hb dJ6_bitCount_0f7a4_28 ?_
  refine lv_ldcw (v := (252645135 : Int32)) hx hb C.2.2.2.1 (C.2.2.2.2.1 _ mw_439) dJ6_bitCount_0f7a4_29 ?_
  refine lv_iand hx hb dJ6_bitCount_0f7a4_32 ?_
  refine lv_istore_n (lv' := [(0, .int (((((x0 - (((x0.toUInt32 >>> ((1 : Int32).toUInt32 &&& Int32.toUInt32 31)).toInt32) &&& (1431655765 : Int32))) &&& (858993459 : Int32)) + ((((x0 - (((x0.toUInt32 >>> ((1 : Int32).toUInt32 &&& Int32.toUInt32 31)).toInt32) &&& (1431655765 : Int32))).toUInt32 >>> ((2 : Int32).toUInt32 &&& Int32.toUInt32 31)).toInt32) &&& (858993459 : Int32))) + (((((x0 - (((x0.toUInt32 >>> ((1 : Int32).toUInt32 &&& Int32.toUInt32 31)).toInt32) &&& (1431655765 : Int32))) &&& (858993459 : Int32)) + ((((x0 - (((x0.toUInt32 >>> ((1 : Int32).toUInt32 &&& Int32.toUInt32 31)).toInt32) &&& (1431655765 : Int32))).toUInt32 >>> ((2 : Int32).toUInt32 &&& Int32.toUInt32 31)).toInt32) &&& (858993459 : Int32))).toUInt32 >>> ((4 : Int32).toUInt32 &&& Int32.toUInt32 31)).toInt32)) &&& (252645135 : Int32)))]) hx hb dJ6_bitCount_0f7a4_33 rfl hl (by decide) rfl (fun ls hl => ?_)
  refine lv_iload_n hx hb dJ6_bitCount_0f7a4_34 rfl (lv_at hl 0 rfl) ?_
  refine lv_iload_n hx hb dJ6_bitCount_0f7a4_35 rfl (lv_at hl 0 rfl) ?_
  refine lv_bipush (v := (8 : Int32)) hx hb dJ6_bitCount_0f7a4_36 (by decide) ?_
  refine lv_iushr (v := (((((((x0 - (((x0.toUInt32 >>> ((1 : Int32).toUInt32 &&& Int32.toUInt32 31)).toInt32) &&& (1431655765 : Int32))) &&& (858993459 : Int32)) + ((((x0 - (((x0.toUInt32 >>> ((1 : Int32).toUInt32 &&& Int32.toUInt32 31)).toInt32) &&& (1431655765 : Int32))).toUInt32 >>> ((2 : Int32).toUInt32 &&& Int32.toUInt32 31)).toInt32) &&& (858993459 : Int32))) + (((((x0 - (((x0.toUInt32 >>> ((1 : Int32).toUInt32 &&& Int32.toUInt32 31)).toInt32) &&& (1431655765 : Int32))) &&& (858993459 : Int32)) + ((((x0 - (((x0.toUInt32 >>> ((1 : Int32).toUInt32 &&& Int32.toUInt32 31)).toInt32) &&& (1431655765 : Int32))).toUInt32 >>> ((2 : Int32).toUInt32 &&& Int32.toUInt32 31)).toInt32) &&& (858993459 : Int32))).toUInt32 >>> ((4 : Int32).toUInt32 &&& Int32.toUInt32 31)).toInt32)) &&& (252645135 : Int32)).toUInt32 >>> ((8 : Int32).toUInt32 &&& Int32.toUInt32 31)).toInt32)) hx hb dJ6_bitCount_0f7a4_38 rfl ?_
  refine lv_iadd hx hb dJ6_bitCount_0f7a4_39 ?_
  refine lv_istore_n (lv' := [(0, .int ((((((x0 - (((x0.toUInt32 >>> ((1 : Int32).toUInt32 &&& Int32.toUInt32 31)).toInt32) &&& (1431655765 : Int32))) &&& (858993459 : Int32)) + ((((x0 - (((x0.toUInt32 >>> ((1 : Int32).toUInt32 &&& Int32.toUInt32 31)).toInt32) &&& (1431655765 : Int32))).toUInt32 >>> ((2 : Int32).toUInt32 &&& Int32.toUInt32 31)).toInt32) &&& (858993459 : Int32))) + (((((x0 - (((x0.toUInt32 >>> ((1 : Int32).toUInt32 &&& Int32.toUInt32 31)).toInt32) &&& (1431655765 : Int32))) &&& (858993459 : Int32)) + ((((x0 - (((x0.toUInt32 >>> ((1 : Int32).toUInt32 &&& Int32.toUInt32 31)).toInt32) &&& (1431655765 : Int32))).toUInt32 >>> ((2 : Int32).toUInt32 &&& Int32.toUInt32 31)).toInt32) &&& (858993459 : Int32))).toUInt32 >>> ((4 : Int32).toUInt32 &&& Int32.toUInt32 31)).toInt32)) &&& (252645135 : Int32)) + (((((((x0 - (((x0.toUInt32 >>> ((1 : Int32).toUInt32 &&& Int32.toUInt32 31)).toInt32) &&& (1431655765 : Int32))) &&& (858993459 : Int32)) + ((((x0 - (((x0.toUInt32 >>> ((1 : Int32).toUInt32 &&& Int32.toUInt32 31)).toInt32) &&& (1431655765 : Int32))).toUInt32 >>> ((2 : Int32).toUInt32 &&& Int32.toUInt32 31)).toInt32) &&& (858993459 : Int32))) + (((((x0 - (((x0.toUInt32 >>> ((1 : Int32).toUInt32 &&& Int32.toUInt32 31)).toInt32) &&& (1431655765 : Int32))) &&& (858993459 : Int32)) + ((((x0 - (((x0.toUInt32 >>> ((1 : Int32).toUInt32 &&& Int32.toUInt32 31)).toInt32) &&& (1431655765 : Int32))).toUInt32 >>> ((2 : Int32).toUInt32 &&& Int32.toUInt32 31)).toInt32) &&& (858993459 : Int32))).toUInt32 >>> ((4 : Int32).toUInt32 &&& Int32.toUInt32 31)).toInt32)) &&& (252645135 : Int32)).toUInt32 >>> ((8 : Int32).toUInt32 &&& Int32.toUInt32 31)).toInt32)))]) hx hb dJ6_bitCount_0f7a4_40 rfl hl (by decide) rfl (fun ls hl => ?_)
  refine lv_iload_n hx hb dJ6_bitCount_0f7a4_41 rfl (lv_at hl 0 rfl) ?_
  refine lv_iload_n hx hb dJ6_bitCount_0f7a4_42 rfl (lv_at hl 0 rfl) ?_
  refine lv_bipush (v := (16 : Int32)) hx hb dJ6_bitCount_0f7a4_43 (by decide) ?_
  refine lv_iushr (v := ((((((((x0 - (((x0.toUInt32 >>> ((1 : Int32).toUInt32 &&& Int32.toUInt32 31)).toInt32) &&& (1431655765 : Int32))) &&& (858993459 : Int32)) + ((((x0 - (((x0.toUInt32 >>> ((1 : Int32).toUInt32 &&& Int32.toUInt32 31)).toInt32) &&& (1431655765 : Int32))).toUInt32 >>> ((2 : Int32).toUInt32 &&& Int32.toUInt32 31)).toInt32) &&& (858993459 : Int32))) + (((((x0 - (((x0.toUInt32 >>> ((1 : Int32).toUInt32 &&& Int32.toUInt32 31)).toInt32) &&& (1431655765 : Int32))) &&& (858993459 : Int32)) + ((((x0 - (((x0.toUInt32 >>> ((1 : Int32).toUInt32 &&& Int32.toUInt32 31)).toInt32) &&& (1431655765 : Int32))).toUInt32 >>> ((2 : Int32).toUInt32 &&& Int32.toUInt32 31)).toInt32) &&& (858993459 : Int32))).toUInt32 >>> ((4 : Int32).toUInt32 &&& Int32.toUInt32 31)).toInt32)) &&& (252645135 : Int32)) + (((((((x0 - (((x0.toUInt32 >>> ((1 : Int32).toUInt32 &&& Int32.toUInt32 31)).toInt32) &&& (1431655765 : Int32))) &&& (858993459 : Int32)) + ((((x0 - (((x0.toUInt32 >>> ((1 : Int32).toUInt32 &&& Int32.toUInt32 31)).toInt32) &&& (1431655765 : Int32))).toUInt32 >>> ((2 : Int32).toUInt32 &&& Int32.toUInt32 31)).toInt32) &&& (858993459 : Int32))) + (((((x0 - (((x0.toUInt32 >>> ((1 : Int32).toUInt32 &&& Int32.toUInt32 31)).toInt32) &&& (1431655765 : Int32))) &&& (858993459 : Int32)) + ((((x0 - (((x0.toUInt32 >>> ((1 : Int32).toUInt32 &&& Int32.toUInt32 31)).toInt32) &&& (1431655765 : Int32))).toUInt32 >>> ((2 : Int32).toUInt32 &&& Int32.toUInt32 31)).toInt32) &&& (858993459 : Int32))).toUInt32 >>> ((4 : Int32).toUInt32 &&& Int32.toUInt32 31)).toInt32)) &&& (252645135 : Int32)).toUInt32 >>> ((8 : Int32).toUInt32 &&& Int32.toUInt32 31)).toInt32)).toUInt32 >>> ((16 : Int32).toUInt32 &&& Int32.toUInt32 31)).toInt32)) hx hb dJ6_bitCount_0f7a4_45 rfl ?_
  refine lv_iadd hx hb dJ6_bitCount_0f7a4_46 ?_
  refine lv_istore_n (lv' := [(0, .int (((((((x0 - (((x0.toUInt32 >>> ((1 : Int32).toUInt32 &&& Int32.toUInt32 31)).toInt32) &&& (1431655765 : Int32))) &&& (858993459 : Int32)) + ((((x0 - (((x0.toUInt32 >>> ((1 : Int32).toUInt32 &&& Int32.toUInt32 31)).toInt32) &&& (1431655765 : Int32))).toUInt32 >>> ((2 : Int32).toUInt32 &&& Int32.toUInt32 31)).toInt32) &&& (858993459 : Int32))) + (((((x0 - (((x0.toUInt32 >>> ((1 : Int32).toUInt32 &&& Int32.toUInt32 31)).toInt32) &&& (1431655765 : Int32))) &&& (858993459 : Int32)) + ((((x0 - (((x0.toUInt32 >>> ((1 : Int32).toUInt32 &&& Int32.toUInt32 31)).toInt32) &&& (1431655765 : Int32))).toUInt32 >>> ((2 : Int32).toUInt32 &&& Int32.toUInt32 31)).toInt32) &&& (858993459 : Int32))).toUInt32 >>> ((4 : Int32).toUInt32 &&& Int32.toUInt32 31)).toInt32)) &&& (252645135 : Int32)) + (((((((x0 - (((x0.toUInt32 >>> ((1 : Int32).toUInt32 &&& Int32.toUInt32 31)).toInt32) &&& (1431655765 : Int32))) &&& (858993459 : Int32)) + ((((x0 - (((x0.toUInt32 >>> ((1 : Int32).toUInt32 &&& Int32.toUInt32 31)).toInt32) &&& (1431655765 : Int32))).toUInt32 >>> ((2 : Int32).toUInt32 &&& Int32.toUInt32 31)).toInt32) &&& (858993459 : Int32))) + (((((x0 - (((x0.toUInt32 >>> ((1 : Int32).toUInt32 &&& Int32.toUInt32 31)).toInt32) &&& (1431655765 : Int32))) &&& (858993459 : Int32)) + ((((x0 - (((x0.toUInt32 >>> ((1 : Int32).toUInt32 &&& Int32.toUInt32 31)).toInt32) &&& (1431655765 : Int32))).toUInt32 >>> ((2 : Int32).toUInt32 &&& Int32.toUInt32 31)).toInt32) &&& (858993459 : Int32))).toUInt32 >>> ((4 : Int32).toUInt32 &&& Int32.toUInt32 31)).toInt32)) &&& (252645135 : Int32)).toUInt32 >>> ((8 : Int32).toUInt32 &&& Int32.toUInt32 31)).toInt32)) + ((((((((x0 - (((x0.toUInt32 >>> ((1 : Int32).toUInt32 &&& Int32.toUInt32 31)).toInt32) &&& (1431655765 : Int32))) &&& (858993459 : Int32)) + ((((x0 - (((x0.toUInt32 >>> ((1 : Int32).toUInt32 &&& Int32.toUInt32 31)).toInt32) &&& (1431655765 : Int32))).toUInt32 >>> ((2 : Int32).toUInt32 &&& Int32.toUInt32 31)).toInt32) &&& (858993459 : Int32))) + (((((x0 - (((x0.toUInt32 >>> ((1 : Int32).toUInt32 &&& Int32.toUInt32 31)).toInt32) &&& (1431655765 : Int32))) &&& (858993459 : Int32)) + ((((x0 - (((x0.toUInt32 >>> ((1 : Int32).toUInt32 &&& Int32.toUInt32 31)).toInt32) &&& (1431655765 : Int32))).toUInt32 >>> ((2 : Int32).toUInt32 &&& Int32.toUInt32 31)).toInt32) &&& (858993459 : Int32))).toUInt32 >>> ((4 : Int32).toUInt32 &&& Int32.toUInt32 31)).toInt32)) &&& (252645135 : Int32)) + (((((((x0 - (((x0.toUInt32 >>> ((1 : Int32).toUInt32 &&& Int32.toUInt32 31)).toInt32) &&& (1431655765 : Int32))) &&& (858993459 : Int32)) + ((((x0 - (((x0.toUInt32 >>> ((1 : Int32).toUInt32 &&& Int32.toUInt32 31)).toInt32) &&& (1431655765 : Int32))).toUInt32 >>> ((2 : Int32).toUInt32 &&& Int32.toUInt32 31)).toInt32) &&& (858993459 : Int32))) + (((((x0 - (((x0.toUInt32 >>> ((1 : Int32).toUInt32 &&& Int32.toUInt32 31)).toInt32) &&& (1431655765 : Int32))) &&& (858993459 : Int32)) + ((((x0 - (((x0.toUInt32 >>> ((1 : Int32).toUInt32 &&& Int32.toUInt32 31)).toInt32) &&& (1431655765 : Int32))).toUInt32 >>> ((2 : Int32).toUInt32 &&& Int32.toUInt32 31)).toInt32) &&& (858993459 : Int32))).toUInt32 >>> ((4 : Int32).toUInt32 &&& Int32.toUInt32 31)).toInt32)) &&& (252645135 : Int32)).toUInt32 >>> ((8 : Int32).toUInt32 &&& Int32.toUInt32 31)).toInt32)).toUInt32 >>> ((16 : Int32).toUInt32 &&& Int32.toUInt32 31)).toInt32)))]) hx hb dJ6_bitCount_0f7a4_47 rfl hl (by decide) rfl (fun ls hl => ?_)
  refine lv_iload_n hx hb dJ6_bitCount_0f7a4_48 rfl (lv_at hl 0 rfl) ?_
  refine lv_bipush (v := (63 : Int32)) hx hb dJ6_bitCount_0f7a4_49 (by decide) ?_
  refine lv_iand hx hb dJ6_bitCount_0f7a4_51 ?_
  obtain rfl := Option.some.inj hf
  exact hret _ _ _ _ dJ6_bitCount_0f7a4_52 hP hS
