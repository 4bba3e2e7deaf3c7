set_option maxHeartbeats 4000000 in
set_option maxRecDepth 100000 in
theorem kX6_in {l : Launch} {D : va_G} {k : Nat → ClassId} (x0 : Int64) (x2 : Int64) (x4 : Int64) (q : Int32) (hf : fX6_in x0 x2 x4 = some q) : KMi l yX6_in cX6_in 6 (some .boolean) ({ frames := 0, cells := 0, slots := 0, locals := 0 } : Room) D k [.long x0, .long x2, .long x4] (wX6_in k) q (wX6_in k) := by
  refine kent_z (by decide) (Nat.le_of_ble_eq_true rfl) ?_
  intro p e s m below meth c A Q ls C hP hD hS hl hret
  obtain ⟨hx, hb, -⟩ := id C
  have hl : lv_has ls 6 [(0, .long x0), (2, .long x2), (4, .long x4)] := hl
  unfold fX6_in at hf
  generalize ([.long x0, .long x2, .long x4] : List Value).toArray = args at *
  refine lv_lload_n hx hb dX6_in_0 rfl (lv_at hl 0 rfl) ?_
  refine lv_lload_n hx hb dX6_in_1 rfl (lv_at hl 1 rfl) ?_
  refine W.lcmp hx hb dX6_in_2 ?_
  refine lv_if_lt (tgt := 17) hx hb dX6_in_3 (by decide) (fun hc => ?_) (fun hc => ?_)
  · rw [if_pos hc] at hf
    refine lv_iconst (v := (0 : Int32)) hx hb dX6_in_17 (by decide) ?_
    obtain rfl := Option.some.inj hf
    exact hret _ _ _ _ dX6_in_18 (by decide) hP hS
  · rw [if_neg hc] at hf
    refine lv_lload_n hx hb dX6_in_6 rfl (lv_at hl 0 rfl) ?_
    refine lv_lload hx hb dX6_in_7 (lv_at hl 2 rfl) ?_
    refine W.lcmp hx hb dX6_in_9 ?_
    refine lv_if_gt (tgt := 17) hx hb dX6_in_10 (by decide) (fun hc => ?_) (fun hc => ?_)
    · rw [if_pos hc] at hf
      refine lv_iconst (v := (0 : Int32)) hx hb dX6_in_17 (by decide) ?_
      obtain rfl := Option.some.inj hf
      exact hret _ _ _ _ dX6_in_18 (by decide) hP hS
    · rw [if_neg hc] at hf
      refine lv_iconst (v := (1 : Int32)) hx hb dX6_in_13 (by decide) ?_
      refine lv_goto (tgt := 18) hx hb dX6_in_14 (by decide) ?_
      obtain rfl := Option.some.inj hf
      exact hret _ _ _ _ dX6_in_18 (by decide) hP hS
set_option maxHeartbeats 4000000 in
set_option maxRecDepth 100000 in
theorem kX6_feed {l : Launch} {D : va_G} {k : Nat → ClassId} (h0 h1 : Nat) (z0 z1 z2 z3 z4 z5 z6 z7 z8 z9 z10 z11 z12 z13 z14 z15 z16 z17 : Value) (v_taped : Int32) (v_tape : Nat → Int32) (x1 : Int32) (q : Int32 × Int32 × (Nat → Int32)) (hf : fX6_feed v_taped v_tape x1 = some q) : KMi l yX6_feed cX6_feed 2 (some .int) ({ frames := 1, cells := 0, slots := 0, locals := 25 } : Room) D k [.ref h0, .int x1] (wX6_feed k h0 h1 z0 z1 z2 z3 z4 z5 z6 z7 z8 z9 z10 z11 z12 z13 z14 z15 z16 z17 v_taped v_tape) q.1 (wX6_feed k h0 h1 z0 z1 z2 z3 z4 z5 z6 z7 z8 z9 z10 z11 z12 z13 z14 z15 z16 z17 q.2.1 q.2.2) := by
  refine kent_i (by decide) (Nat.le_of_ble_eq_true rfl) ?_
  intro p e s m below meth c A Q ls C hP hD hS hl hret
  obtain ⟨hx, hb, -⟩ := id C
  have hl : lv_has ls 2 [(0, .ref h0), (1, .int x1)] := hl
  unfold fX6_feed at hf
  generalize ([.ref h0, .int x1] : List Value).toArray = args at *
  refine lv_iload_n hx hb dX6_feed_0 rfl (lv_at hl 1 rfl) ?_
  refine lv_i2l (v := (x1.toInt64)) hx hb dX6_feed_1 rfl ?_
  refine lv_lconst (v := (0 : Int64)) hx hb dX6_feed_2 (by decide) ?_
  refine lv_ldc2 (v := (127 : Int64)) hx hb C.2.2.2.1 (C.2.2.2.2.1 _ mw_752) dX6_feed_3 ?_
  obtain ⟨q6, hq6, hf⟩ := bd_some hf
  refine kcSi C (kX6_in (l := l) (D := D) (k := k) (x1.toInt64) (0 : Int64) (127 : Int64) q6 hq6) mt_X6_in mw_753 ⟨rfl, rfl, Nat.le_of_ble_eq_true rfl, Nat.le_of_ble_eq_true rfl⟩ hP hD hS [] rfl rfl [none, none] rfl rfl (w2 := (wX6_feed k h0 h1 z0 z1 z2 z3 z4 z5 z6 z7 z8 z9 z10 z11 z12 z13 z14 z15 z16 z17 v_taped v_tape)) rfl rfl rfl hl.1 (rest := []) (Nat.le_of_ble_eq_true rfl) rfl dX6_feed_6 ⟨Nat.zero_le _, Nat.zero_le _⟩ (fun H locs hP hD hS => ?_)
  refine lv_if_ne (tgt := 14) hx hb dX6_feed_9 (by decide) (fun hc => ?_) (fun hc => ?_)
  · rw [if_neg hc] at hf
    refine lv_aload_n hx hb dX6_feed_14 rfl (lv_at hl 0 rfl) ?_
    refine kget C inX6 hP 0 rfl rfl 5 (by decide) mw_692 rfl dX6_feed_15 ?_
    refine lv_sipush (v := (300 : Int32)) hx hb dX6_feed_18 (by decide) ?_
    refine lv_icmp_ne (tgt := 27) hx hb dX6_feed_21 (by decide) (fun hc => ?_) (fun hc => ?_)
    · rw [if_neg hc] at hf
      refine lv_aload_n hx hb dX6_feed_27 rfl (lv_at hl 0 rfl) ?_
      refine kget C inX6 hP 0 rfl rfl 4 (by decide) mw_691 rfl dX6_feed_28 ?_
      refine lv_aload_n hx hb dX6_feed_31 rfl (lv_at hl 0 rfl) ?_
      refine kget C inX6 hP 0 rfl rfl 5 (by decide) mw_692 rfl dX6_feed_32 ?_
      refine lv_iload_n hx hb dX6_feed_35 rfl (lv_at hl 1 rfl) ?_
      obtain ⟨hin, hf⟩ := gd_some hf
      obtain ⟨v_tape_36, hn36, hf⟩ := nm_some hf
      refine kiast C hP hD hS 1 rfl hin dX6_feed_36 (j := v_taped.toNatClampNeg) rfl (g := v_tape_36) hn36 (w2 := (wX6_feed k h0 h1 z0 z1 z2 z3 z4 z5 z6 z7 z8 z9 z10 z11 z12 z13 z14 z15 z16 z17 v_taped v_tape_36)) rfl (fun H locs hP hD hS => ?_)
      refine lv_aload_n hx hb dX6_feed_37 rfl (lv_at hl 0 rfl) ?_
      refine lv_dup hx hb dX6_feed_38 rfl ?_
      refine kget C inX6 hP 0 rfl rfl 5 (by decide) mw_692 rfl dX6_feed_39 ?_
      refine lv_iconst (v := (1 : Int32)) hx hb dX6_feed_42 (by decide) ?_
      refine lv_iadd hx hb dX6_feed_43 ?_
      refine kput C inX6 tyX6_ok nmX6 hP hD hS 0 rfl rfl 5 (by decide) mw_692 rfl rfl rfl (Nat.le_of_ble_eq_true rfl) dX6_feed_44 (w2 := (wX6_feed k h0 h1 z0 z1 z2 z3 z4 z5 z6 z7 z8 z9 z10 z11 z12 z13 z14 z15 z16 z17 (v_taped + (1 : Int32)) v_tape_36)) rfl (fun H locs hP hD hS => ?_)
      refine lv_aload_n hx hb dX6_feed_47 rfl (lv_at hl 0 rfl) ?_
      refine kget C inX6 hP 0 rfl rfl 5 (by decide) mw_692 rfl dX6_feed_48 ?_
      obtain rfl := Option.some.inj hf
      exact hret _ _ _ _ dX6_feed_51 hP hS
    · rw [if_pos hc] at hf
      refine lv_bipush (v := (-3 : Int32)) hx hb dX6_feed_24 (by decide) ?_
      obtain rfl := Option.some.inj hf
      exact hret _ _ _ _ dX6_feed_26 hP hS
  · rw [if_pos hc] at hf
    refine lv_iconst (v := (-1 : Int32)) hx hb dX6_feed_12 (by decide) ?_
    obtain rfl := Option.some.inj hf
    exact hret _ _ _ _ dX6_feed_13 hP hS
set_option maxHeartbeats 4000000 in
set_option maxRecDepth 100000 in
theorem kX6_end {l : Launch} {D : va_G} {k : Nat → ClassId} (h0 : Nat) (z0 z1 z2 z3 z4 z5 z6 z7 z8 z9 z10 z11 z12 z13 z14 z15 z16 z17 z18 : Value) (v_taped : Int32) (x1 : Int32) (q : Int32 × Int32) (hf : fX6_end v_taped x1 = some q) : KMi l yX6_end cX6_end 3 (some .int) ({ frames := 1, cells := 0, slots := 0, locals := 25 } : Room) D k [.ref h0, .int x1] (wX6_end k h0 z0 z1 z2 z3 z4 z5 z6 z7 z8 z9 z10 z11 z12 z13 z14 z15 z16 z17 z18 v_taped) q.1 (wX6_end k h0 z0 z1 z2 z3 z4 z5 z6 z7 z8 z9 z10 z11 z12 z13 z14 z15 z16 z17 z18 q.2) := by
  refine kent_i (by decide) (Nat.le_of_ble_eq_true rfl) ?_
  intro p e s m below meth c A Q ls C hP hD hS hl hret
  obtain ⟨hx, hb, -⟩ := id C
  have hl : lv_has ls 3 [(0, .ref h0), (1, .int x1)] := hl
  unfold fX6_end at hf
  generalize ([.ref h0, .int x1] : List Value).toArray = args at *
  refine lv_iload_n hx hb dX6_end_0 rfl (lv_at hl 1 rfl) ?_
  refine lv_i2l (v := (x1.toInt64)) hx hb dX6_end_1 rfl ?_
  refine lv_lconst (v := (0 : Int64)) hx hb dX6_end_2 (by decide) ?_
  refine lv_aload_n hx hb dX6_end_3 rfl (lv_at hl 0 rfl) ?_
  refine kget C inX6 hP 0 rfl rfl 5 (by decide) mw_692 rfl dX6_end_4 ?_
  refine lv_i2l (v := (v_taped.toInt64)) hx hb dX6_end_7 rfl ?_
  obtain ⟨q8, hq8, hf⟩ := bd_some hf
  refine kcSi C (kX6_in (l := l) (D := D) (k := k) (x1.toInt64) (0 : Int64) (v_taped.toInt64) q8 hq8) mt_X6_in mw_753 ⟨rfl, rfl, Nat.le_of_ble_eq_true rfl, Nat.le_of_ble_eq_true rfl⟩ hP hD hS [] rfl rfl [none] rfl rfl (w2 := (wX6_end k h0 z0 z1 z2 z3 z4 z5 z6 z7 z8 z9 z10 z11 z12 z13 z14 z15 z16 z17 z18 v_taped)) rfl rfl rfl hl.1 (rest := []) (Nat.le_of_ble_eq_true rfl) rfl dX6_end_8 ⟨Nat.zero_le _, Nat.zero_le _⟩ (fun H locs hP hD hS => ?_)
  refine lv_if_ne (tgt := 16) hx hb dX6_end_11 (by decide) (fun hc => ?_) (fun hc => ?_)
  · rw [if_neg hc] at hf
    refine lv_aload_n hx hb dX6_end_16 rfl (lv_at hl 0 rfl) ?_
    refine kget C inX6 hP 0 rfl rfl 5 (by decide) mw_692 rfl dX6_end_17 ?_
    refine lv_istore_n (lv' := [(2, .int v_taped), (0, .ref h0), (1, .int x1)]) hx hb dX6_end_20 rfl hl (by decide) rfl (fun ls hl => ?_)
    refine lv_aload_n hx hb dX6_end_21 rfl (lv_at hl 1 rfl) ?_
    refine lv_iload_n hx hb dX6_end_22 rfl (lv_at hl 2 rfl) ?_
    refine kput C inX6 tyX6_ok nmX6 hP hD hS 0 rfl rfl 5 (by decide) mw_692 rfl rfl rfl (Nat.le_of_ble_eq_true rfl) dX6_end_23 (w2 := (wX6_end k h0 z0 z1 z2 z3 z4 z5 z6 z7 z8 z9 z10 z11 z12 z13 z14 z15 z16 z17 z18 x1)) rfl (fun H locs hP hD hS => ?_)
    refine lv_iload_n hx hb dX6_end_26 rfl (lv_at hl 0 rfl) ?_
    obtain rfl := Option.some.inj hf
    exact hret _ _ _ _ dX6_end_27 hP hS
  · rw [if_pos hc] at hf
    refine lv_iconst (v := (-1 : Int32)) hx hb dX6_end_14 (by decide) ?_
    obtain rfl := Option.some.inj hf
    exact hret _ _ _ _ dX6_end_15 hP hS
set_option maxHeartbeats 4000000 in
set_option maxRecDepth 100000 in
theorem kX6_byteAt {l : Launch} {D : va_G} {k : Nat → ClassId} (h0 h1 : Nat) (z0 z1 z2 z3 z4 z5 z6 z7 z8 z9 z10 z11 z12 z13 z14 z15 z16 z17 : Value) (v_taped : Int32) (v_tape : Nat → Int32) (x1 : Int32) (q : Int32) (hf : fX6_byteAt v_taped v_tape x1 = some q) : KMi l yX6_byteAt cX6_byteAt 2 (some .int) ({ frames := 0, cells := 0, slots := 0, locals := 0 } : Room) D k [.ref h0, .int x1] (wX6_byteAt k h0 h1 z0 z1 z2 z3 z4 z5 z6 z7 z8 z9 z10 z11 z12 z13 z14 z15 z16 z17 v_taped v_tape) q (wX6_byteAt k h0 h1 z0 z1 z2 z3 z4 z5 z6 z7 z8 z9 z10 z11 z12 z13 z14 z15 z16 z17 v_taped v_tape) := by
  refine kent_i (by decide) (Nat.le_of_ble_eq_true rfl) ?_
  intro p e s m below meth c A Q ls C hP hD hS hl hret
  obtain ⟨hx, hb, -⟩ := id C
  have hl : lv_has ls 2 [(0, .ref h0), (1, .int x1)] := hl
  unfold fX6_byteAt at hf
  generalize ([.ref h0, .int x1] : List Value).toArray = args at *
  refine lv_iload_n hx hb dX6_byteAt_0 rfl (lv_at hl 1 rfl) ?_
  refine lv_aload_n hx hb dX6_byteAt_1 rfl (lv_at hl 0 rfl) ?_
  refine kget C inX6 hP 0 rfl rfl 5 (by decide) mw_692 rfl dX6_byteAt_2 ?_
  refine lv_icmp_ge (tgt := 17) hx hb dX6_byteAt_5 (by decide) (fun hc => ?_) (fun hc => ?_)
  · rw [if_pos hc] at hf
    refine lv_bipush (v := (-4 : Int32)) hx hb dX6_byteAt_17 (by decide) ?_
    obtain rfl := Option.some.inj hf
    exact hret _ _ _ _ dX6_byteAt_19 hP hS
  · rw [if_neg hc] at hf
    refine lv_aload_n hx hb dX6_byteAt_8 rfl (lv_at hl 0 rfl) ?_
    refine kget C inX6 hP 0 rfl rfl 4 (by decide) mw_691 rfl dX6_byteAt_9 ?_
    refine lv_iload_n hx hb dX6_byteAt_12 rfl (lv_at hl 1 rfl) ?_
    obtain ⟨hin, hf⟩ := gd_some hf
    refine kiald C hP 1 rfl hin dX6_byteAt_13 (j := x1.toNatClampNeg) rfl ?_
    refine lv_goto (tgt := 19) hx hb dX6_byteAt_14 (by decide) ?_
    obtain rfl := Option.some.inj hf
    exact hret _ _ _ _ dX6_byteAt_19 hP hS
set_option maxHeartbeats 4000000 in
set_option maxRecDepth 100000 in
theorem kX6_must {l : Launch} {D : va_G} {k : Nat → ClassId} (h0 : Nat) (z0 z1 z2 z3 z4 z5 z6 z7 z8 z9 z10 z11 z12 z13 z14 z15 z16 : Value) (v_fault : Int32) (v_brokenAt : Int32) (v_here : Int32) (x1 : Int32) (x2 : Int32) (q : Int32 × Int32) (hf : fX6_must v_fault v_brokenAt v_here x1 x2 = some q) : KMv l yX6_must cX6_must 3 ({ frames := 0, cells := 0, slots := 0, locals := 0 } : Room) D k [.ref h0, .int x1, .int x2] (wX6_must k h0 z0 z1 z2 z3 z4 z5 z6 z7 z8 z9 z10 z11 z12 z13 z14 z15 z16 v_fault v_brokenAt v_here) (wX6_must k h0 z0 z1 z2 z3 z4 z5 z6 z7 z8 z9 z10 z11 z12 z13 z14 z15 z16 q.1 q.2 v_here) := by
  refine kent_v (by decide) (Nat.le_of_ble_eq_true rfl) ?_
  intro p e s m below meth c A Q ls C hP hD hS hl hret
  obtain ⟨hx, hb, -⟩ := id C
  have hl : lv_has ls 3 [(0, .ref h0), (1, .int x1), (2, .int x2)] := hl
  unfold fX6_must at hf
  generalize ([.ref h0, .int x1, .int x2] : List Value).toArray = args at *
  refine lv_iload_n hx hb dX6_must_0 rfl (lv_at hl 1 rfl) ?_
  refine lv_if_ne (tgt := 24) hx hb dX6_must_1 (by decide) (fun hc => ?_) (fun hc => ?_)
  · rw [if_neg hc] at hf
    obtain rfl := Option.some.inj hf
    exact hret _ _ _ _ dX6_must_24 hP hS
  · rw [if_pos hc] at hf
    refine lv_aload_n hx hb dX6_must_4 rfl (lv_at hl 0 rfl) ?_
    refine kget C inX6 hP 0 rfl rfl 6 (by decide) mw_693 rfl dX6_must_5 ?_
    refine lv_if_ne (tgt := 24) hx hb dX6_must_8 (by decide) (fun hc => ?_) (fun hc => ?_)
    · rw [if_neg hc] at hf
      obtain rfl := Option.some.inj hf
      exact hret _ _ _ _ dX6_must_24 hP hS
    · rw [if_pos hc] at hf
      refine lv_aload_n hx hb dX6_must_11 rfl (lv_at hl 0 rfl) ?_
      refine lv_iload_n hx hb dX6_must_12 rfl (lv_at hl 2 rfl) ?_
      refine kput C inX6 tyX6_ok nmX6 hP hD hS 0 rfl rfl 6 (by decide) mw_693 rfl rfl rfl (Nat.le_of_ble_eq_true rfl) dX6_must_13 (w2 := (wX6_must k h0 z0 z1 z2 z3 z4 z5 z6 z7 z8 z9 z10 z11 z12 z13 z14 z15 z16 x2 v_brokenAt v_here)) rfl (fun H locs hP hD hS => ?_)
      refine lv_aload_n hx hb dX6_must_16 rfl (lv_at hl 0 rfl) ?_
      refine lv_aload_n hx hb dX6_must_17 rfl (lv_at hl 0 rfl) ?_
      refine kget C inX6 hP 0 rfl rfl 9 (by decide) mw_696 rfl dX6_must_18 ?_
      refine kput C inX6 tyX6_ok nmX6 hP hD hS 0 rfl rfl 7 (by decide) mw_694 rfl rfl rfl (Nat.le_of_ble_eq_true rfl) dX6_must_21 (w2 := (wX6_must k h0 z0 z1 z2 z3 z4 z5 z6 z7 z8 z9 z10 z11 z12 z13 z14 z15 z16 x2 v_here v_here)) rfl (fun H locs hP hD hS => ?_)
      obtain rfl := Option.some.inj hf
      exact hret _ _ _ _ dX6_must_24 hP hS
set_option maxHeartbeats 4000000 in
set_option maxRecDepth 100000 in
theorem wX6_reads_8 {p : Program} {l : Launch} {e : Env} {s : State} {m : MethodId} {args : Array Value} {below : List Frame} {meth : Method} {c : Code} {A : Nat → Prop} {Q : State → Prop} {D : va_G} {k : Nat → ClassId} (C : Cx p s m args c cX6_reads 2 RX6 A D k) (h0 h1 : Nat) (z0 z1 z2 z3 z4 z5 z6 z7 z8 z9 z10 z11 : Value) (v_taped : Int32) (v_fault : Int32) (v_brokenAt : Int32) (v_here : Int32) (v_token : Int32) (v_value : Int32) (v_tape : Nat → Int32) : ∀ (f : Nat) (v_spot : Int32) (ex : (Int32)) (H : Heap) (locs : List Loc) (ls : Array Slot), fX6_reads_8 v_taped v_tape f v_spot = some ex → va_P D vwCl (wX6_reads k h0 h1 z0 z1 z2 z3 z4 z5 z6 z7 z8 z9 z10 z11 v_taped v_fault v_brokenAt v_spot v_here v_token v_value v_tape) H → va_D A (wX6_reads k h0 h1 z0 z1 z2 z3 z4 z5 z6 z7 z8 z9 z10 z11 v_taped v_fault v_brokenAt v_spot v_here v_token v_value v_tape) → va_S A s.heap H locs → lv_has ls 2 [(0, .ref h0)] → (∀ (H : Heap) (locs : List Loc) (ls : Array Slot), va_P D vwCl (wX6_reads k h0 h1 z0 z1 z2 z3 z4 z5 z6 z7 z8 z9 z10 z11 v_taped v_fault v_brokenAt ex v_here v_token v_value v_tape) H → va_D A (wX6_reads k h0 h1 z0 z1 z2 z3 z4 z5 z6 z7 z8 z9 z10 z11 v_taped v_fault v_brokenAt ex v_here v_token v_value v_tape) → va_S A s.heap H locs → lv_has ls 2 [(0, .ref h0)] → W p l e ({ frames := 1, cells := 0, slots := 0, locals := 25 } : Room) s m args below meth c H locs 0 0 Q (F0 m 34 ls [])) → W p l e ({ frames := 1, cells := 0, slots := 0, locals := 25 } : Room) s m args below meth c H locs 0 0 Q (F0 m 8 ls []) := by
  obtain ⟨hx, hb, -⟩ := id C
  intro f
  induction f with
  | zero =>
    intro v_spot ex H locs ls hf hP hD hS hl hk
    cases hf
  | succ f ih =>
    intro v_spot ex H locs ls hf hP hD hS hl hk
    rw [fX6_reads_8] at hf
    refine lv_aload_n hx hb dX6_reads_8 rfl (lv_at hl 0 rfl) ?_
    refine lv_aload_n hx hb dX6_reads_9 rfl (lv_at hl 0 rfl) ?_
    refine kget C inX6 hP 0 rfl rfl 8 (by decide) mw_695 rfl dX6_reads_10 ?_
    obtain ⟨q13, hq13, hf⟩ := bd_some hf
    refine kcVi C (kX6_byteAt (l := l) (D := D) (k := k) h0 h1 z0 z1 z2 z3 (.int v_fault) (.int v_brokenAt) (.int v_spot) (.int v_here) (.int v_token) (.int v_value) z4 z5 z6 z7 z8 z9 z10 z11 v_taped v_tape v_spot q13 hq13) mt_X6_byteAt mw_770 ⟨rfl, rfl, Nat.le_of_ble_eq_true rfl, Nat.le_of_ble_eq_true rfl⟩ hP hD hS 0 rfl rfl rfl [0, 1] rfl rfl [some 0, some 1] rfl rfl (w2 := (wX6_reads k h0 h1 z0 z1 z2 z3 z4 z5 z6 z7 z8 z9 z10 z11 v_taped v_fault v_brokenAt v_spot v_here v_token v_value v_tape)) rfl rfl rfl hl.1 (rest := []) (Nat.le_of_ble_eq_true rfl) rfl dX6_reads_13 ⟨Nat.zero_le _, Nat.zero_le _⟩ (fun H locs hP hD hS => ?_)
    refine lv_bipush (v := (32 : Int32)) hx hb dX6_reads_16 (by decide) ?_
    refine lv_icmp_ne (tgt := 34) hx hb dX6_reads_18 (by decide) (fun hc => ?_) (fun hc => ?_)
    · rw [if_neg hc] at hf
      obtain rfl := Option.some.inj hf
      exact hk _ _ _ hP hD hS (lv_sub hl [0] rfl)
    · rw [if_pos hc] at hf
      refine lv_aload_n hx hb dX6_reads_21 rfl (lv_at hl 0 rfl) ?_
      refine lv_dup hx hb dX6_reads_22 rfl ?_
      refine kget C inX6 hP 0 rfl rfl 8 (by decide) mw_695 rfl dX6_reads_23 ?_
      refine lv_iconst (v := (1 : Int32)) hx hb dX6_reads_26 (by decide) ?_
      refine lv_iadd hx hb dX6_reads_27 ?_
      refine kput C inX6 tyX6_ok nmX6 hP hD hS 0 rfl rfl 8 (by decide) mw_695 rfl rfl rfl (Nat.le_of_ble_eq_true rfl) dX6_reads_28 (w2 := (wX6_reads k h0 h1 z0 z1 z2 z3 z4 z5 z6 z7 z8 z9 z10 z11 v_taped v_fault v_brokenAt (v_spot + (1 : Int32)) v_here v_token v_value v_tape)) rfl (fun H locs hP hD hS => ?_)
      refine lv_goto (tgt := 8) hx hb dX6_reads_31 (by decide) ?_
      exact ih (v_spot + (1 : Int32)) _ _ _ _ hf hP hD hS (lv_sub hl [0] rfl) hk
set_option maxHeartbeats 4000000 in
set_option maxRecDepth 100000 in
theorem wX6_reads_147 {p : Program} {l : Launch} {e : Env} {s : State} {m : MethodId} {args : Array Value} {below : List Frame} {meth : Method} {c : Code} {A : Nat → Prop} {Q : State → Prop} {D : va_G} {k : Nat → ClassId} (C : Cx p s m args c cX6_reads 2 RX6 A D k) (h0 h1 : Nat) (z0 z1 z2 z3 z4 z5 z6 z7 z8 z9 z10 z11 : Value) (v_taped : Int32) (v_fault : Int32) (v_brokenAt : Int32) (v_here : Int32) (v_token : Int32) (v_tape : Nat → Int32) : ∀ (f : Nat) (v_spot : Int32) (v_value : Int32) (ex : (Int32 × Int32)) (H : Heap) (locs : List Loc) (ls : Array Slot), fX6_reads_147 v_taped v_here v_tape f v_spot v_value = some ex → va_P D vwCl (wX6_reads k h0 h1 z0 z1 z2 z3 z4 z5 z6 z7 z8 z9 z10 z11 v_taped v_fault v_brokenAt v_spot v_here v_token v_value v_tape) H → va_D A (wX6_reads k h0 h1 z0 z1 z2 z3 z4 z5 z6 z7 z8 z9 z10 z11 v_taped v_fault v_brokenAt v_spot v_here v_token v_value v_tape) → va_S A s.heap H locs → lv_has ls 2 [(0, .ref h0)] → (∀ (H : Heap) (locs : List Loc) (ls : Array Slot), va_P D vwCl (wX6_reads k h0 h1 z0 z1 z2 z3 z4 z5 z6 z7 z8 z9 z10 z11 v_taped v_fault v_brokenAt ex.1 v_here v_token ex.2 v_tape) H → va_D A (wX6_reads k h0 h1 z0 z1 z2 z3 z4 z5 z6 z7 z8 z9 z10 z11 v_taped v_fault v_brokenAt ex.1 v_here v_token ex.2 v_tape) → va_S A s.heap H locs → lv_has ls 2 [(0, .ref h0)] → W p l e ({ frames := 1, cells := 0, slots := 0, locals := 25 } : Room) s m args below meth c H locs 0 0 Q (F0 m 224 ls [])) → W p l e ({ frames := 1, cells := 0, slots := 0, locals := 25 } : Room) s m args below meth c H locs 0 0 Q (F0 m 147 ls []) := by
  obtain ⟨hx, hb, -⟩ := id C
  intro f
  induction f with
  | zero =>
    intro v_spot v_value ex H locs ls hf hP hD hS hl hk
    cases hf
  | succ f ih =>
    intro v_spot v_value ex H locs ls hf hP hD hS hl hk
    rw [fX6_reads_147] at hf
    refine lv_aload_n hx hb dX6_reads_147 rfl (lv_at hl 0 rfl) ?_
    refine lv_aload_n hx hb dX6_reads_148 rfl (lv_at hl 0 rfl) ?_
    refine kget C inX6 hP 0 rfl rfl 8 (by decide) mw_695 rfl dX6_reads_149 ?_
    obtain ⟨q152, hq152, hf⟩ := bd_some hf
    refine kcVi C (kX6_byteAt (l := l) (D := D) (k := k) h0 h1 z0 z1 z2 z3 (.int v_fault) (.int v_brokenAt) (.int v_spot) (.int v_here) (.int v_token) (.int v_value) z4 z5 z6 z7 z8 z9 z10 z11 v_taped v_tape v_spot q152 hq152) mt_X6_byteAt mw_770 ⟨rfl, rfl, Nat.le_of_ble_eq_true rfl, Nat.le_of_ble_eq_true rfl⟩ hP hD hS 0 rfl rfl rfl [0, 1] rfl rfl [some 0, some 1] rfl rfl (w2 := (wX6_reads k h0 h1 z0 z1 z2 z3 z4 z5 z6 z7 z8 z9 z10 z11 v_taped v_fault v_brokenAt v_spot v_here v_token v_value v_tape)) rfl rfl rfl hl.1 (rest := []) (Nat.le_of_ble_eq_true rfl) rfl dX6_reads_152 ⟨Nat.zero_le _, Nat.zero_le _⟩ (fun H locs hP hD hS => ?_)
    refine lv_i2l (v := (q152.toInt64)) hx hb dX6_reads_155 rfl ?_
    refine lv_ldc2 (v := (48 : Int64)) hx hb C.2.2.2.1 (C.2.2.2.2.1 _ mw_776) dX6_reads_156 ?_
    refine lv_ldc2 (v := (57 : Int64)) hx hb C.2.2.2.1 (C.2.2.2.2.1 _ mw_777) dX6_reads_159 ?_
    obtain ⟨q162, hq162, hf⟩ := bd_some hf
    refine kcSi C (kX6_in (l := l) (D := D) (k := k) (q152.toInt64) (48 : Int64) (57 : Int64) q162 hq162) mt_X6_in mw_753 ⟨rfl, rfl, Nat.le_of_ble_eq_true rfl, Nat.le_of_ble_eq_true rfl⟩ hP hD hS [] rfl rfl [none, none] rfl rfl (w2 := (wX6_reads k h0 h1 z0 z1 z2 z3 z4 z5 z6 z7 z8 z9 z10 z11 v_taped v_fault v_brokenAt v_spot v_here v_token v_value v_tape)) rfl rfl rfl hl.1 (rest := []) (Nat.le_of_ble_eq_true rfl) rfl dX6_reads_162 ⟨Nat.zero_le _, Nat.zero_le _⟩ (fun H locs hP hD hS => ?_)
    refine lv_if_eq (tgt := 224) hx hb dX6_reads_165 (by decide) (fun hc => ?_) (fun hc => ?_)
    · rw [if_pos hc] at hf
      obtain rfl := Option.some.inj hf
      exact hk _ _ _ hP hD hS (lv_sub hl [0] rfl)
    · rw [if_neg hc] at hf
      refine lv_aload_n hx hb dX6_reads_168 rfl (lv_at hl 0 rfl) ?_
      refine lv_aload_n hx hb dX6_reads_169 rfl (lv_at hl 0 rfl) ?_
      refine kget C inX6 hP 0 rfl rfl 8 (by decide) mw_695 rfl dX6_reads_170 ?_
      refine lv_aload_n hx hb dX6_reads_173 rfl (lv_at hl 0 rfl) ?_
      refine kget C inX6 hP 0 rfl rfl 9 (by decide) mw_696 rfl dX6_reads_174 ?_
      refine lv_isub hx hb dX6_reads_177 ?_
      refine lv_iconst (v := (2 : Int32)) hx hb dX6_reads_178 (by decide) ?_
      obtain ⟨v208, hv208, hf⟩ := bd_some hf
      have hj208 : ∀ (H : Heap) (locs : List Loc) (ls : Array Slot), va_P D vwCl (wX6_reads k h0 h1 z0 z1 z2 z3 z4 z5 z6 z7 z8 z9 z10 z11 v_taped v_fault v_brokenAt v_spot v_here v_token v_value v_tape) H → va_D A (wX6_reads k h0 h1 z0 z1 z2 z3 z4 z5 z6 z7 z8 z9 z10 z11 v_taped v_fault v_brokenAt v_spot v_here v_token v_value v_tape) → va_S A s.heap H locs → lv_has ls 2 [(0, .ref h0)] → W p l e ({ frames := 1, cells := 0, slots := 0, locals := 25 } : Room) s m args below meth c H locs 0 0 Q (F0 m 208 ls [.int v208, .ref h0]) := by
        intro H locs ls hP hD hS hl
        refine kput C inX6 tyX6_ok nmX6 hP hD hS 0 rfl rfl 11 (by decide) mw_698 rfl rfl rfl (Nat.le_of_ble_eq_true rfl) dX6_reads_208 (w2 := (wX6_reads k h0 h1 z0 z1 z2 z3 z4 z5 z6 z7 z8 z9 z10 z11 v_taped v_fault v_brokenAt v_spot v_here v_token v208 v_tape)) rfl (fun H locs hP hD hS => ?_)
        refine lv_aload_n hx hb dX6_reads_211 rfl (lv_at hl 0 rfl) ?_
        refine lv_dup hx hb dX6_reads_212 rfl ?_
        refine kget C inX6 hP 0 rfl rfl 8 (by decide) mw_695 rfl dX6_reads_213 ?_
        refine lv_iconst (v := (1 : Int32)) hx hb dX6_reads_216 (by decide) ?_
        refine lv_iadd hx hb dX6_reads_217 ?_
        refine kput C inX6 tyX6_ok nmX6 hP hD hS 0 rfl rfl 8 (by decide) mw_695 rfl rfl rfl (Nat.le_of_ble_eq_true rfl) dX6_reads_218 (w2 := (wX6_reads k h0 h1 z0 z1 z2 z3 z4 z5 z6 z7 z8 z9 z10 z11 v_taped v_fault v_brokenAt (v_spot + (1 : Int32)) v_here v_token v208 v_tape)) rfl (fun H locs hP hD hS => ?_)
        refine lv_goto (tgt := 147) hx hb dX6_reads_221 (by decide) ?_
        exact ih (v_spot + (1 : Int32)) v208 _ _ _ _ hf hP hD hS (lv_sub hl [0] rfl) hk
      clear hf
      have hf := hv208
      refine lv_icmp_ge (tgt := 204) hx hb dX6_reads_179 (by decide) (fun hc => ?_) (fun hc => ?_)
      · rw [if_pos hc] at hf
        refine lv_aload_n hx hb dX6_reads_204 rfl (lv_at hl 0 rfl) ?_
        refine kget C inX6 hP 0 rfl rfl 11 (by decide) mw_698 rfl dX6_reads_205 ?_
        obtain rfl := Option.some.inj hf
        exact hj208 _ _ _ hP hD hS (lv_sub hl [0] rfl)
      · rw [if_neg hc] at hf
        refine lv_bipush (v := (10 : Int32)) hx hb dX6_reads_182 (by decide) ?_
        refine lv_aload_n hx hb dX6_reads_184 rfl (lv_at hl 0 rfl) ?_
        refine kget C inX6 hP 0 rfl rfl 11 (by decide) mw_698 rfl dX6_reads_185 ?_
        refine lv_imul hx hb dX6_reads_188 ?_
        refine lv_aload_n hx hb dX6_reads_189 rfl (lv_at hl 0 rfl) ?_
        refine lv_aload_n hx hb dX6_reads_190 rfl (lv_at hl 0 rfl) ?_
        refine kget C inX6 hP 0 rfl rfl 8 (by decide) mw_695 rfl dX6_reads_191 ?_
        obtain ⟨q194, hq194, hf⟩ := bd_some hf
        refine kcVi C (kX6_byteAt (l := l) (D := D) (k := k) h0 h1 z0 z1 z2 z3 (.int v_fault) (.int v_brokenAt) (.int v_spot) (.int v_here) (.int v_token) (.int v_value) z4 z5 z6 z7 z8 z9 z10 z11 v_taped v_tape v_spot q194 hq194) mt_X6_byteAt mw_770 ⟨rfl, rfl, Nat.le_of_ble_eq_true rfl, Nat.le_of_ble_eq_true rfl⟩ hP hD hS 0 rfl rfl rfl [0, 1] rfl rfl [some 0, some 1] rfl rfl (w2 := (wX6_reads k h0 h1 z0 z1 z2 z3 z4 z5 z6 z7 z8 z9 z10 z11 v_taped v_fault v_brokenAt v_spot v_here v_token v_value v_tape)) rfl rfl rfl hl.1 (rest := [.int ((10 : Int32) * v_value), .ref h0]) (Nat.le_of_ble_eq_true rfl) rfl dX6_reads_194 ⟨Nat.zero_le _, Nat.zero_le _⟩ (fun H locs hP hD hS => ?_)
        refine lv_iadd hx hb dX6_reads_197 ?_
        refine lv_bipush (v := (48 : Int32)) hx hb dX6_reads_198 (by decide) ?_
        refine lv_isub hx hb dX6_reads_200 ?_
        refine lv_goto (tgt := 208) hx hb dX6_reads_201 (by decide) ?_
        obtain rfl := Option.some.inj hf
        exact hj208 _ _ _ hP hD hS (lv_sub hl [0] rfl)
set_option maxHeartbeats 4000000 in
set_option maxRecDepth 100000 in
theorem wX6_reads_89 {p : Program} {l : Launch} {e : Env} {s : State} {m : MethodId} {args : Array Value} {below : List Frame} {meth : Method} {c : Code} {A : Nat → Prop} {Q : State → Prop} {D : va_G} {k : Nat → ClassId} (C : Cx p s m args c cX6_reads 2 RX6 A D k) (h0 h1 : Nat) (z0 z1 z2 z3 z4 z5 z6 z7 z8 z9 z10 z11 : Value) (v_taped : Int32) (v_fault : Int32) (v_brokenAt : Int32) (v_here : Int32) (v_token : Int32) (v_value : Int32) (v_tape : Nat → Int32) : ∀ (f : Nat) (v_spot : Int32) (t : (Int32)) (H : Heap) (locs : List Loc) (ls : Array Slot), fX6_reads_89 v_taped v_tape f v_spot = some t → va_P D vwCl (wX6_reads k h0 h1 z0 z1 z2 z3 z4 z5 z6 z7 z8 z9 z10 z11 v_taped v_fault v_brokenAt v_spot v_here v_token v_value v_tape) H → va_D A (wX6_reads k h0 h1 z0 z1 z2 z3 z4 z5 z6 z7 z8 z9 z10 z11 v_taped v_fault v_brokenAt v_spot v_here v_token v_value v_tape) → va_S A s.heap H locs → lv_has ls 2 [(0, .ref h0)] → (∀ (H : Heap) (locs : List Loc) (ls : Array Slot) (pc : Nat), decode cX6_reads pc = .ok (.return_, 1) → va_P D vwCl (wX6_reads k h0 h1 z0 z1 z2 z3 z4 z5 z6 z7 z8 z9 z10 z11 v_taped v_fault v_brokenAt t v_here v_token v_value v_tape) H → va_S A s.heap H locs → W p l e ({ frames := 1, cells := 0, slots := 0, locals := 25 } : Room) s m args below meth c H locs 0 0 Q (F0 m pc ls [])) → W p l e ({ frames := 1, cells := 0, slots := 0, locals := 25 } : Room) s m args below meth c H locs 0 0 Q (F0 m 89 ls []) := by
  obtain ⟨hx, hb, -⟩ := id C
  intro f
  induction f with
  | zero =>
    intro v_spot t H locs ls hf hP hD hS hl hr
    cases hf
  | succ f ih =>
    intro v_spot t H locs ls hf hP hD hS hl hr
    rw [fX6_reads_89] at hf
    refine lv_aload_n hx hb dX6_reads_89 rfl (lv_at hl 0 rfl) ?_
    refine lv_aload_n hx hb dX6_reads_90 rfl (lv_at hl 0 rfl) ?_
    refine kget C inX6 hP 0 rfl rfl 8 (by decide) mw_695 rfl dX6_reads_91 ?_
    obtain ⟨q94, hq94, hf⟩ := bd_some hf
    refine kcVi C (kX6_byteAt (l := l) (D := D) (k := k) h0 h1 z0 z1 z2 z3 (.int v_fault) (.int v_brokenAt) (.int v_spot) (.int v_here) (.int v_token) (.int v_value) z4 z5 z6 z7 z8 z9 z10 z11 v_taped v_tape v_spot q94 hq94) mt_X6_byteAt mw_770 ⟨rfl, rfl, Nat.le_of_ble_eq_true rfl, Nat.le_of_ble_eq_true rfl⟩ hP hD hS 0 rfl rfl rfl [0, 1] rfl rfl [some 0, some 1] rfl rfl (w2 := (wX6_reads k h0 h1 z0 z1 z2 z3 z4 z5 z6 z7 z8 z9 z10 z11 v_taped v_fault v_brokenAt v_spot v_here v_token v_value v_tape)) rfl rfl rfl hl.1 (rest := []) (Nat.le_of_ble_eq_true rfl) rfl dX6_reads_94 ⟨Nat.zero_le _, Nat.zero_le _⟩ (fun H locs hP hD hS => ?_)
    refine lv_i2l (v := (q94.toInt64)) hx hb dX6_reads_97 rfl ?_
    refine lv_ldc2 (v := (97 : Int64)) hx hb C.2.2.2.1 (C.2.2.2.2.1 _ mw_774) dX6_reads_98 ?_
    refine lv_ldc2 (v := (122 : Int64)) hx hb C.2.2.2.1 (C.2.2.2.2.1 _ mw_775) dX6_reads_101 ?_
    obtain ⟨q104, hq104, hf⟩ := bd_some hf
    refine kcSi C (kX6_in (l := l) (D := D) (k := k) (q94.toInt64) (97 : Int64) (122 : Int64) q104 hq104) mt_X6_in mw_753 ⟨rfl, rfl, Nat.le_of_ble_eq_true rfl, Nat.le_of_ble_eq_true rfl⟩ hP hD hS [] rfl rfl [none, none] rfl rfl (w2 := (wX6_reads k h0 h1 z0 z1 z2 z3 z4 z5 z6 z7 z8 z9 z10 z11 v_taped v_fault v_brokenAt v_spot v_here v_token v_value v_tape)) rfl rfl rfl hl.1 (rest := []) (Nat.le_of_ble_eq_true rfl) rfl dX6_reads_104 ⟨Nat.zero_le _, Nat.zero_le _⟩ (fun H locs hP hD hS => ?_)
    refine lv_if_eq (tgt := 281) hx hb dX6_reads_107 (by decide) (fun hc => ?_) (fun hc => ?_)
    · rw [if_pos hc] at hf
      obtain rfl := Option.some.inj hf
      exact hr _ _ _ _ dX6_reads_281 hP hS
    · rw [if_neg hc] at hf
      refine lv_aload_n hx hb dX6_reads_110 rfl (lv_at hl 0 rfl) ?_
      refine lv_dup hx hb dX6_reads_111 rfl ?_
      refine kget C inX6 hP 0 rfl rfl 8 (by decide) mw_695 rfl dX6_reads_112 ?_
      refine lv_iconst (v := (1 : Int32)) hx hb dX6_reads_115 (by decide) ?_
      refine lv_iadd hx hb dX6_reads_116 ?_
      refine kput C inX6 tyX6_ok nmX6 hP hD hS 0 rfl rfl 8 (by decide) mw_695 rfl rfl rfl (Nat.le_of_ble_eq_true rfl) dX6_reads_117 (w2 := (wX6_reads k h0 h1 z0 z1 z2 z3 z4 z5 z6 z7 z8 z9 z10 z11 v_taped v_fault v_brokenAt (v_spot + (1 : Int32)) v_here v_token v_value v_tape)) rfl (fun H locs hP hD hS => ?_)
      refine lv_goto (tgt := 89) hx hb dX6_reads_120 (by decide) ?_
      exact ih (v_spot + (1 : Int32)) _ _ _ _ hf hP hD hS (lv_sub hl [0] rfl) hr
set_option maxHeartbeats 4000000 in
set_option maxRecDepth 100000 in
theorem kX6_reads {l : Launch} {D : va_G} {k : Nat → ClassId} (h0 h1 : Nat) (z0 z1 z2 z3 z4 z5 z6 z7 z8 z9 z10 z11 : Value) (v_taped : Int32) (v_fault : Int32) (v_brokenAt : Int32) (v_spot : Int32) (v_here : Int32) (v_token : Int32) (v_value : Int32) (v_tape : Nat → Int32) (q : Int32 × Int32 × Int32 × Int32 × Int32 × Int32) (hf : fX6_reads v_taped v_fault v_brokenAt v_spot v_here v_token v_value v_tape = some q) : KMv l yX6_reads cX6_reads 2 ({ frames := 1, cells := 0, slots := 0, locals := 25 } : Room) D k [.ref h0] (wX6_reads k h0 h1 z0 z1 z2 z3 z4 z5 z6 z7 z8 z9 z10 z11 v_taped v_fault v_brokenAt v_spot v_here v_token v_value v_tape) (wX6_reads k h0 h1 z0 z1 z2 z3 z4 z5 z6 z7 z8 z9 z10 z11 v_taped q.1 q.2.1 q.2.2.1 q.2.2.2.1 q.2.2.2.2.1 q.2.2.2.2.2 v_tape) := by
  refine kent_v (by decide) (Nat.le_of_ble_eq_true rfl) ?_
  intro p e s m below meth c A Q ls C hP hD hS hl hret
  obtain ⟨hx, hb, -⟩ := id C
  have hl : lv_has ls 2 [(0, .ref h0)] := hl
  unfold fX6_reads at hf
  generalize ([.ref h0] : List Value).toArray = args at *
  refine lv_aload_n hx hb dX6_reads_0 rfl (lv_at hl 0 rfl) ?_
  refine kget C inX6 hP 0 rfl rfl 6 (by decide) mw_693 rfl dX6_reads_1 ?_
  refine lv_if_le (tgt := 8) hx hb dX6_reads_4 (by decide) (fun hc => ?_) (fun hc => ?_)
  · rw [if_pos hc] at hf
    obtain ⟨ex8, hv, hf⟩ := bd_some hf
    refine wX6_reads_8 C h0 h1 z0 z1 z2 z3 z4 z5 z6 z7 z8 z9 z10 z11 v_taped v_fault v_brokenAt v_here v_token v_value v_tape FU v_spot ex8 _ _ _ hv hP hD hS (lv_sub hl [0] rfl) (fun H locs ls hP hD hS hl => ?_)
    refine lv_aload_n hx hb dX6_reads_34 rfl (lv_at hl 0 rfl) ?_
    refine lv_aload_n hx hb dX6_reads_35 rfl (lv_at hl 0 rfl) ?_
    refine kget C inX6 hP 0 rfl rfl 8 (by decide) mw_695 rfl dX6_reads_36 ?_
    refine kput C inX6 tyX6_ok nmX6 hP hD hS 0 rfl rfl 9 (by decide) mw_696 rfl rfl rfl (Nat.le_of_ble_eq_true rfl) dX6_reads_39 (w2 := (wX6_reads k h0 h1 z0 z1 z2 z3 z4 z5 z6 z7 z8 z9 z10 z11 v_taped v_fault v_brokenAt ex8 ex8 v_token v_value v_tape)) rfl (fun H locs hP hD hS => ?_)
    refine lv_aload_n hx hb dX6_reads_42 rfl (lv_at hl 0 rfl) ?_
    refine lv_aload_n hx hb dX6_reads_43 rfl (lv_at hl 0 rfl) ?_
    refine kget C inX6 hP 0 rfl rfl 8 (by decide) mw_695 rfl dX6_reads_44 ?_
    obtain ⟨q47, hq47, hf⟩ := bd_some hf
    refine kcVi C (kX6_byteAt (l := l) (D := D) (k := k) h0 h1 z0 z1 z2 z3 (.int v_fault) (.int v_brokenAt) (.int ex8) (.int ex8) (.int v_token) (.int v_value) z4 z5 z6 z7 z8 z9 z10 z11 v_taped v_tape ex8 q47 hq47) mt_X6_byteAt mw_770 ⟨rfl, rfl, Nat.le_of_ble_eq_true rfl, Nat.le_of_ble_eq_true rfl⟩ hP hD hS 0 rfl rfl rfl [0, 1] rfl rfl [some 0, some 1] rfl rfl (w2 := (wX6_reads k h0 h1 z0 z1 z2 z3 z4 z5 z6 z7 z8 z9 z10 z11 v_taped v_fault v_brokenAt ex8 ex8 v_token v_value v_tape)) rfl rfl rfl hl.1 (rest := []) (Nat.le_of_ble_eq_true rfl) rfl dX6_reads_47 ⟨Nat.zero_le _, Nat.zero_le _⟩ (fun H locs hP hD hS => ?_)
    refine lv_istore_n (lv' := [(1, .int q47), (0, .ref h0)]) hx hb dX6_reads_50 rfl hl (by decide) rfl (fun ls hl => ?_)
    refine lv_aload_n hx hb dX6_reads_51 rfl (lv_at hl 1 rfl) ?_
    refine lv_iload_n hx hb dX6_reads_52 rfl (lv_at hl 0 rfl) ?_
    refine kput C inX6 tyX6_ok nmX6 hP hD hS 0 rfl rfl 11 (by decide) mw_698 rfl rfl rfl (Nat.le_of_ble_eq_true rfl) dX6_reads_53 (w2 := (wX6_reads k h0 h1 z0 z1 z2 z3 z4 z5 z6 z7 z8 z9 z10 z11 v_taped v_fault v_brokenAt ex8 ex8 v_token q47 v_tape)) rfl (fun H locs hP hD hS => ?_)
    refine lv_iload_n hx hb dX6_reads_56 rfl (lv_at hl 0 rfl) ?_
    refine lv_bipush (v := (-4 : Int32)) hx hb dX6_reads_57 (by decide) ?_
    refine lv_icmp_ne (tgt := 70) hx hb dX6_reads_59 (by decide) (fun hc => ?_) (fun hc => ?_)
    · rw [if_neg hc] at hf
      refine lv_iload_n hx hb dX6_reads_70 rfl (lv_at hl 0 rfl) ?_
      refine lv_i2l (v := (q47.toInt64)) hx hb dX6_reads_71 rfl ?_
      refine lv_ldc2 (v := (97 : Int64)) hx hb C.2.2.2.1 (C.2.2.2.2.1 _ mw_774) dX6_reads_72 ?_
      refine lv_ldc2 (v := (122 : Int64)) hx hb C.2.2.2.1 (C.2.2.2.2.1 _ mw_775) dX6_reads_75 ?_
      obtain ⟨q78, hq78, hf⟩ := bd_some hf
      refine kcSi C (kX6_in (l := l) (D := D) (k := k) (q47.toInt64) (97 : Int64) (122 : Int64) q78 hq78) mt_X6_in mw_753 ⟨rfl, rfl, Nat.le_of_ble_eq_true rfl, Nat.le_of_ble_eq_true rfl⟩ hP hD hS [] rfl rfl [none, none] rfl rfl (w2 := (wX6_reads k h0 h1 z0 z1 z2 z3 z4 z5 z6 z7 z8 z9 z10 z11 v_taped v_fault v_brokenAt ex8 ex8 v_token q47 v_tape)) rfl rfl rfl hl.1 (rest := []) (Nat.le_of_ble_eq_true rfl) rfl dX6_reads_78 ⟨Nat.zero_le _, Nat.zero_le _⟩ (fun H locs hP hD hS => ?_)
      refine lv_if_eq (tgt := 123) hx hb dX6_reads_81 (by decide) (fun hc => ?_) (fun hc => ?_)
      · rw [if_pos hc] at hf
        refine lv_iload_n hx hb dX6_reads_123 rfl (lv_at hl 0 rfl) ?_
        refine lv_i2l (v := (q47.toInt64)) hx hb dX6_reads_124 rfl ?_
        refine lv_ldc2 (v := (48 : Int64)) hx hb C.2.2.2.1 (C.2.2.2.2.1 _ mw_776) dX6_reads_125 ?_
        refine lv_ldc2 (v := (57 : Int64)) hx hb C.2.2.2.1 (C.2.2.2.2.1 _ mw_777) dX6_reads_128 ?_
        obtain ⟨q131, hq131, hf⟩ := bd_some hf
        refine kcSi C (kX6_in (l := l) (D := D) (k := k) (q47.toInt64) (48 : Int64) (57 : Int64) q131 hq131) mt_X6_in mw_753 ⟨rfl, rfl, Nat.le_of_ble_eq_true rfl, Nat.le_of_ble_eq_true rfl⟩ hP hD hS [] rfl rfl [none, none] rfl rfl (w2 := (wX6_reads k h0 h1 z0 z1 z2 z3 z4 z5 z6 z7 z8 z9 z10 z11 v_taped v_fault v_brokenAt ex8 ex8 v_token q47 v_tape)) rfl rfl rfl hl.1 (rest := []) (Nat.le_of_ble_eq_true rfl) rfl dX6_reads_131 ⟨Nat.zero_le _, Nat.zero_le _⟩ (fun H locs hP hD hS => ?_)
        refine lv_if_eq (tgt := 250) hx hb dX6_reads_134 (by decide) (fun hc => ?_) (fun hc => ?_)
        · rw [if_pos hc] at hf
          refine lv_aload_n hx hb dX6_reads_250 rfl (lv_at hl 1 rfl) ?_
          refine lv_iconst (v := (3 : Int32)) hx hb dX6_reads_251 (by decide) ?_
          refine kput C inX6 tyX6_ok nmX6 hP hD hS 0 rfl rfl 10 (by decide) mw_697 rfl rfl rfl (Nat.le_of_ble_eq_true rfl) dX6_reads_252 (w2 := (wX6_reads k h0 h1 z0 z1 z2 z3 z4 z5 z6 z7 z8 z9 z10 z11 v_taped v_fault v_brokenAt ex8 ex8 (3 : Int32) q47 v_tape)) rfl (fun H locs hP hD hS => ?_)
          refine lv_aload_n hx hb dX6_reads_255 rfl (lv_at hl 1 rfl) ?_
          refine lv_iload_n hx hb dX6_reads_256 rfl (lv_at hl 0 rfl) ?_
          refine lv_bipush (v := (59 : Int32)) hx hb dX6_reads_257 (by decide) ?_
          obtain ⟨v267, hv267, hf⟩ := bd_some hf
          have hj267 : ∀ (H : Heap) (locs : List Loc) (ls : Array Slot), va_P D vwCl (wX6_reads k h0 h1 z0 z1 z2 z3 z4 z5 z6 z7 z8 z9 z10 z11 v_taped v_fault v_brokenAt ex8 ex8 (3 : Int32) q47 v_tape) H → va_D A (wX6_reads k h0 h1 z0 z1 z2 z3 z4 z5 z6 z7 z8 z9 z10 z11 v_taped v_fault v_brokenAt ex8 ex8 (3 : Int32) q47 v_tape) → va_S A s.heap H locs → lv_has ls 2 [(0, .ref h0)] → W p l e ({ frames := 1, cells := 0, slots := 0, locals := 25 } : Room) s m args below meth c H locs 0 0 Q (F0 m 267 ls [.int v267, .ref h0]) := by
            intro H locs ls hP hD hS hl
            refine lv_iconst (v := (1 : Int32)) hx hb dX6_reads_267 (by decide) ?_
            obtain ⟨q268, hq268, hf⟩ := bd_some hf
            refine kcVv C (kX6_must (l := l) (D := D) (k := k) h0 z0 z1 z2 z3 (.ref h1) (.int v_taped) (.int ex8) (.int (3 : Int32)) (.int q47) z4 z5 z6 z7 z8 z9 z10 z11 v_fault v_brokenAt ex8 v267 (1 : Int32) q268 hq268) mt_X6_must mw_778 ⟨rfl, rfl, Nat.le_of_ble_eq_true rfl, Nat.le_of_ble_eq_true rfl⟩ hP hD hS 0 rfl rfl rfl [0] rfl rfl [some 0, none] rfl rfl (w2 := (wX6_reads k h0 h1 z0 z1 z2 z3 z4 z5 z6 z7 z8 z9 z10 z11 v_taped q268.1 q268.2 ex8 ex8 (3 : Int32) q47 v_tape)) rfl rfl rfl hl.1 (rest := []) (Nat.le_of_ble_eq_true rfl) rfl dX6_reads_268 ⟨Nat.zero_le _, Nat.zero_le _⟩ (fun H locs hP hD hS => ?_)
            refine lv_aload_n hx hb dX6_reads_271 rfl (lv_at hl 0 rfl) ?_
            refine lv_dup hx hb dX6_reads_272 rfl ?_
            refine kget C inX6 hP 0 rfl rfl 8 (by decide) mw_695 rfl dX6_reads_273 ?_
            refine lv_iconst (v := (1 : Int32)) hx hb dX6_reads_276 (by decide) ?_
            refine lv_iadd hx hb dX6_reads_277 ?_
            refine kput C inX6 tyX6_ok nmX6 hP hD hS 0 rfl rfl 8 (by decide) mw_695 rfl rfl rfl (Nat.le_of_ble_eq_true rfl) dX6_reads_278 (w2 := (wX6_reads k h0 h1 z0 z1 z2 z3 z4 z5 z6 z7 z8 z9 z10 z11 v_taped q268.1 q268.2 (ex8 + (1 : Int32)) ex8 (3 : Int32) q47 v_tape)) rfl (fun H locs hP hD hS => ?_)
            obtain rfl := Option.some.inj hf
            exact hret _ _ _ _ dX6_reads_281 hP hS
          clear hf
          have hf := hv267
          refine lv_icmp_ne (tgt := 266) hx hb dX6_reads_259 (by decide) (fun hc => ?_) (fun hc => ?_)
          · rw [if_neg hc] at hf
            refine lv_iconst (v := (0 : Int32)) hx hb dX6_reads_266 (by decide) ?_
            obtain rfl := Option.some.inj hf
            exact hj267 _ _ _ hP hD hS (lv_sub hl [1] rfl)
          · rw [if_pos hc] at hf
            refine lv_iconst (v := (1 : Int32)) hx hb dX6_reads_262 (by decide) ?_
            refine lv_goto (tgt := 267) hx hb dX6_reads_263 (by decide) ?_
            obtain rfl := Option.some.inj hf
            exact hj267 _ _ _ hP hD hS (lv_sub hl [1] rfl)
        · rw [if_neg hc] at hf
          refine lv_aload_n hx hb dX6_reads_137 rfl (lv_at hl 1 rfl) ?_
          refine lv_iconst (v := (2 : Int32)) hx hb dX6_reads_138 (by decide) ?_
          refine kput C inX6 tyX6_ok nmX6 hP hD hS 0 rfl rfl 10 (by decide) mw_697 rfl rfl rfl (Nat.le_of_ble_eq_true rfl) dX6_reads_139 (w2 := (wX6_reads k h0 h1 z0 z1 z2 z3 z4 z5 z6 z7 z8 z9 z10 z11 v_taped v_fault v_brokenAt ex8 ex8 (2 : Int32) q47 v_tape)) rfl (fun H locs hP hD hS => ?_)
          refine lv_aload_n hx hb dX6_reads_142 rfl (lv_at hl 1 rfl) ?_
          refine lv_iconst (v := (0 : Int32)) hx hb dX6_reads_143 (by decide) ?_
          refine kput C inX6 tyX6_ok nmX6 hP hD hS 0 rfl rfl 11 (by decide) mw_698 rfl rfl rfl (Nat.le_of_ble_eq_true rfl) dX6_reads_144 (w2 := (wX6_reads k h0 h1 z0 z1 z2 z3 z4 z5 z6 z7 z8 z9 z10 z11 v_taped v_fault v_brokenAt ex8 ex8 (2 : Int32) (0 : Int32) v_tape)) rfl (fun H locs hP hD hS => ?_)
          obtain ⟨ex147, hv, hf⟩ := bd_some hf
          refine wX6_reads_147 C h0 h1 z0 z1 z2 z3 z4 z5 z6 z7 z8 z9 z10 z11 v_taped v_fault v_brokenAt ex8 (2 : Int32) v_tape FU ex8 (0 : Int32) ex147 _ _ _ hv hP hD hS (lv_sub hl [1] rfl) (fun H locs ls hP hD hS hl => ?_)
          refine lv_aload_n hx hb dX6_reads_224 rfl (lv_at hl 0 rfl) ?_
          refine lv_aload_n hx hb dX6_reads_225 rfl (lv_at hl 0 rfl) ?_
          refine kget C inX6 hP 0 rfl rfl 8 (by decide) mw_695 rfl dX6_reads_226 ?_
          refine lv_aload_n hx hb dX6_reads_229 rfl (lv_at hl 0 rfl) ?_
          refine kget C inX6 hP 0 rfl rfl 9 (by decide) mw_696 rfl dX6_reads_230 ?_
          refine lv_isub hx hb dX6_reads_233 ?_
          refine lv_iconst (v := (2 : Int32)) hx hb dX6_reads_234 (by decide) ?_
          obtain ⟨v243, hv243, hf⟩ := bd_some hf
          have hj243 : ∀ (H : Heap) (locs : List Loc) (ls : Array Slot), va_P D vwCl (wX6_reads k h0 h1 z0 z1 z2 z3 z4 z5 z6 z7 z8 z9 z10 z11 v_taped v_fault v_brokenAt ex147.1 ex8 (2 : Int32) ex147.2 v_tape) H → va_D A (wX6_reads k h0 h1 z0 z1 z2 z3 z4 z5 z6 z7 z8 z9 z10 z11 v_taped v_fault v_brokenAt ex147.1 ex8 (2 : Int32) ex147.2 v_tape) → va_S A s.heap H locs → lv_has ls 2 [] → W p l e ({ frames := 1, cells := 0, slots := 0, locals := 25 } : Room) s m args below meth c H locs 0 0 Q (F0 m 243 ls [.int v243, .ref h0]) := by
            intro H locs ls hP hD hS hl
            refine lv_iconst (v := (1 : Int32)) hx hb dX6_reads_243 (by decide) ?_
            obtain ⟨q244, hq244, hf⟩ := bd_some hf
            refine kcVv C (kX6_must (l := l) (D := D) (k := k) h0 z0 z1 z2 z3 (.ref h1) (.int v_taped) (.int ex147.1) (.int (2 : Int32)) (.int ex147.2) z4 z5 z6 z7 z8 z9 z10 z11 v_fault v_brokenAt ex8 v243 (1 : Int32) q244 hq244) mt_X6_must mw_778 ⟨rfl, rfl, Nat.le_of_ble_eq_true rfl, Nat.le_of_ble_eq_true rfl⟩ hP hD hS 0 rfl rfl rfl [0] rfl rfl [some 0, none] rfl rfl (w2 := (wX6_reads k h0 h1 z0 z1 z2 z3 z4 z5 z6 z7 z8 z9 z10 z11 v_taped q244.1 q244.2 ex147.1 ex8 (2 : Int32) ex147.2 v_tape)) rfl rfl rfl hl.1 (rest := []) (Nat.le_of_ble_eq_true rfl) rfl dX6_reads_244 ⟨Nat.zero_le _, Nat.zero_le _⟩ (fun H locs hP hD hS => ?_)
            refine lv_goto (tgt := 281) hx hb dX6_reads_247 (by decide) ?_
            obtain rfl := Option.some.inj hf
            exact hret _ _ _ _ dX6_reads_281 hP hS
          clear hf
          have hf := hv243
          refine lv_icmp_gt (tgt := 242) hx hb dX6_reads_235 (by decide) (fun hc => ?_) (fun hc => ?_)
          · rw [if_pos hc] at hf
            refine lv_iconst (v := (0 : Int32)) hx hb dX6_reads_242 (by decide) ?_
            obtain rfl := Option.some.inj hf
            exact hj243 _ _ _ hP hD hS (lv_sub hl [] rfl)
          · rw [if_neg hc] at hf
            refine lv_iconst (v := (1 : Int32)) hx hb dX6_reads_238 (by decide) ?_
            refine lv_goto (tgt := 243) hx hb dX6_reads_239 (by decide) ?_
            obtain rfl := Option.some.inj hf
            exact hj243 _ _ _ hP hD hS (lv_sub hl [] rfl)
      · rw [if_neg hc] at hf
        refine lv_aload_n hx hb dX6_reads_84 rfl (lv_at hl 1 rfl) ?_
        refine lv_iconst (v := (1 : Int32)) hx hb dX6_reads_85 (by decide) ?_
        refine kput C inX6 tyX6_ok nmX6 hP hD hS 0 rfl rfl 10 (by decide) mw_697 rfl rfl rfl (Nat.le_of_ble_eq_true rfl) dX6_reads_86 (w2 := (wX6_reads k h0 h1 z0 z1 z2 z3 z4 z5 z6 z7 z8 z9 z10 z11 v_taped v_fault v_brokenAt ex8 ex8 (1 : Int32) q47 v_tape)) rfl (fun H locs hP hD hS => ?_)
        obtain ⟨t, hv, hf⟩ := bd_some hf
        refine wX6_reads_89 C h0 h1 z0 z1 z2 z3 z4 z5 z6 z7 z8 z9 z10 z11 v_taped v_fault v_brokenAt ex8 (1 : Int32) q47 v_tape FU ex8 t _ _ _ hv hP hD hS (lv_sub hl [1] rfl) (fun H locs ls pc hdg hP hS => ?_)
        obtain rfl := Option.some.inj hf
        exact hret _ _ _ _ hdg hP hS
    · rw [if_pos hc] at hf
      refine lv_aload_n hx hb dX6_reads_62 rfl (lv_at hl 1 rfl) ?_
      refine lv_iconst (v := (0 : Int32)) hx hb dX6_reads_63 (by decide) ?_
      refine kput C inX6 tyX6_ok nmX6 hP hD hS 0 rfl rfl 10 (by decide) mw_697 rfl rfl rfl (Nat.le_of_ble_eq_true rfl) dX6_reads_64 (w2 := (wX6_reads k h0 h1 z0 z1 z2 z3 z4 z5 z6 z7 z8 z9 z10 z11 v_taped v_fault v_brokenAt ex8 ex8 (0 : Int32) q47 v_tape)) rfl (fun H locs hP hD hS => ?_)
      refine lv_goto (tgt := 281) hx hb dX6_reads_67 (by decide) ?_
      obtain rfl := Option.some.inj hf
      exact hret _ _ _ _ dX6_reads_281 hP hS
  · rw [if_neg hc] at hf
    obtain rfl := Option.some.inj hf
    exact hret _ _ _ _ dX6_reads_7 hP hS
set_option maxHeartbeats 4000000 in
set_option maxRecDepth 100000 in
theorem wX6_wordNow_55 {p : Program} {l : Launch} {e : Env} {s : State} {m : MethodId} {args : Array Value} {below : List Frame} {meth : Method} {c : Code} {A : Nat → Prop} {Q : State → Prop} {D : va_G} {k : Nat → ClassId} (C : Cx p s m args c cX6_wordNow 4 RX6 A D k) (h0 h1 h2 h3 : Nat) (z0 z1 z2 z3 z4 z5 z6 z7 z8 z9 z10 z11 z12 : Value) (v_taped : Int32) (v_spot : Int32) (v_here : Int32) (v_token : Int32) (v_tape : Nat → Int32) (v_ends : Nat → Int32) (v_words : Nat → Int32) (y1 : Int32) : ∀ (f : Nat) (y2 : Int32) (y3 : Int32) (ex : (Int32)) (H : Heap) (locs : List Loc) (ls : Array Slot), fX6_wordNow_55 v_taped v_here v_tape v_ends v_words y1 f y2 y3 = some ex → va_P D vwCl (wX6_wordNow k h0 h1 h2 h3 z0 z1 z2 z3 z4 z5 z6 z7 z8 z9 z10 z11 z12 v_taped v_spot v_here v_token v_tape v_ends v_words) H → va_D A (wX6_wordNow k h0 h1 h2 h3 z0 z1 z2 z3 z4 z5 z6 z7 z8 z9 z10 z11 z12 v_taped v_spot v_here v_token v_tape v_ends v_words) → va_S A s.heap H locs → lv_has ls 4 [(0, .ref h0), (1, .int y1), (2, .int y2), (3, .int y3)] → (∀ (H : Heap) (locs : List Loc) (ls : Array Slot), va_P D vwCl (wX6_wordNow k h0 h1 h2 h3 z0 z1 z2 z3 z4 z5 z6 z7 z8 z9 z10 z11 z12 v_taped v_spot v_here v_token v_tape v_ends v_words) H → va_D A (wX6_wordNow k h0 h1 h2 h3 z0 z1 z2 z3 z4 z5 z6 z7 z8 z9 z10 z11 z12 v_taped v_spot v_here v_token v_tape v_ends v_words) → va_S A s.heap H locs → lv_has ls 4 [(0, .ref h0), (1, .int y1), (2, .int ex)] → W p l e ({ frames := 1, cells := 0, slots := 0, locals := 21 } : Room) s m args below meth c H locs 0 0 Q (F0 m 109 ls [])) → W p l e ({ frames := 1, cells := 0, slots := 0, locals := 21 } : Room) s m args below meth c H locs 0 0 Q (F0 m 55 ls []) := by
  obtain ⟨hx, hb, -⟩ := id C
  intro f
  induction f with
  | zero =>
    intro y2 y3 ex H locs ls hf hP hD hS hl hk
    cases hf
  | succ f ih =>
    intro y2 y3 ex H locs ls hf hP hD hS hl hk
    rw [fX6_wordNow_55] at hf
    refine lv_iload_n hx hb dX6_wordNow_55 rfl (lv_at hl 3 rfl) ?_
    refine lv_aload_n hx hb dX6_wordNow_56 rfl (lv_at hl 0 rfl) ?_
    refine kget C inX6 hP 0 rfl rfl 12 (by decide) mw_699 rfl dX6_wordNow_57 ?_
    refine lv_iload_n hx hb dX6_wordNow_60 rfl (lv_at hl 1 rfl) ?_
    refine lv_iconst (v := (1 : Int32)) hx hb dX6_wordNow_61 (by decide) ?_
    refine lv_iadd hx hb dX6_wordNow_62 ?_
    obtain ⟨hin, hf⟩ := gd_some hf
    refine kiald C hP 2 rfl hin dX6_wordNow_63 (j := (y1 + (1 : Int32)).toNatClampNeg) rfl ?_
    refine lv_icmp_ge (tgt := 109) hx hb dX6_wordNow_64 (by decide) (fun hc => ?_) (fun hc => ?_)
    · rw [if_pos hc] at hf
      obtain rfl := Option.some.inj hf
      exact hk _ _ _ hP hD hS (lv_sub hl [0, 1, 2] rfl)
    · rw [if_neg hc] at hf
      refine lv_iload_n hx hb dX6_wordNow_67 rfl (lv_at hl 2 rfl) ?_
      refine lv_if_eq (tgt := 109) hx hb dX6_wordNow_68 (by decide) (fun hc => ?_) (fun hc => ?_)
      · rw [if_pos hc] at hf
        obtain rfl := Option.some.inj hf
        exact hk _ _ _ hP hD hS (lv_sub hl [0, 1, 2] rfl)
      · rw [if_neg hc] at hf
        refine lv_aload_n hx hb dX6_wordNow_71 rfl (lv_at hl 0 rfl) ?_
        refine lv_aload_n hx hb dX6_wordNow_72 rfl (lv_at hl 0 rfl) ?_
        refine kget C inX6 hP 0 rfl rfl 9 (by decide) mw_696 rfl dX6_wordNow_73 ?_
        refine lv_iload_n hx hb dX6_wordNow_76 rfl (lv_at hl 3 rfl) ?_
        refine lv_iadd hx hb dX6_wordNow_77 ?_
        refine lv_aload_n hx hb dX6_wordNow_78 rfl (lv_at hl 0 rfl) ?_
        refine kget C inX6 hP 0 rfl rfl 12 (by decide) mw_699 rfl dX6_wordNow_79 ?_
        refine lv_iload_n hx hb dX6_wordNow_82 rfl (lv_at hl 1 rfl) ?_
        obtain ⟨hin, hf⟩ := gd_some hf
        refine kiald C hP 2 rfl hin dX6_wordNow_83 (j := y1.toNatClampNeg) rfl ?_
        refine lv_isub hx hb dX6_wordNow_84 ?_
        obtain ⟨q85, hq85, hf⟩ := bd_some hf
        refine kcVi C (kX6_byteAt (l := l) (D := D) (k := k) h0 h1 z0 z1 z2 z3 z4 z5 (.int v_spot) (.int v_here) (.int v_token) z6 (.ref h2) (.ref h3) z7 z8 z9 z10 z11 z12 v_taped v_tape ((v_here + y3) - (v_ends y1.toNatClampNeg)) q85 hq85) mt_X6_byteAt mw_770 ⟨rfl, rfl, Nat.le_of_ble_eq_true rfl, Nat.le_of_ble_eq_true rfl⟩ hP hD hS 0 rfl rfl rfl [0, 1] rfl rfl [some 0, some 1, none, none] rfl rfl (w2 := (wX6_wordNow k h0 h1 h2 h3 z0 z1 z2 z3 z4 z5 z6 z7 z8 z9 z10 z11 z12 v_taped v_spot v_here v_token v_tape v_ends v_words)) rfl rfl rfl hl.1 (rest := []) (Nat.le_of_ble_eq_true rfl) rfl dX6_wordNow_85 ⟨Nat.zero_le _, Nat.zero_le _⟩ (fun H locs hP hD hS => ?_)
        refine lv_aload_n hx hb dX6_wordNow_88 rfl (lv_at hl 0 rfl) ?_
        refine kget C inX6 hP 0 rfl rfl 13 (by decide) mw_700 rfl dX6_wordNow_89 ?_
        refine lv_iload_n hx hb dX6_wordNow_92 rfl (lv_at hl 3 rfl) ?_
        obtain ⟨hin, hf⟩ := gd_some hf
        refine kiald C hP 3 rfl hin dX6_wordNow_93 (j := y3.toNatClampNeg) rfl ?_
        refine lv_icmp_ne (tgt := 101) hx hb dX6_wordNow_94 (by decide) (fun hc => ?_) (fun hc => ?_)
        · rw [if_neg hc] at hf
          refine lv_iconst (v := (0 : Int32)) hx hb dX6_wordNow_101 (by decide) ?_
          refine lv_istore_n (lv' := [(2, .int (0 : Int32)), (0, .ref h0), (1, .int y1), (3, .int y3)]) hx hb dX6_wordNow_102 rfl hl (by decide) rfl (fun ls hl => ?_)
          refine lv_iinc (v := (y3 + (1 : Int32))) (lv' := [(3, .int (y3 + (1 : Int32))), (2, .int (0 : Int32)), (0, .ref h0), (1, .int y1)]) hx hb dX6_wordNow_103 hl (k := 3) rfl rfl (by decide) rfl (fun ls hl => ?_)
          refine lv_goto (tgt := 55) hx hb dX6_wordNow_106 (by decide) ?_
          exact ih (0 : Int32) (y3 + (1 : Int32)) _ _ _ _ hf hP hD hS (lv_sub hl [2, 3, 1, 0] rfl) hk
        · rw [if_pos hc] at hf
          refine lv_iconst (v := (1 : Int32)) hx hb dX6_wordNow_97 (by decide) ?_
          refine lv_goto (tgt := 102) hx hb dX6_wordNow_98 (by decide) ?_
          refine lv_istore_n (lv' := [(2, .int (1 : Int32)), (0, .ref h0), (1, .int y1), (3, .int y3)]) hx hb dX6_wordNow_102 rfl hl (by decide) rfl (fun ls hl => ?_)
          refine lv_iinc (v := (y3 + (1 : Int32))) (lv' := [(3, .int (y3 + (1 : Int32))), (2, .int (1 : Int32)), (0, .ref h0), (1, .int y1)]) hx hb dX6_wordNow_103 hl (k := 3) rfl rfl (by decide) rfl (fun ls hl => ?_)
          refine lv_goto (tgt := 55) hx hb dX6_wordNow_106 (by decide) ?_
          exact ih (1 : Int32) (y3 + (1 : Int32)) _ _ _ _ hf hP hD hS (lv_sub hl [2, 3, 1, 0] rfl) hk
set_option maxHeartbeats 4000000 in
set_option maxRecDepth 100000 in
theorem wX6_wordNow_2 {p : Program} {l : Launch} {e : Env} {s : State} {m : MethodId} {args : Array Value} {below : List Frame} {meth : Method} {c : Code} {A : Nat → Prop} {Q : State → Prop} {D : va_G} {k : Nat → ClassId} (C : Cx p s m args c cX6_wordNow 4 RX6 A D k) (h0 h1 h2 h3 : Nat) (z0 z1 z2 z3 z4 z5 z6 z7 z8 z9 z10 z11 z12 : Value) (v_taped : Int32) (v_spot : Int32) (v_here : Int32) (v_token : Int32) (v_tape : Nat → Int32) (v_ends : Nat → Int32) (v_words : Nat → Int32) : ∀ (f : Nat) (y1 : Int32) (u : (Int32) ⊕ (Unit)) (H : Heap) (locs : List Loc) (ls : Array Slot), fX6_wordNow_2 v_taped v_spot v_here v_token v_tape v_ends v_words f y1 = some u → va_P D vwCl (wX6_wordNow k h0 h1 h2 h3 z0 z1 z2 z3 z4 z5 z6 z7 z8 z9 z10 z11 z12 v_taped v_spot v_here v_token v_tape v_ends v_words) H → va_D A (wX6_wordNow k h0 h1 h2 h3 z0 z1 z2 z3 z4 z5 z6 z7 z8 z9 z10 z11 z12 v_taped v_spot v_here v_token v_tape v_ends v_words) → va_S A s.heap H locs → lv_has ls 4 [(0, .ref h0), (1, .int y1)] → (∀ ex, u = .inr ex → ∀ (H : Heap) (locs : List Loc) (ls : Array Slot), va_P D vwCl (wX6_wordNow k h0 h1 h2 h3 z0 z1 z2 z3 z4 z5 z6 z7 z8 z9 z10 z11 z12 v_taped v_spot v_here v_token v_tape v_ends v_words) H → va_D A (wX6_wordNow k h0 h1 h2 h3 z0 z1 z2 z3 z4 z5 z6 z7 z8 z9 z10 z11 z12 v_taped v_spot v_here v_token v_tape v_ends v_words) → va_S A s.heap H locs → lv_has ls 4 [] → W p l e ({ frames := 1, cells := 0, slots := 0, locals := 21 } : Room) s m args below meth c H locs 0 0 Q (F0 m 121 ls [])) → (∀ t, u = .inl t → ∀ (H : Heap) (locs : List Loc) (ls : Array Slot) (pc : Nat), decode cX6_wordNow pc = .ok (.ireturn, 1) → va_P D vwCl (wX6_wordNow k h0 h1 h2 h3 z0 z1 z2 z3 z4 z5 z6 z7 z8 z9 z10 z11 z12 v_taped v_spot v_here v_token v_tape v_ends v_words) H → va_S A s.heap H locs → W p l e ({ frames := 1, cells := 0, slots := 0, locals := 21 } : Room) s m args below meth c H locs 0 0 Q (F0 m pc ls [.int t])) → W p l e ({ frames := 1, cells := 0, slots := 0, locals := 21 } : Room) s m args below meth c H locs 0 0 Q (F0 m 2 ls []) := by
  obtain ⟨hx, hb, -⟩ := id C
  intro f
  induction f with
  | zero =>
    intro y1 u H locs ls hf hP hD hS hl hk hr
    cases hf
  | succ f ih =>
    intro y1 u H locs ls hf hP hD hS hl hk hr
    rw [fX6_wordNow_2] at hf
    refine lv_iload_n hx hb dX6_wordNow_2 rfl (lv_at hl 1 rfl) ?_
    refine lv_iconst (v := (2 : Int32)) hx hb dX6_wordNow_3 (by decide) ?_
    refine lv_icmp_gt (tgt := 121) hx hb dX6_wordNow_4 (by decide) (fun hc => ?_) (fun hc => ?_)
    · rw [if_pos hc] at hf
      obtain rfl := Option.some.inj hf
      exact hk _ rfl _ _ _ hP hD hS (lv_sub hl [] rfl)
    · rw [if_neg hc] at hf
      refine lv_aload_n hx hb dX6_wordNow_7 rfl (lv_at hl 0 rfl) ?_
      refine kget C inX6 hP 0 rfl rfl 10 (by decide) mw_697 rfl dX6_wordNow_8 ?_
      refine lv_iconst (v := (1 : Int32)) hx hb dX6_wordNow_11 (by decide) ?_
      obtain ⟨v47, hv47, hf⟩ := bd_some hf
      have hj47 : ∀ (H : Heap) (locs : List Loc) (ls : Array Slot), va_P D vwCl (wX6_wordNow k h0 h1 h2 h3 z0 z1 z2 z3 z4 z5 z6 z7 z8 z9 z10 z11 z12 v_taped v_spot v_here v_token v_tape v_ends v_words) H → va_D A (wX6_wordNow k h0 h1 h2 h3 z0 z1 z2 z3 z4 z5 z6 z7 z8 z9 z10 z11 z12 v_taped v_spot v_here v_token v_tape v_ends v_words) → va_S A s.heap H locs → lv_has ls 4 [(0, .ref h0), (1, .int y1)] → W p l e ({ frames := 1, cells := 0, slots := 0, locals := 21 } : Room) s m args below meth c H locs 0 0 Q (F0 m 47 ls [.int v47]) := by
        intro H locs ls hP hD hS hl
        refine lv_istore_n (lv' := [(2, .int v47), (0, .ref h0), (1, .int y1)]) hx hb dX6_wordNow_47 rfl hl (by decide) rfl (fun ls hl => ?_)
        refine lv_aload_n hx hb dX6_wordNow_48 rfl (lv_at hl 1 rfl) ?_
        refine kget C inX6 hP 0 rfl rfl 12 (by decide) mw_699 rfl dX6_wordNow_49 ?_
        refine lv_iload_n hx hb dX6_wordNow_52 rfl (lv_at hl 2 rfl) ?_
        obtain ⟨hin, hf⟩ := gd_some hf
        refine kiald C hP 2 rfl hin dX6_wordNow_53 (j := y1.toNatClampNeg) rfl ?_
        refine lv_istore_n (lv' := [(3, .int (v_ends y1.toNatClampNeg)), (2, .int v47), (0, .ref h0), (1, .int y1)]) hx hb dX6_wordNow_54 rfl hl (by decide) rfl (fun ls hl => ?_)
        obtain ⟨ex55, hv, hf⟩ := bd_some hf
        refine wX6_wordNow_55 C h0 h1 h2 h3 z0 z1 z2 z3 z4 z5 z6 z7 z8 z9 z10 z11 z12 v_taped v_spot v_here v_token v_tape v_ends v_words y1 FU v47 (v_ends y1.toNatClampNeg) ex55 _ _ _ hv hP hD hS (lv_sub hl [2, 3, 1, 0] rfl) (fun H locs ls hP hD hS hl => ?_)
        refine lv_iload_n hx hb dX6_wordNow_109 rfl (lv_at hl 2 rfl) ?_
        refine lv_if_eq (tgt := 115) hx hb dX6_wordNow_110 (by decide) (fun hc => ?_) (fun hc => ?_)
        · rw [if_pos hc] at hf
          refine lv_iinc (v := (y1 + (1 : Int32))) (lv' := [(1, .int (y1 + (1 : Int32))), (0, .ref h0), (2, .int ex55)]) hx hb dX6_wordNow_115 hl (k := 1) rfl rfl (by decide) rfl (fun ls hl => ?_)
          refine lv_goto (tgt := 2) hx hb dX6_wordNow_118 (by decide) ?_
          exact ih (y1 + (1 : Int32)) _ _ _ _ hf hP hD hS (lv_sub hl [1, 0] rfl) hk hr
        · rw [if_neg hc] at hf
          refine lv_iload_n hx hb dX6_wordNow_113 rfl (lv_at hl 1 rfl) ?_
          obtain rfl := Option.some.inj hf
          exact hr _ rfl _ _ _ _ dX6_wordNow_114 hP hS
      clear hf
      have hf := hv47
      refine lv_icmp_ne (tgt := 46) hx hb dX6_wordNow_12 (by decide) (fun hc => ?_) (fun hc => ?_)
      · rw [if_neg hc] at hf
        refine lv_iconst (v := (0 : Int32)) hx hb dX6_wordNow_46 (by decide) ?_
        obtain rfl := Option.some.inj hf
        exact hj47 _ _ _ hP hD hS (lv_sub hl [0, 1] rfl)
      · rw [if_pos hc] at hf
        refine lv_aload_n hx hb dX6_wordNow_15 rfl (lv_at hl 0 rfl) ?_
        refine kget C inX6 hP 0 rfl rfl 8 (by decide) mw_695 rfl dX6_wordNow_16 ?_
        refine lv_aload_n hx hb dX6_wordNow_19 rfl (lv_at hl 0 rfl) ?_
        refine kget C inX6 hP 0 rfl rfl 9 (by decide) mw_696 rfl dX6_wordNow_20 ?_
        refine lv_isub hx hb dX6_wordNow_23 ?_
        refine lv_aload_n hx hb dX6_wordNow_24 rfl (lv_at hl 0 rfl) ?_
        refine kget C inX6 hP 0 rfl rfl 12 (by decide) mw_699 rfl dX6_wordNow_25 ?_
        refine lv_iload_n hx hb dX6_wordNow_28 rfl (lv_at hl 1 rfl) ?_
        refine lv_iconst (v := (1 : Int32)) hx hb dX6_wordNow_29 (by decide) ?_
        refine lv_iadd hx hb dX6_wordNow_30 ?_
        obtain ⟨hin, hf⟩ := gd_some hf
        refine kiald C hP 2 rfl hin dX6_wordNow_31 (j := (y1 + (1 : Int32)).toNatClampNeg) rfl ?_
        refine lv_aload_n hx hb dX6_wordNow_32 rfl (lv_at hl 0 rfl) ?_
        refine kget C inX6 hP 0 rfl rfl 12 (by decide) mw_699 rfl dX6_wordNow_33 ?_
        refine lv_iload_n hx hb dX6_wordNow_36 rfl (lv_at hl 1 rfl) ?_
        obtain ⟨hin, hf⟩ := gd_some hf
        refine kiald C hP 2 rfl hin dX6_wordNow_37 (j := y1.toNatClampNeg) rfl ?_
        refine lv_isub hx hb dX6_wordNow_38 ?_
        refine lv_icmp_ne (tgt := 46) hx hb dX6_wordNow_39 (by decide) (fun hc => ?_) (fun hc => ?_)
        · rw [if_neg hc] at hf
          refine lv_iconst (v := (0 : Int32)) hx hb dX6_wordNow_46 (by decide) ?_
          obtain rfl := Option.some.inj hf
          exact hj47 _ _ _ hP hD hS (lv_sub hl [0, 1] rfl)
        · rw [if_pos hc] at hf
          refine lv_iconst (v := (1 : Int32)) hx hb dX6_wordNow_42 (by decide) ?_
          refine lv_goto (tgt := 47) hx hb dX6_wordNow_43 (by decide) ?_
          obtain rfl := Option.some.inj hf
          exact hj47 _ _ _ hP hD hS (lv_sub hl [0, 1] rfl)
set_option maxHeartbeats 4000000 in
set_option maxRecDepth 100000 in
theorem kX6_wordNow {l : Launch} {D : va_G} {k : Nat → ClassId} (h0 h1 h2 h3 : Nat) (z0 z1 z2 z3 z4 z5 z6 z7 z8 z9 z10 z11 z12 : Value) (v_taped : Int32) (v_spot : Int32) (v_here : Int32) (v_token : Int32) (v_tape : Nat → Int32) (v_ends : Nat → Int32) (v_words : Nat → Int32) (q : Int32) (hf : fX6_wordNow v_taped v_spot v_here v_token v_tape v_ends v_words = some q) : KMi l yX6_wordNow cX6_wordNow 4 (some .int) ({ frames := 1, cells := 0, slots := 0, locals := 21 } : Room) D k [.ref h0] (wX6_wordNow k h0 h1 h2 h3 z0 z1 z2 z3 z4 z5 z6 z7 z8 z9 z10 z11 z12 v_taped v_spot v_here v_token v_tape v_ends v_words) q (wX6_wordNow k h0 h1 h2 h3 z0 z1 z2 z3 z4 z5 z6 z7 z8 z9 z10 z11 z12 v_taped v_spot v_here v_token v_tape v_ends v_words) := by
  refine kent_i (by decide) (Nat.le_of_ble_eq_true rfl) ?_
  intro p e s m below meth c A Q ls C hP hD hS hl hret
  obtain ⟨hx, hb, -⟩ := id C
  have hl : lv_has ls 4 [(0, .ref h0)] := hl
  unfold fX6_wordNow at hf
  generalize ([.ref h0] : List Value).toArray = args at *
  refine lv_iconst (v := (0 : Int32)) hx hb dX6_wordNow_0 (by decide) ?_
  refine lv_istore_n (lv' := [(1, .int (0 : Int32)), (0, .ref h0)]) hx hb dX6_wordNow_1 rfl hl (by decide) rfl (fun ls hl => ?_)
  obtain ⟨u2, hv, hf⟩ := lp_some hf
  refine wX6_wordNow_2 C h0 h1 h2 h3 z0 z1 z2 z3 z4 z5 z6 z7 z8 z9 z10 z11 z12 v_taped v_spot v_here v_token v_tape v_ends v_words FU (0 : Int32) u2 _ _ _ hv hP hD hS (lv_sub hl [1, 0] rfl) (fun ex2 ht H locs ls hP hD hS hl => ?_) (fun t ht H locs ls pc hdg hP hS => ?_)
  · subst ht
    refine lv_bipush (v := (-4 : Int32)) hx hb dX6_wordNow_121 (by decide) ?_
    obtain rfl := Option.some.inj hf
    exact hret _ _ _ _ dX6_wordNow_123 hP hS
  · subst ht
    obtain rfl := Option.some.inj hf
    exact hret _ _ _ _ hdg hP hS
set_option maxHeartbeats 4000000 in
set_option maxRecDepth 100000 in
theorem kX6_number {l : Launch} {D : va_G} {k : Nat → ClassId} (h0 h1 : Nat) (z0 z1 z2 z3 z4 z5 z6 z7 z8 z9 z10 z11 : Value) (v_taped : Int32) (v_fault : Int32) (v_brokenAt : Int32) (v_spot : Int32) (v_here : Int32) (v_token : Int32) (v_value : Int32) (v_tape : Nat → Int32) (x1 : Int32) (x2 : Int32) (q : Int32 × Int32 × Int32 × Int32 × Int32 × Int32 × Int32) (hf : fX6_number v_taped v_fault v_brokenAt v_spot v_here v_token v_value v_tape x1 x2 = some q) : KMi l yX6_number cX6_number 4 (some .int) ({ frames := 2, cells := 0, slots := 0, locals := 46 } : Room) D k [.ref h0, .int x1, .int x2] (wX6_number k h0 h1 z0 z1 z2 z3 z4 z5 z6 z7 z8 z9 z10 z11 v_taped v_fault v_brokenAt v_spot v_here v_token v_value v_tape) q.1 (wX6_number k h0 h1 z0 z1 z2 z3 z4 z5 z6 z7 z8 z9 z10 z11 v_taped q.2.1 q.2.2.1 q.2.2.2.1 q.2.2.2.2.1 q.2.2.2.2.2.1 q.2.2.2.2.2.2 v_tape) := by
  refine kent_i (by decide) (Nat.le_of_ble_eq_true rfl) ?_
  intro p e s m below meth c A Q ls C hP hD hS hl hret
  obtain ⟨hx, hb, -⟩ := id C
  have hl : lv_has ls 4 [(0, .ref h0), (1, .int x1), (2, .int x2)] := hl
  unfold fX6_number at hf
  generalize ([.ref h0, .int x1, .int x2] : List Value).toArray = args at *
  refine lv_aload_n hx hb dX6_number_0 rfl (lv_at hl 0 rfl) ?_
  refine lv_aload_n hx hb dX6_number_1 rfl (lv_at hl 0 rfl) ?_
  refine kget C inX6 hP 0 rfl rfl 10 (by decide) mw_697 rfl dX6_number_2 ?_
  refine lv_iconst (v := (2 : Int32)) hx hb dX6_number_5 (by decide) ?_
  obtain ⟨v14, hv14, hf⟩ := bd_some hf
  have hj14 : ∀ (H : Heap) (locs : List Loc) (ls : Array Slot), va_P D vwCl (wX6_number k h0 h1 z0 z1 z2 z3 z4 z5 z6 z7 z8 z9 z10 z11 v_taped v_fault v_brokenAt v_spot v_here v_token v_value v_tape) H → va_D A (wX6_number k h0 h1 z0 z1 z2 z3 z4 z5 z6 z7 z8 z9 z10 z11 v_taped v_fault v_brokenAt v_spot v_here v_token v_value v_tape) → va_S A s.heap H locs → lv_has ls 4 [(0, .ref h0), (1, .int x1), (2, .int x2)] → W p l e ({ frames := 2, cells := 0, slots := 0, locals := 46 } : Room) s m args below meth c H locs 0 0 Q (F0 m 14 ls [.int v14, .ref h0]) := by
    intro H locs ls hP hD hS hl
    refine lv_iconst (v := (2 : Int32)) hx hb dX6_number_14 (by decide) ?_
    obtain ⟨q15, hq15, hf⟩ := bd_some hf
    refine kcVv C (kX6_must (l := l) (D := D) (k := k) h0 z0 z1 z2 z3 (.ref h1) (.int v_taped) (.int v_spot) (.int v_token) (.int v_value) z4 z5 z6 z7 z8 z9 z10 z11 v_fault v_brokenAt v_here v14 (2 : Int32) q15 hq15) mt_X6_must mw_778 ⟨rfl, rfl, Nat.le_of_ble_eq_true rfl, Nat.le_of_ble_eq_true rfl⟩ hP hD hS 0 rfl rfl rfl [0] rfl rfl [some 0, none] rfl rfl (w2 := (wX6_number k h0 h1 z0 z1 z2 z3 z4 z5 z6 z7 z8 z9 z10 z11 v_taped q15.1 q15.2 v_spot v_here v_token v_value v_tape)) rfl rfl rfl hl.1 (rest := []) (Nat.le_of_ble_eq_true rfl) rfl dX6_number_15 ⟨Nat.zero_le _, Nat.zero_le _⟩ (fun H locs hP hD hS => ?_)
    refine lv_aload_n hx hb dX6_number_18 rfl (lv_at hl 0 rfl) ?_
    refine lv_aload_n hx hb dX6_number_19 rfl (lv_at hl 0 rfl) ?_
    refine kget C inX6 hP 0 rfl rfl 6 (by decide) mw_693 rfl dX6_number_20 ?_
    obtain ⟨v46, hv46, hf⟩ := bd_some hf
    have hj46 : ∀ (H : Heap) (locs : List Loc) (ls : Array Slot), va_P D vwCl (wX6_number k h0 h1 z0 z1 z2 z3 z4 z5 z6 z7 z8 z9 z10 z11 v_taped q15.1 q15.2 v_spot v_here v_token v_value v_tape) H → va_D A (wX6_number k h0 h1 z0 z1 z2 z3 z4 z5 z6 z7 z8 z9 z10 z11 v_taped q15.1 q15.2 v_spot v_here v_token v_value v_tape) → va_S A s.heap H locs → lv_has ls 4 [(0, .ref h0)] → W p l e ({ frames := 2, cells := 0, slots := 0, locals := 46 } : Room) s m args below meth c H locs 0 0 Q (F0 m 46 ls [.int v46, .ref h0]) := by
      intro H locs ls hP hD hS hl
      refine lv_iconst (v := (3 : Int32)) hx hb dX6_number_46 (by decide) ?_
      obtain ⟨q47, hq47, hf⟩ := bd_some hf
      refine kcVv C (kX6_must (l := l) (D := D) (k := k) h0 z0 z1 z2 z3 (.ref h1) (.int v_taped) (.int v_spot) (.int v_token) (.int v_value) z4 z5 z6 z7 z8 z9 z10 z11 q15.1 q15.2 v_here v46 (3 : Int32) q47 hq47) mt_X6_must mw_778 ⟨rfl, rfl, Nat.le_of_ble_eq_true rfl, Nat.le_of_ble_eq_true rfl⟩ hP hD hS 0 rfl rfl rfl [0] rfl rfl [some 0, none] rfl rfl (w2 := (wX6_number k h0 h1 z0 z1 z2 z3 z4 z5 z6 z7 z8 z9 z10 z11 v_taped q47.1 q47.2 v_spot v_here v_token v_value v_tape)) rfl rfl rfl hl.1 (rest := []) (Nat.le_of_ble_eq_true rfl) rfl dX6_number_47 ⟨Nat.zero_le _, Nat.zero_le _⟩ (fun H locs hP hD hS => ?_)
      refine lv_aload_n hx hb dX6_number_50 rfl (lv_at hl 0 rfl) ?_
      refine kget C inX6 hP 0 rfl rfl 6 (by decide) mw_693 rfl dX6_number_51 ?_
      obtain ⟨v65, hv65, hf⟩ := bd_some hf
      have hj65 : ∀ (H : Heap) (locs : List Loc) (ls : Array Slot), va_P D vwCl (wX6_number k h0 h1 z0 z1 z2 z3 z4 z5 z6 z7 z8 z9 z10 z11 v_taped q47.1 q47.2 v_spot v_here v_token v_value v_tape) H → va_D A (wX6_number k h0 h1 z0 z1 z2 z3 z4 z5 z6 z7 z8 z9 z10 z11 v_taped q47.1 q47.2 v_spot v_here v_token v_value v_tape) → va_S A s.heap H locs → lv_has ls 4 [(0, .ref h0)] → W p l e ({ frames := 2, cells := 0, slots := 0, locals := 46 } : Room) s m args below meth c H locs 0 0 Q (F0 m 65 ls [.int v65]) := by
        intro H locs ls hP hD hS hl
        refine lv_istore_n (lv' := [(3, .int v65), (0, .ref h0)]) hx hb dX6_number_65 rfl hl (by decide) rfl (fun ls hl => ?_)
        refine lv_aload_n hx hb dX6_number_66 rfl (lv_at hl 1 rfl) ?_
        obtain ⟨q67, hq67, hf⟩ := bd_some hf
        refine kcVv C (kX6_reads (l := l) (D := D) (k := k) h0 h1 z0 z1 z2 z3 z4 z5 z6 z7 z8 z9 z10 z11 v_taped q47.1 q47.2 v_spot v_here v_token v_value v_tape q67 hq67) mt_X6_reads mw_766 ⟨rfl, rfl, Nat.le_of_ble_eq_true rfl, Nat.le_of_ble_eq_true rfl⟩ hP hD hS 0 rfl rfl rfl [0, 1] rfl rfl [some 0, some 1] rfl rfl (w2 := (wX6_number k h0 h1 z0 z1 z2 z3 z4 z5 z6 z7 z8 z9 z10 z11 v_taped q67.1 q67.2.1 q67.2.2.1 q67.2.2.2.1 q67.2.2.2.2.1 q67.2.2.2.2.2 v_tape)) rfl rfl rfl hl.1 (rest := []) (Nat.le_of_ble_eq_true rfl) rfl dX6_number_67 ⟨Nat.zero_le _, Nat.zero_le _⟩ (fun H locs hP hD hS => ?_)
        refine lv_iload_n hx hb dX6_number_70 rfl (lv_at hl 0 rfl) ?_
        obtain rfl := Option.some.inj hf
        exact hret _ _ _ _ dX6_number_71 hP hS
      clear hf
      have hf := hv65
      refine lv_if_le (tgt := 61) hx hb dX6_number_54 (by decide) (fun hc => ?_) (fun hc => ?_)
      · rw [if_pos hc] at hf
        refine lv_aload_n hx hb dX6_number_61 rfl (lv_at hl 0 rfl) ?_
        refine kget C inX6 hP 0 rfl rfl 11 (by decide) mw_698 rfl dX6_number_62 ?_
        obtain rfl := Option.some.inj hf
        exact hj65 _ _ _ hP hD hS (lv_sub hl [0] rfl)
      · rw [if_neg hc] at hf
        refine lv_iconst (v := (0 : Int32)) hx hb dX6_number_57 (by decide) ?_
        refine lv_goto (tgt := 65) hx hb dX6_number_58 (by decide) ?_
        obtain rfl := Option.some.inj hf
        exact hj65 _ _ _ hP hD hS (lv_sub hl [0] rfl)
    clear hf
    have hf := hv46
    refine lv_if_gt (tgt := 41) hx hb dX6_number_23 (by decide) (fun hc => ?_) (fun hc => ?_)
    · rw [if_pos hc] at hf
      refine lv_iconst (v := (1 : Int32)) hx hb dX6_number_41 (by decide) ?_
      refine lv_goto (tgt := 46) hx hb dX6_number_42 (by decide) ?_
      obtain rfl := Option.some.inj hf
      exact hj46 _ _ _ hP hD hS (lv_sub hl [0] rfl)
    · rw [if_neg hc] at hf
      refine lv_aload_n hx hb dX6_number_26 rfl (lv_at hl 0 rfl) ?_
      refine kget C inX6 hP 0 rfl rfl 11 (by decide) mw_698 rfl dX6_number_27 ?_
      refine lv_i2l (v := (v_value.toInt64)) hx hb dX6_number_30 rfl ?_
      refine lv_iload_n hx hb dX6_number_31 rfl (lv_at hl 1 rfl) ?_
      refine lv_i2l (v := (x1.toInt64)) hx hb dX6_number_32 rfl ?_
      refine lv_iload_n hx hb dX6_number_33 rfl (lv_at hl 2 rfl) ?_
      refine lv_i2l (v := (x2.toInt64)) hx hb dX6_number_34 rfl ?_
      obtain ⟨q35, hq35, hf⟩ := bd_some hf
      refine kcSi C (kX6_in (l := l) (D := D) (k := k) (v_value.toInt64) (x1.toInt64) (x2.toInt64) q35 hq35) mt_X6_in mw_753 ⟨rfl, rfl, Nat.le_of_ble_eq_true rfl, Nat.le_of_ble_eq_true rfl⟩ hP hD hS [] rfl rfl [none, none] rfl rfl (w2 := (wX6_number k h0 h1 z0 z1 z2 z3 z4 z5 z6 z7 z8 z9 z10 z11 v_taped q15.1 q15.2 v_spot v_here v_token v_value v_tape)) rfl rfl rfl hl.1 (rest := [.ref h0]) (Nat.le_of_ble_eq_true rfl) rfl dX6_number_35 ⟨Nat.zero_le _, Nat.zero_le _⟩ (fun H locs hP hD hS => ?_)
      refine lv_if_eq (tgt := 45) hx hb dX6_number_38 (by decide) (fun hc => ?_) (fun hc => ?_)
      · rw [if_pos hc] at hf
        refine lv_iconst (v := (0 : Int32)) hx hb dX6_number_45 (by decide) ?_
        obtain rfl := Option.some.inj hf
        exact hj46 _ _ _ hP hD hS (lv_sub hl [0] rfl)
      · rw [if_neg hc] at hf
        refine lv_iconst (v := (1 : Int32)) hx hb dX6_number_41 (by decide) ?_
        refine lv_goto (tgt := 46) hx hb dX6_number_42 (by decide) ?_
        obtain rfl := Option.some.inj hf
        exact hj46 _ _ _ hP hD hS (lv_sub hl [0] rfl)
  clear hf
  have hf := hv14
  refine lv_icmp_ne (tgt := 13) hx hb dX6_number_6 (by decide) (fun hc => ?_) (fun hc => ?_)
  · rw [if_neg hc] at hf
    refine lv_iconst (v := (0 : Int32)) hx hb dX6_number_13 (by decide) ?_
    obtain rfl := Option.some.inj hf
    exact hj14 _ _ _ hP hD hS (lv_sub hl [0, 1, 2] rfl)
  · rw [if_pos hc] at hf
    refine lv_iconst (v := (1 : Int32)) hx hb dX6_number_9 (by decide) ?_
    refine lv_goto (tgt := 14) hx hb dX6_number_10 (by decide) ?_
    obtain rfl := Option.some.inj hf
    exact hj14 _ _ _ hP hD hS (lv_sub hl [0, 1, 2] rfl)
set_option maxHeartbeats 4000000 in
set_option maxRecDepth 100000 in
theorem kX6_readsNode {l : Launch} {D : va_G} {k : Nat → ClassId} (h0 h1 : Nat) (z0 z1 z2 z3 z4 z5 z6 z7 z8 z9 z10 : Value) (v_taped : Int32) (v_fault : Int32) (v_brokenAt : Int32) (v_spot : Int32) (v_here : Int32) (v_token : Int32) (v_value : Int32) (v_greatest : Int32) (v_tape : Nat → Int32) (x1 : Int32) (q : Int32 × Int32 × Int32 × Int32 × Int32 × Int32 × Int32 × Int32) (hf : fX6_readsNode v_taped v_fault v_brokenAt v_spot v_here v_token v_value v_greatest v_tape x1 = some q) : KMi l yX6_readsNode cX6_readsNode 3 (some .int) ({ frames := 2, cells := 0, slots := 0, locals := 46 } : Room) D k [.ref h0, .int x1] (wX6_readsNode k h0 h1 z0 z1 z2 z3 z4 z5 z6 z7 z8 z9 z10 v_taped v_fault v_brokenAt v_spot v_here v_token v_value v_greatest v_tape) q.1 (wX6_readsNode k h0 h1 z0 z1 z2 z3 z4 z5 z6 z7 z8 z9 z10 v_taped q.2.1 q.2.2.1 q.2.2.2.1 q.2.2.2.2.1 q.2.2.2.2.2.1 q.2.2.2.2.2.2.1 q.2.2.2.2.2.2.2 v_tape) := by
  refine kent_i (by decide) (Nat.le_of_ble_eq_true rfl) ?_
  intro p e s m below meth c A Q ls C hP hD hS hl hret
  obtain ⟨hx, hb, -⟩ := id C
  have hl : lv_has ls 3 [(0, .ref h0), (1, .int x1)] := hl
  unfold fX6_readsNode at hf
  generalize ([.ref h0, .int x1] : List Value).toArray = args at *
  refine lv_aload_n hx hb dX6_readsNode_0 rfl (lv_at hl 0 rfl) ?_
  refine lv_aload_n hx hb dX6_readsNode_1 rfl (lv_at hl 0 rfl) ?_
  refine kget C inX6 hP 0 rfl rfl 10 (by decide) mw_697 rfl dX6_readsNode_2 ?_
  refine lv_iconst (v := (2 : Int32)) hx hb dX6_readsNode_5 (by decide) ?_
  obtain ⟨v14, hv14, hf⟩ := bd_some hf
  have hj14 : ∀ (H : Heap) (locs : List Loc) (ls : Array Slot), va_P D vwCl (wX6_readsNode k h0 h1 z0 z1 z2 z3 z4 z5 z6 z7 z8 z9 z10 v_taped v_fault v_brokenAt v_spot v_here v_token v_value v_greatest v_tape) H → va_D A (wX6_readsNode k h0 h1 z0 z1 z2 z3 z4 z5 z6 z7 z8 z9 z10 v_taped v_fault v_brokenAt v_spot v_here v_token v_value v_greatest v_tape) → va_S A s.heap H locs → lv_has ls 3 [(0, .ref h0), (1, .int x1)] → W p l e ({ frames := 2, cells := 0, slots := 0, locals := 46 } : Room) s m args below meth c H locs 0 0 Q (F0 m 14 ls [.int v14, .ref h0]) := by
    intro H locs ls hP hD hS hl
    refine lv_iconst (v := (2 : Int32)) hx hb dX6_readsNode_14 (by decide) ?_
    obtain ⟨q15, hq15, hf⟩ := bd_some hf
    refine kcVv C (kX6_must (l := l) (D := D) (k := k) h0 z0 z1 z2 z3 (.ref h1) (.int v_taped) (.int v_spot) (.int v_token) (.int v_value) z4 z5 (.int v_greatest) z6 z7 z8 z9 z10 v_fault v_brokenAt v_here v14 (2 : Int32) q15 hq15) mt_X6_must mw_778 ⟨rfl, rfl, Nat.le_of_ble_eq_true rfl, Nat.le_of_ble_eq_true rfl⟩ hP hD hS 0 rfl rfl rfl [0] rfl rfl [some 0, none] rfl rfl (w2 := (wX6_readsNode k h0 h1 z0 z1 z2 z3 z4 z5 z6 z7 z8 z9 z10 v_taped q15.1 q15.2 v_spot v_here v_token v_value v_greatest v_tape)) rfl rfl rfl hl.1 (rest := []) (Nat.le_of_ble_eq_true rfl) rfl dX6_readsNode_15 ⟨Nat.zero_le _, Nat.zero_le _⟩ (fun H locs hP hD hS => ?_)
    refine lv_aload_n hx hb dX6_readsNode_18 rfl (lv_at hl 0 rfl) ?_
    refine lv_aload_n hx hb dX6_readsNode_19 rfl (lv_at hl 0 rfl) ?_
    refine kget C inX6 hP 0 rfl rfl 6 (by decide) mw_693 rfl dX6_readsNode_20 ?_
    obtain ⟨v46, hv46, hf⟩ := bd_some hf
    have hj46 : ∀ (H : Heap) (locs : List Loc) (ls : Array Slot), va_P D vwCl (wX6_readsNode k h0 h1 z0 z1 z2 z3 z4 z5 z6 z7 z8 z9 z10 v_taped q15.1 q15.2 v_spot v_here v_token v_value v_greatest v_tape) H → va_D A (wX6_readsNode k h0 h1 z0 z1 z2 z3 z4 z5 z6 z7 z8 z9 z10 v_taped q15.1 q15.2 v_spot v_here v_token v_value v_greatest v_tape) → va_S A s.heap H locs → lv_has ls 3 [(0, .ref h0), (1, .int x1)] → W p l e ({ frames := 2, cells := 0, slots := 0, locals := 46 } : Room) s m args below meth c H locs 0 0 Q (F0 m 46 ls [.int v46, .ref h0]) := by
      intro H locs ls hP hD hS hl
      refine lv_iconst (v := (3 : Int32)) hx hb dX6_readsNode_46 (by decide) ?_
      obtain ⟨q47, hq47, hf⟩ := bd_some hf
      refine kcVv C (kX6_must (l := l) (D := D) (k := k) h0 z0 z1 z2 z3 (.ref h1) (.int v_taped) (.int v_spot) (.int v_token) (.int v_value) z4 z5 (.int v_greatest) z6 z7 z8 z9 z10 q15.1 q15.2 v_here v46 (3 : Int32) q47 hq47) mt_X6_must mw_778 ⟨rfl, rfl, Nat.le_of_ble_eq_true rfl, Nat.le_of_ble_eq_true rfl⟩ hP hD hS 0 rfl rfl rfl [0] rfl rfl [some 0, none] rfl rfl (w2 := (wX6_readsNode k h0 h1 z0 z1 z2 z3 z4 z5 z6 z7 z8 z9 z10 v_taped q47.1 q47.2 v_spot v_here v_token v_value v_greatest v_tape)) rfl rfl rfl hl.1 (rest := []) (Nat.le_of_ble_eq_true rfl) rfl dX6_readsNode_47 ⟨Nat.zero_le _, Nat.zero_le _⟩ (fun H locs hP hD hS => ?_)
      refine lv_aload_n hx hb dX6_readsNode_50 rfl (lv_at hl 0 rfl) ?_
      refine lv_aload_n hx hb dX6_readsNode_51 rfl (lv_at hl 0 rfl) ?_
      refine kget C inX6 hP 0 rfl rfl 6 (by decide) mw_693 rfl dX6_readsNode_52 ?_
      obtain ⟨v71, hv71, hf⟩ := bd_some hf
      have hj71 : ∀ (H : Heap) (locs : List Loc) (ls : Array Slot), va_P D vwCl (wX6_readsNode k h0 h1 z0 z1 z2 z3 z4 z5 z6 z7 z8 z9 z10 v_taped q47.1 q47.2 v_spot v_here v_token v_value v_greatest v_tape) H → va_D A (wX6_readsNode k h0 h1 z0 z1 z2 z3 z4 z5 z6 z7 z8 z9 z10 v_taped q47.1 q47.2 v_spot v_here v_token v_value v_greatest v_tape) → va_S A s.heap H locs → lv_has ls 3 [(0, .ref h0)] → W p l e ({ frames := 2, cells := 0, slots := 0, locals := 46 } : Room) s m args below meth c H locs 0 0 Q (F0 m 71 ls [.int v71, .ref h0]) := by
        intro H locs ls hP hD hS hl
        refine lv_iconst (v := (5 : Int32)) hx hb dX6_readsNode_71 (by decide) ?_
        obtain ⟨q72, hq72, hf⟩ := bd_some hf
        refine kcVv C (kX6_must (l := l) (D := D) (k := k) h0 z0 z1 z2 z3 (.ref h1) (.int v_taped) (.int v_spot) (.int v_token) (.int v_value) z4 z5 (.int v_greatest) z6 z7 z8 z9 z10 q47.1 q47.2 v_here v71 (5 : Int32) q72 hq72) mt_X6_must mw_778 ⟨rfl, rfl, Nat.le_of_ble_eq_true rfl, Nat.le_of_ble_eq_true rfl⟩ hP hD hS 0 rfl rfl rfl [0] rfl rfl [some 0, none] rfl rfl (w2 := (wX6_readsNode k h0 h1 z0 z1 z2 z3 z4 z5 z6 z7 z8 z9 z10 v_taped q72.1 q72.2 v_spot v_here v_token v_value v_greatest v_tape)) rfl rfl rfl hl.1 (rest := []) (Nat.le_of_ble_eq_true rfl) rfl dX6_readsNode_72 ⟨Nat.zero_le _, Nat.zero_le _⟩ (fun H locs hP hD hS => ?_)
        refine lv_aload_n hx hb dX6_readsNode_75 rfl (lv_at hl 0 rfl) ?_
        refine kget C inX6 hP 0 rfl rfl 6 (by decide) mw_693 rfl dX6_readsNode_76 ?_
        obtain ⟨v90, hv90, hf⟩ := bd_some hf
        have hj90 : ∀ (H : Heap) (locs : List Loc) (ls : Array Slot), va_P D vwCl (wX6_readsNode k h0 h1 z0 z1 z2 z3 z4 z5 z6 z7 z8 z9 z10 v_taped q72.1 q72.2 v_spot v_here v_token v_value v_greatest v_tape) H → va_D A (wX6_readsNode k h0 h1 z0 z1 z2 z3 z4 z5 z6 z7 z8 z9 z10 v_taped q72.1 q72.2 v_spot v_here v_token v_value v_greatest v_tape) → va_S A s.heap H locs → lv_has ls 3 [(0, .ref h0)] → W p l e ({ frames := 2, cells := 0, slots := 0, locals := 46 } : Room) s m args below meth c H locs 0 0 Q (F0 m 90 ls [.int v90]) := by
          intro H locs ls hP hD hS hl
          refine lv_istore_n (lv' := [(2, .int v90), (0, .ref h0)]) hx hb dX6_readsNode_90 rfl hl (by decide) rfl (fun ls hl => ?_)
          refine lv_aload_n hx hb dX6_readsNode_91 rfl (lv_at hl 1 rfl) ?_
          refine lv_iload_n hx hb dX6_readsNode_92 rfl (lv_at hl 0 rfl) ?_
          refine lv_iconst (v := (1 : Int32)) hx hb dX6_readsNode_93 (by decide) ?_
          refine lv_iadd hx hb dX6_readsNode_94 ?_
          refine lv_aload_n hx hb dX6_readsNode_95 rfl (lv_at hl 1 rfl) ?_
          refine kget C inX6 hP 0 rfl rfl 14 (by decide) mw_701 rfl dX6_readsNode_96 ?_
          obtain ⟨v112, hv112, hf⟩ := bd_some hf
          have hj112 : ∀ (H : Heap) (locs : List Loc) (ls : Array Slot), va_P D vwCl (wX6_readsNode k h0 h1 z0 z1 z2 z3 z4 z5 z6 z7 z8 z9 z10 v_taped q72.1 q72.2 v_spot v_here v_token v_value v_greatest v_tape) H → va_D A (wX6_readsNode k h0 h1 z0 z1 z2 z3 z4 z5 z6 z7 z8 z9 z10 v_taped q72.1 q72.2 v_spot v_here v_token v_value v_greatest v_tape) → va_S A s.heap H locs → lv_has ls 3 [(0, .ref h0), (2, .int v90)] → W p l e ({ frames := 2, cells := 0, slots := 0, locals := 46 } : Room) s m args below meth c H locs 0 0 Q (F0 m 112 ls [.int v112, .ref h0]) := by
            intro H locs ls hP hD hS hl
            refine kput C inX6 tyX6_ok nmX6 hP hD hS 0 rfl rfl 14 (by decide) mw_701 rfl rfl rfl (Nat.le_of_ble_eq_true rfl) dX6_readsNode_112 (w2 := (wX6_readsNode k h0 h1 z0 z1 z2 z3 z4 z5 z6 z7 z8 z9 z10 v_taped q72.1 q72.2 v_spot v_here v_token v_value v112 v_tape)) rfl (fun H locs hP hD hS => ?_)
            refine lv_aload_n hx hb dX6_readsNode_115 rfl (lv_at hl 0 rfl) ?_
            obtain ⟨q116, hq116, hf⟩ := bd_some hf
            refine kcVv C (kX6_reads (l := l) (D := D) (k := k) h0 h1 z0 z1 z2 z3 z4 z5 (.int v112) z6 z7 z8 z9 z10 v_taped q72.1 q72.2 v_spot v_here v_token v_value v_tape q116 hq116) mt_X6_reads mw_766 ⟨rfl, rfl, Nat.le_of_ble_eq_true rfl, Nat.le_of_ble_eq_true rfl⟩ hP hD hS 0 rfl rfl rfl [0, 1] rfl rfl [some 0, some 1] rfl rfl (w2 := (wX6_readsNode k h0 h1 z0 z1 z2 z3 z4 z5 z6 z7 z8 z9 z10 v_taped q116.1 q116.2.1 q116.2.2.1 q116.2.2.2.1 q116.2.2.2.2.1 q116.2.2.2.2.2 v112 v_tape)) rfl rfl rfl hl.1 (rest := []) (Nat.le_of_ble_eq_true rfl) rfl dX6_readsNode_116 ⟨Nat.zero_le _, Nat.zero_le _⟩ (fun H locs hP hD hS => ?_)
            refine lv_iload_n hx hb dX6_readsNode_119 rfl (lv_at hl 1 rfl) ?_
            obtain rfl := Option.some.inj hf
            exact hret _ _ _ _ dX6_readsNode_120 hP hS
          clear hf
          have hf := hv112
          refine lv_icmp_le (tgt := 108) hx hb dX6_readsNode_99 (by decide) (fun hc => ?_) (fun hc => ?_)
          · rw [if_pos hc] at hf
            refine lv_aload_n hx hb dX6_readsNode_108 rfl (lv_at hl 1 rfl) ?_
            refine kget C inX6 hP 0 rfl rfl 14 (by decide) mw_701 rfl dX6_readsNode_109 ?_
            obtain rfl := Option.some.inj hf
            exact hj112 _ _ _ hP hD hS (lv_sub hl [1, 0] rfl)
          · rw [if_neg hc] at hf
            refine lv_iload_n hx hb dX6_readsNode_102 rfl (lv_at hl 0 rfl) ?_
            refine lv_iconst (v := (1 : Int32)) hx hb dX6_readsNode_103 (by decide) ?_
            refine lv_iadd hx hb dX6_readsNode_104 ?_
            refine lv_goto (tgt := 112) hx hb dX6_readsNode_105 (by decide) ?_
            obtain rfl := Option.some.inj hf
            exact hj112 _ _ _ hP hD hS (lv_sub hl [1, 0] rfl)
        clear hf
        have hf := hv90
        refine lv_if_le (tgt := 86) hx hb dX6_readsNode_79 (by decide) (fun hc => ?_) (fun hc => ?_)
        · rw [if_pos hc] at hf
          refine lv_aload_n hx hb dX6_readsNode_86 rfl (lv_at hl 0 rfl) ?_
          refine kget C inX6 hP 0 rfl rfl 11 (by decide) mw_698 rfl dX6_readsNode_87 ?_
          obtain rfl := Option.some.inj hf
          exact hj90 _ _ _ hP hD hS (lv_sub hl [0] rfl)
        · rw [if_neg hc] at hf
          refine lv_iconst (v := (0 : Int32)) hx hb dX6_readsNode_82 (by decide) ?_
          refine lv_goto (tgt := 90) hx hb dX6_readsNode_83 (by decide) ?_
          obtain rfl := Option.some.inj hf
          exact hj90 _ _ _ hP hD hS (lv_sub hl [0] rfl)
      clear hf
      have hf := hv71
      refine lv_if_gt (tgt := 66) hx hb dX6_readsNode_55 (by decide) (fun hc => ?_) (fun hc => ?_)
      · rw [if_pos hc] at hf
        refine lv_iconst (v := (1 : Int32)) hx hb dX6_readsNode_66 (by decide) ?_
        refine lv_goto (tgt := 71) hx hb dX6_readsNode_67 (by decide) ?_
        obtain rfl := Option.some.inj hf
        exact hj71 _ _ _ hP hD hS (lv_sub hl [0] rfl)
      · rw [if_neg hc] at hf
        refine lv_aload_n hx hb dX6_readsNode_58 rfl (lv_at hl 0 rfl) ?_
        refine kget C inX6 hP 0 rfl rfl 11 (by decide) mw_698 rfl dX6_readsNode_59 ?_
        refine lv_iload_n hx hb dX6_readsNode_62 rfl (lv_at hl 1 rfl) ?_
        refine lv_icmp_eq (tgt := 70) hx hb dX6_readsNode_63 (by decide) (fun hc => ?_) (fun hc => ?_)
        · rw [if_pos hc] at hf
          refine lv_iconst (v := (0 : Int32)) hx hb dX6_readsNode_70 (by decide) ?_
          obtain rfl := Option.some.inj hf
          exact hj71 _ _ _ hP hD hS (lv_sub hl [0] rfl)
        · rw [if_neg hc] at hf
          refine lv_iconst (v := (1 : Int32)) hx hb dX6_readsNode_66 (by decide) ?_
          refine lv_goto (tgt := 71) hx hb dX6_readsNode_67 (by decide) ?_
          obtain rfl := Option.some.inj hf
          exact hj71 _ _ _ hP hD hS (lv_sub hl [0] rfl)
    clear hf
    have hf := hv46
    refine lv_if_gt (tgt := 41) hx hb dX6_readsNode_23 (by decide) (fun hc => ?_) (fun hc => ?_)
    · rw [if_pos hc] at hf
      refine lv_iconst (v := (1 : Int32)) hx hb dX6_readsNode_41 (by decide) ?_
      refine lv_goto (tgt := 46) hx hb dX6_readsNode_42 (by decide) ?_
      obtain rfl := Option.some.inj hf
      exact hj46 _ _ _ hP hD hS (lv_sub hl [0, 1] rfl)
    · rw [if_neg hc] at hf
      refine lv_aload_n hx hb dX6_readsNode_26 rfl (lv_at hl 0 rfl) ?_
      refine kget C inX6 hP 0 rfl rfl 11 (by decide) mw_698 rfl dX6_readsNode_27 ?_
      refine lv_i2l (v := (v_value.toInt64)) hx hb dX6_readsNode_30 rfl ?_
      refine lv_lconst (v := (0 : Int64)) hx hb dX6_readsNode_31 (by decide) ?_
      refine lv_ldc2 (v := (7 : Int64)) hx hb C.2.2.2.1 (C.2.2.2.2.1 _ mw_765) dX6_readsNode_32 ?_
      obtain ⟨q35, hq35, hf⟩ := bd_some hf
      refine kcSi C (kX6_in (l := l) (D := D) (k := k) (v_value.toInt64) (0 : Int64) (7 : Int64) q35 hq35) mt_X6_in mw_753 ⟨rfl, rfl, Nat.le_of_ble_eq_true rfl, Nat.le_of_ble_eq_true rfl⟩ hP hD hS [] rfl rfl [none, none] rfl rfl (w2 := (wX6_readsNode k h0 h1 z0 z1 z2 z3 z4 z5 z6 z7 z8 z9 z10 v_taped q15.1 q15.2 v_spot v_here v_token v_value v_greatest v_tape)) rfl rfl rfl hl.1 (rest := [.ref h0]) (Nat.le_of_ble_eq_true rfl) rfl dX6_readsNode_35 ⟨Nat.zero_le _, Nat.zero_le _⟩ (fun H locs hP hD hS => ?_)
      refine lv_if_eq (tgt := 45) hx hb dX6_readsNode_38 (by decide) (fun hc => ?_) (fun hc => ?_)
      · rw [if_pos hc] at hf
        refine lv_iconst (v := (0 : Int32)) hx hb dX6_readsNode_45 (by decide) ?_
        obtain rfl := Option.some.inj hf
        exact hj46 _ _ _ hP hD hS (lv_sub hl [0, 1] rfl)
      · rw [if_neg hc] at hf
        refine lv_iconst (v := (1 : Int32)) hx hb dX6_readsNode_41 (by decide) ?_
        refine lv_goto (tgt := 46) hx hb dX6_readsNode_42 (by decide) ?_
        obtain rfl := Option.some.inj hf
        exact hj46 _ _ _ hP hD hS (lv_sub hl [0, 1] rfl)
  clear hf
  have hf := hv14
  refine lv_icmp_ne (tgt := 13) hx hb dX6_readsNode_6 (by decide) (fun hc => ?_) (fun hc => ?_)
  · rw [if_neg hc] at hf
    refine lv_iconst (v := (0 : Int32)) hx hb dX6_readsNode_13 (by decide) ?_
    obtain rfl := Option.some.inj hf
    exact hj14 _ _ _ hP hD hS (lv_sub hl [0, 1] rfl)
  · rw [if_pos hc] at hf
    refine lv_iconst (v := (1 : Int32)) hx hb dX6_readsNode_9 (by decide) ?_
    refine lv_goto (tgt := 14) hx hb dX6_readsNode_10 (by decide) ?_
    obtain rfl := Option.some.inj hf
    exact hj14 _ _ _ hP hD hS (lv_sub hl [0, 1] rfl)
set_option maxHeartbeats 4000000 in
set_option maxRecDepth 100000 in
theorem kX6_readsMeeting {l : Launch} {D : va_G} {k : Nat → ClassId} (h0 h1 h2 : Nat) (z0 z1 z2 z3 z4 z5 z6 z7 z8 z9 : Value) (v_taped : Int32) (v_fault : Int32) (v_brokenAt : Int32) (v_spot : Int32) (v_here : Int32) (v_token : Int32) (v_value : Int32) (v_greatest : Int32) (v_draft : Nat → Int32) (v_tape : Nat → Int32) (q : Int32 × Int32 × Int32 × Int32 × Int32 × Int32 × Int32 × (Nat → Int32)) (hf : fX6_readsMeeting v_taped v_fault v_brokenAt v_spot v_here v_token v_value v_greatest v_draft v_tape = some q) : KMv l yX6_readsMeeting cX6_readsMeeting 2 ({ frames := 3, cells := 0, slots := 0, locals := 69 } : Room) D k [.ref h0] (wX6_readsMeeting k h0 h1 h2 z0 z1 z2 z3 z4 z5 z6 z7 z8 z9 v_taped v_fault v_brokenAt v_spot v_here v_token v_value v_greatest v_draft v_tape) (wX6_readsMeeting k h0 h1 h2 z0 z1 z2 z3 z4 z5 z6 z7 z8 z9 v_taped q.1 q.2.1 q.2.2.1 q.2.2.2.1 q.2.2.2.2.1 q.2.2.2.2.2.1 q.2.2.2.2.2.2.1 q.2.2.2.2.2.2.2 v_tape) := by
  refine kent_v (by decide) (Nat.le_of_ble_eq_true rfl) ?_
  intro p e s m below meth c A Q ls C hP hD hS hl hret
  obtain ⟨hx, hb, -⟩ := id C
  have hl : lv_has ls 2 [(0, .ref h0)] := hl
  unfold fX6_readsMeeting at hf
  generalize ([.ref h0] : List Value).toArray = args at *
  refine lv_bipush (v := (31 : Int32)) hx hb dX6_readsMeeting_0 (by decide) ?_
  refine lv_iconst (v := (4 : Int32)) hx hb dX6_readsMeeting_2 (by decide) ?_
  refine lv_aload_n hx hb dX6_readsMeeting_3 rfl (lv_at hl 0 rfl) ?_
  refine kget C inX6 hP 0 rfl rfl 1 (by decide) mw_688 rfl dX6_readsMeeting_4 ?_
  refine lv_iconst (v := (1 : Int32)) hx hb dX6_readsMeeting_7 (by decide) ?_
  refine kiald C hP 1 rfl (by unfold vp_in; decide) dX6_readsMeeting_8 (j := 1) (by decide) ?_
  refine lv_imul hx hb dX6_readsMeeting_9 ?_
  refine lv_iadd hx hb dX6_readsMeeting_10 ?_
  refine lv_istore_n (lv' := [(1, .int ((31 : Int32) + ((4 : Int32) * (v_draft 1)))), (0, .ref h0)]) hx hb dX6_readsMeeting_11 rfl hl (by decide) rfl (fun ls hl => ?_)
  refine lv_aload_n hx hb dX6_readsMeeting_12 rfl (lv_at hl 1 rfl) ?_
  refine kget C inX6 hP 0 rfl rfl 1 (by decide) mw_688 rfl dX6_readsMeeting_13 ?_
  refine lv_iload_n hx hb dX6_readsMeeting_16 rfl (lv_at hl 0 rfl) ?_
  refine lv_aload_n hx hb dX6_readsMeeting_17 rfl (lv_at hl 1 rfl) ?_
  refine lv_iconst (v := (1 : Int32)) hx hb dX6_readsMeeting_18 (by decide) ?_
  refine lv_bipush (v := (99 : Int32)) hx hb dX6_readsMeeting_19 (by decide) ?_
  obtain ⟨q21, hq21, hf⟩ := bd_some hf
  refine kcVi C (kX6_number (l := l) (D := D) (k := k) h0 h2 z0 (.ref h1) z1 z2 z3 z4 (.int v_greatest) z5 z6 z7 z8 z9 v_taped v_fault v_brokenAt v_spot v_here v_token v_value v_tape (1 : Int32) (99 : Int32) q21 hq21) mt_X6_number mw_790 ⟨rfl, rfl, Nat.le_of_ble_eq_true rfl, Nat.le_of_ble_eq_true rfl⟩ hP hD hS 0 rfl rfl rfl [0, 2] rfl rfl [some 0, none, some 1] rfl rfl (w2 := (wX6_readsMeeting k h0 h1 h2 z0 z1 z2 z3 z4 z5 z6 z7 z8 z9 v_taped q21.2.1 q21.2.2.1 q21.2.2.2.1 q21.2.2.2.2.1 q21.2.2.2.2.2.1 q21.2.2.2.2.2.2 v_greatest v_draft v_tape)) rfl rfl rfl hl.1 (rest := [.int ((31 : Int32) + ((4 : Int32) * (v_draft 1))), .ref h1]) (Nat.le_of_ble_eq_true rfl) rfl dX6_readsMeeting_21 ⟨Nat.zero_le _, Nat.zero_le _⟩ (fun H locs hP hD hS => ?_)
  obtain ⟨hin, hf⟩ := gd_some hf
  obtain ⟨v_draft_24, hn24, hf⟩ := nm_some hf
  refine kiast C hP hD hS 1 rfl hin dX6_readsMeeting_24 (j := ((31 : Int32) + ((4 : Int32) * (v_draft 1))).toNatClampNeg) rfl (g := v_draft_24) hn24 (w2 := (wX6_readsMeeting k h0 h1 h2 z0 z1 z2 z3 z4 z5 z6 z7 z8 z9 v_taped q21.2.1 q21.2.2.1 q21.2.2.2.1 q21.2.2.2.2.1 q21.2.2.2.2.2.1 q21.2.2.2.2.2.2 v_greatest v_draft_24 v_tape)) rfl (fun H locs hP hD hS => ?_)
  refine lv_aload_n hx hb dX6_readsMeeting_25 rfl (lv_at hl 1 rfl) ?_
  refine kget C inX6 hP 0 rfl rfl 1 (by decide) mw_688 rfl dX6_readsMeeting_26 ?_
  refine lv_iload_n hx hb dX6_readsMeeting_29 rfl (lv_at hl 0 rfl) ?_
  refine lv_iconst (v := (1 : Int32)) hx hb dX6_readsMeeting_30 (by decide) ?_
  refine lv_iadd hx hb dX6_readsMeeting_31 ?_
  refine lv_aload_n hx hb dX6_readsMeeting_32 rfl (lv_at hl 1 rfl) ?_
  refine lv_bipush (v := (-4 : Int32)) hx hb dX6_readsMeeting_33 (by decide) ?_
  obtain ⟨q35, hq35, hf⟩ := bd_some hf
  refine kcVi C (kX6_readsNode (l := l) (D := D) (k := k) h0 h2 z0 (.ref h1) z1 z2 z3 z4 z5 z6 z7 z8 z9 v_taped q21.2.1 q21.2.2.1 q21.2.2.2.1 q21.2.2.2.2.1 q21.2.2.2.2.2.1 q21.2.2.2.2.2.2 v_greatest v_tape (-4 : Int32) q35 hq35) mt_X6_readsNode mw_798 ⟨rfl, rfl, Nat.le_of_ble_eq_true rfl, Nat.le_of_ble_eq_true rfl⟩ hP hD hS 0 rfl rfl rfl [0, 2] rfl rfl [some 0, none, some 1] rfl rfl (w2 := (wX6_readsMeeting k h0 h1 h2 z0 z1 z2 z3 z4 z5 z6 z7 z8 z9 v_taped q35.2.1 q35.2.2.1 q35.2.2.2.1 q35.2.2.2.2.1 q35.2.2.2.2.2.1 q35.2.2.2.2.2.2.1 q35.2.2.2.2.2.2.2 v_draft_24 v_tape)) rfl rfl rfl hl.1 (rest := [.int (((31 : Int32) + ((4 : Int32) * (v_draft 1))) + (1 : Int32)), .ref h1]) (Nat.le_of_ble_eq_true rfl) rfl dX6_readsMeeting_35 ⟨Nat.zero_le _, Nat.zero_le _⟩ (fun H locs hP hD hS => ?_)
  obtain ⟨hin, hf⟩ := gd_some hf
  obtain ⟨v_draft_38, hn38, hf⟩ := nm_some hf
  refine kiast C hP hD hS 1 rfl hin dX6_readsMeeting_38 (j := (((31 : Int32) + ((4 : Int32) * (v_draft 1))) + (1 : Int32)).toNatClampNeg) rfl (g := v_draft_38) hn38 (w2 := (wX6_readsMeeting k h0 h1 h2 z0 z1 z2 z3 z4 z5 z6 z7 z8 z9 v_taped q35.2.1 q35.2.2.1 q35.2.2.2.1 q35.2.2.2.2.1 q35.2.2.2.2.2.1 q35.2.2.2.2.2.2.1 q35.2.2.2.2.2.2.2 v_draft_38 v_tape)) rfl (fun H locs hP hD hS => ?_)
  refine lv_aload_n hx hb dX6_readsMeeting_39 rfl (lv_at hl 1 rfl) ?_
  refine kget C inX6 hP 0 rfl rfl 1 (by decide) mw_688 rfl dX6_readsMeeting_40 ?_
  refine lv_iload_n hx hb dX6_readsMeeting_43 rfl (lv_at hl 0 rfl) ?_
  refine lv_iconst (v := (2 : Int32)) hx hb dX6_readsMeeting_44 (by decide) ?_
  refine lv_iadd hx hb dX6_readsMeeting_45 ?_
  refine lv_aload_n hx hb dX6_readsMeeting_46 rfl (lv_at hl 1 rfl) ?_
  refine lv_aload_n hx hb dX6_readsMeeting_47 rfl (lv_at hl 1 rfl) ?_
  refine kget C inX6 hP 0 rfl rfl 1 (by decide) mw_688 rfl dX6_readsMeeting_48 ?_
  refine lv_iload_n hx hb dX6_readsMeeting_51 rfl (lv_at hl 0 rfl) ?_
  refine lv_iconst (v := (1 : Int32)) hx hb dX6_readsMeeting_52 (by decide) ?_
  refine lv_iadd hx hb dX6_readsMeeting_53 ?_
  obtain ⟨hin, hf⟩ := gd_some hf
  refine kiald C hP 1 rfl hin dX6_readsMeeting_54 (j := (((31 : Int32) + ((4 : Int32) * (v_draft 1))) + (1 : Int32)).toNatClampNeg) rfl ?_
  obtain ⟨q55, hq55, hf⟩ := bd_some hf
  refine kcVi C (kX6_readsNode (l := l) (D := D) (k := k) h0 h2 z0 (.ref h1) z1 z2 z3 z4 z5 z6 z7 z8 z9 v_taped q35.2.1 q35.2.2.1 q35.2.2.2.1 q35.2.2.2.2.1 q35.2.2.2.2.2.1 q35.2.2.2.2.2.2.1 q35.2.2.2.2.2.2.2 v_tape (v_draft_38 ((((31 : Int32) + ((4 : Int32) * (v_draft 1))) + (1 : Int32)).toNatClampNeg)) q55 hq55) mt_X6_readsNode mw_798 ⟨rfl, rfl, Nat.le_of_ble_eq_true rfl, Nat.le_of_ble_eq_true rfl⟩ hP hD hS 0 rfl rfl rfl [0, 2] rfl rfl [some 0, none, some 1] rfl rfl (w2 := (wX6_readsMeeting k h0 h1 h2 z0 z1 z2 z3 z4 z5 z6 z7 z8 z9 v_taped q55.2.1 q55.2.2.1 q55.2.2.2.1 q55.2.2.2.2.1 q55.2.2.2.2.2.1 q55.2.2.2.2.2.2.1 q55.2.2.2.2.2.2.2 v_draft_38 v_tape)) rfl rfl rfl hl.1 (rest := [.int (((31 : Int32) + ((4 : Int32) * (v_draft 1))) + (2 : Int32)), .ref h1]) (Nat.le_of_ble_eq_true rfl) rfl dX6_readsMeeting_55 ⟨Nat.zero_le _, Nat.zero_le _⟩ (fun H locs hP hD hS => ?_)
  obtain ⟨hin, hf⟩ := gd_some hf
  obtain ⟨v_draft_58, hn58, hf⟩ := nm_some hf
  refine kiast C hP hD hS 1 rfl hin dX6_readsMeeting_58 (j := (((31 : Int32) + ((4 : Int32) * (v_draft 1))) + (2 : Int32)).toNatClampNeg) rfl (g := v_draft_58) hn58 (w2 := (wX6_readsMeeting k h0 h1 h2 z0 z1 z2 z3 z4 z5 z6 z7 z8 z9 v_taped q55.2.1 q55.2.2.1 q55.2.2.2.1 q55.2.2.2.2.1 q55.2.2.2.2.2.1 q55.2.2.2.2.2.2.1 q55.2.2.2.2.2.2.2 v_draft_58 v_tape)) rfl (fun H locs hP hD hS => ?_)
  refine lv_aload_n hx hb dX6_readsMeeting_59 rfl (lv_at hl 1 rfl) ?_
  refine kget C inX6 hP 0 rfl rfl 1 (by decide) mw_688 rfl dX6_readsMeeting_60 ?_
  refine lv_iload_n hx hb dX6_readsMeeting_63 rfl (lv_at hl 0 rfl) ?_
  refine lv_iconst (v := (3 : Int32)) hx hb dX6_readsMeeting_64 (by decide) ?_
  refine lv_iadd hx hb dX6_readsMeeting_65 ?_
  refine lv_aload_n hx hb dX6_readsMeeting_66 rfl (lv_at hl 1 rfl) ?_
  refine lv_iconst (v := (0 : Int32)) hx hb dX6_readsMeeting_67 (by decide) ?_
  refine lv_bipush (v := (99 : Int32)) hx hb dX6_readsMeeting_68 (by decide) ?_
  obtain ⟨q70, hq70, hf⟩ := bd_some hf
  refine kcVi C (kX6_number (l := l) (D := D) (k := k) h0 h2 z0 (.ref h1) z1 z2 z3 z4 (.int q55.2.2.2.2.2.2.2) z5 z6 z7 z8 z9 v_taped q55.2.1 q55.2.2.1 q55.2.2.2.1 q55.2.2.2.2.1 q55.2.2.2.2.2.1 q55.2.2.2.2.2.2.1 v_tape (0 : Int32) (99 : Int32) q70 hq70) mt_X6_number mw_790 ⟨rfl, rfl, Nat.le_of_ble_eq_true rfl, Nat.le_of_ble_eq_true rfl⟩ hP hD hS 0 rfl rfl rfl [0, 2] rfl rfl [some 0, none, some 1] rfl rfl (w2 := (wX6_readsMeeting k h0 h1 h2 z0 z1 z2 z3 z4 z5 z6 z7 z8 z9 v_taped q70.2.1 q70.2.2.1 q70.2.2.2.1 q70.2.2.2.2.1 q70.2.2.2.2.2.1 q70.2.2.2.2.2.2 q55.2.2.2.2.2.2.2 v_draft_58 v_tape)) rfl rfl rfl hl.1 (rest := [.int (((31 : Int32) + ((4 : Int32) * (v_draft 1))) + (3 : Int32)), .ref h1]) (Nat.le_of_ble_eq_true rfl) rfl dX6_readsMeeting_70 ⟨Nat.zero_le _, Nat.zero_le _⟩ (fun H locs hP hD hS => ?_)
  obtain ⟨hin, hf⟩ := gd_some hf
  obtain ⟨v_draft_73, hn73, hf⟩ := nm_some hf
  refine kiast C hP hD hS 1 rfl hin dX6_readsMeeting_73 (j := (((31 : Int32) + ((4 : Int32) * (v_draft 1))) + (3 : Int32)).toNatClampNeg) rfl (g := v_draft_73) hn73 (w2 := (wX6_readsMeeting k h0 h1 h2 z0 z1 z2 z3 z4 z5 z6 z7 z8 z9 v_taped q70.2.1 q70.2.2.1 q70.2.2.2.1 q70.2.2.2.2.1 q70.2.2.2.2.2.1 q70.2.2.2.2.2.2 q55.2.2.2.2.2.2.2 v_draft_73 v_tape)) rfl (fun H locs hP hD hS => ?_)
  refine lv_aload_n hx hb dX6_readsMeeting_74 rfl (lv_at hl 1 rfl) ?_
  refine kget C inX6 hP 0 rfl rfl 1 (by decide) mw_688 rfl dX6_readsMeeting_75 ?_
  refine lv_iconst (v := (1 : Int32)) hx hb dX6_readsMeeting_78 (by decide) ?_
  refine lv_dup2_11 hx hb dX6_readsMeeting_79 rfl rfl ?_
  refine kiald C hP 1 rfl (by unfold vp_in; decide) dX6_readsMeeting_80 (j := 1) (by decide) ?_
  refine lv_iconst (v := (1 : Int32)) hx hb dX6_readsMeeting_81 (by decide) ?_
  refine lv_iadd hx hb dX6_readsMeeting_82 ?_
  obtain ⟨v_draft_83, hn83, hf⟩ := nm_some hf
  refine kiast C hP hD hS 1 rfl (by unfold vp_in; decide) dX6_readsMeeting_83 (j := 1) (by decide) (g := v_draft_83) hn83 (w2 := (wX6_readsMeeting k h0 h1 h2 z0 z1 z2 z3 z4 z5 z6 z7 z8 z9 v_taped q70.2.1 q70.2.2.1 q70.2.2.2.1 q70.2.2.2.2.1 q70.2.2.2.2.2.1 q70.2.2.2.2.2.2 q55.2.2.2.2.2.2.2 v_draft_83 v_tape)) rfl (fun H locs hP hD hS => ?_)
  obtain rfl := Option.some.inj hf
  exact hret _ _ _ _ dX6_readsMeeting_84 hP hS
set_option maxHeartbeats 4000000 in
set_option maxRecDepth 100000 in
theorem kX6_readsLetter {l : Launch} {D : va_G} {k : Nat → ClassId} (h0 h1 h2 : Nat) (z0 z1 z2 z3 z4 z5 z6 z7 z8 z9 : Value) (v_taped : Int32) (v_fault : Int32) (v_brokenAt : Int32) (v_spot : Int32) (v_here : Int32) (v_token : Int32) (v_value : Int32) (v_greatest : Int32) (v_draft : Nat → Int32) (v_tape : Nat → Int32) (q : Int32 × Int32 × Int32 × Int32 × Int32 × Int32 × Int32 × (Nat → Int32)) (hf : fX6_readsLetter v_taped v_fault v_brokenAt v_spot v_here v_token v_value v_greatest v_draft v_tape = some q) : KMv l yX6_readsLetter cX6_readsLetter 2 ({ frames := 3, cells := 0, slots := 0, locals := 69 } : Room) D k [.ref h0] (wX6_readsLetter k h0 h1 h2 z0 z1 z2 z3 z4 z5 z6 z7 z8 z9 v_taped v_fault v_brokenAt v_spot v_here v_token v_value v_greatest v_draft v_tape) (wX6_readsLetter k h0 h1 h2 z0 z1 z2 z3 z4 z5 z6 z7 z8 z9 v_taped q.1 q.2.1 q.2.2.1 q.2.2.2.1 q.2.2.2.2.1 q.2.2.2.2.2.1 q.2.2.2.2.2.2.1 q.2.2.2.2.2.2.2 v_tape) := by
  refine kent_v (by decide) (Nat.le_of_ble_eq_true rfl) ?_
  intro p e s m below meth c A Q ls C hP hD hS hl hret
  obtain ⟨hx, hb, -⟩ := id C
  have hl : lv_has ls 2 [(0, .ref h0)] := hl
  unfold fX6_readsLetter at hf
  generalize ([.ref h0] : List Value).toArray = args at *
  refine lv_bipush (v := (127 : Int32)) hx hb dX6_readsLetter_0 (by decide) ?_
  refine lv_bipush (v := (8 : Int32)) hx hb dX6_readsLetter_2 (by decide) ?_
  refine lv_aload_n hx hb dX6_readsLetter_4 rfl (lv_at hl 0 rfl) ?_
  refine kget C inX6 hP 0 rfl rfl 1 (by decide) mw_688 rfl dX6_readsLetter_5 ?_
  refine lv_iconst (v := (2 : Int32)) hx hb dX6_readsLetter_8 (by decide) ?_
  refine kiald C hP 1 rfl (by unfold vp_in; decide) dX6_readsLetter_9 (j := 2) (by decide) ?_
  refine lv_imul hx hb dX6_readsLetter_10 ?_
  refine lv_iadd hx hb dX6_readsLetter_11 ?_
  refine lv_istore_n (lv' := [(1, .int ((127 : Int32) + ((8 : Int32) * (v_draft 2)))), (0, .ref h0)]) hx hb dX6_readsLetter_12 rfl hl (by decide) rfl (fun ls hl => ?_)
  refine lv_aload_n hx hb dX6_readsLetter_13 rfl (lv_at hl 1 rfl) ?_
  refine kget C inX6 hP 0 rfl rfl 1 (by decide) mw_688 rfl dX6_readsLetter_14 ?_
  refine lv_iload_n hx hb dX6_readsLetter_17 rfl (lv_at hl 0 rfl) ?_
  refine lv_iconst (v := (0 : Int32)) hx hb dX6_readsLetter_18 (by decide) ?_
  refine lv_iadd hx hb dX6_readsLetter_19 ?_
  refine lv_aload_n hx hb dX6_readsLetter_20 rfl (lv_at hl 1 rfl) ?_
  refine lv_iconst (v := (1 : Int32)) hx hb dX6_readsLetter_21 (by decide) ?_
  refine lv_bipush (v := (99 : Int32)) hx hb dX6_readsLetter_22 (by decide) ?_
  obtain ⟨q24, hq24, hf⟩ := bd_some hf
  refine kcVi C (kX6_number (l := l) (D := D) (k := k) h0 h2 z0 (.ref h1) z1 z2 z3 z4 (.int v_greatest) z5 z6 z7 z8 z9 v_taped v_fault v_brokenAt v_spot v_here v_token v_value v_tape (1 : Int32) (99 : Int32) q24 hq24) mt_X6_number mw_790 ⟨rfl, rfl, Nat.le_of_ble_eq_true rfl, Nat.le_of_ble_eq_true rfl⟩ hP hD hS 0 rfl rfl rfl [0, 2] rfl rfl [some 0, none, some 1] rfl rfl (w2 := (wX6_readsLetter k h0 h1 h2 z0 z1 z2 z3 z4 z5 z6 z7 z8 z9 v_taped q24.2.1 q24.2.2.1 q24.2.2.2.1 q24.2.2.2.2.1 q24.2.2.2.2.2.1 q24.2.2.2.2.2.2 v_greatest v_draft v_tape)) rfl rfl rfl hl.1 (rest := [.int (((127 : Int32) + ((8 : Int32) * (v_draft 2))) + (0 : Int32)), .ref h1]) (Nat.le_of_ble_eq_true rfl) rfl dX6_readsLetter_24 ⟨Nat.zero_le _, Nat.zero_le _⟩ (fun H locs hP hD hS => ?_)
  obtain ⟨hin, hf⟩ := gd_some hf
  obtain ⟨v_draft_27, hn27, hf⟩ := nm_some hf
  refine kiast C hP hD hS 1 rfl hin dX6_readsLetter_27 (j := (((127 : Int32) + ((8 : Int32) * (v_draft 2))) + (0 : Int32)).toNatClampNeg) rfl (g := v_draft_27) hn27 (w2 := (wX6_readsLetter k h0 h1 h2 z0 z1 z2 z3 z4 z5 z6 z7 z8 z9 v_taped q24.2.1 q24.2.2.1 q24.2.2.2.1 q24.2.2.2.2.1 q24.2.2.2.2.2.1 q24.2.2.2.2.2.2 v_greatest v_draft_27 v_tape)) rfl (fun H locs hP hD hS => ?_)
  refine lv_aload_n hx hb dX6_readsLetter_28 rfl (lv_at hl 1 rfl) ?_
  refine kget C inX6 hP 0 rfl rfl 1 (by decide) mw_688 rfl dX6_readsLetter_29 ?_
  refine lv_iload_n hx hb dX6_readsLetter_32 rfl (lv_at hl 0 rfl) ?_
  refine lv_iconst (v := (1 : Int32)) hx hb dX6_readsLetter_33 (by decide) ?_
  refine lv_iadd hx hb dX6_readsLetter_34 ?_
  refine lv_aload_n hx hb dX6_readsLetter_35 rfl (lv_at hl 1 rfl) ?_
  refine lv_bipush (v := (-4 : Int32)) hx hb dX6_readsLetter_36 (by decide) ?_
  obtain ⟨q38, hq38, hf⟩ := bd_some hf
  refine kcVi C (kX6_readsNode (l := l) (D := D) (k := k) h0 h2 z0 (.ref h1) z1 z2 z3 z4 z5 z6 z7 z8 z9 v_taped q24.2.1 q24.2.2.1 q24.2.2.2.1 q24.2.2.2.2.1 q24.2.2.2.2.2.1 q24.2.2.2.2.2.2 v_greatest v_tape (-4 : Int32) q38 hq38) mt_X6_readsNode mw_798 ⟨rfl, rfl, Nat.le_of_ble_eq_true rfl, Nat.le_of_ble_eq_true rfl⟩ hP hD hS 0 rfl rfl rfl [0, 2] rfl rfl [some 0, none, some 1] rfl rfl (w2 := (wX6_readsLetter k h0 h1 h2 z0 z1 z2 z3 z4 z5 z6 z7 z8 z9 v_taped q38.2.1 q38.2.2.1 q38.2.2.2.1 q38.2.2.2.2.1 q38.2.2.2.2.2.1 q38.2.2.2.2.2.2.1 q38.2.2.2.2.2.2.2 v_draft_27 v_tape)) rfl rfl rfl hl.1 (rest := [.int (((127 : Int32) + ((8 : Int32) * (v_draft 2))) + (1 : Int32)), .ref h1]) (Nat.le_of_ble_eq_true rfl) rfl dX6_readsLetter_38 ⟨Nat.zero_le _, Nat.zero_le _⟩ (fun H locs hP hD hS => ?_)
  obtain ⟨hin, hf⟩ := gd_some hf
  obtain ⟨v_draft_41, hn41, hf⟩ := nm_some hf
  refine kiast C hP hD hS 1 rfl hin dX6_readsLetter_41 (j := (((127 : Int32) + ((8 : Int32) * (v_draft 2))) + (1 : Int32)).toNatClampNeg) rfl (g := v_draft_41) hn41 (w2 := (wX6_readsLetter k h0 h1 h2 z0 z1 z2 z3 z4 z5 z6 z7 z8 z9 v_taped q38.2.1 q38.2.2.1 q38.2.2.2.1 q38.2.2.2.2.1 q38.2.2.2.2.2.1 q38.2.2.2.2.2.2.1 q38.2.2.2.2.2.2.2 v_draft_41 v_tape)) rfl (fun H locs hP hD hS => ?_)
  refine lv_aload_n hx hb dX6_readsLetter_42 rfl (lv_at hl 1 rfl) ?_
  refine kget C inX6 hP 0 rfl rfl 1 (by decide) mw_688 rfl dX6_readsLetter_43 ?_
  refine lv_iload_n hx hb dX6_readsLetter_46 rfl (lv_at hl 0 rfl) ?_
  refine lv_iconst (v := (2 : Int32)) hx hb dX6_readsLetter_47 (by decide) ?_
  refine lv_iadd hx hb dX6_readsLetter_48 ?_
  refine lv_aload_n hx hb dX6_readsLetter_49 rfl (lv_at hl 1 rfl) ?_
  refine lv_aload_n hx hb dX6_readsLetter_50 rfl (lv_at hl 1 rfl) ?_
  refine kget C inX6 hP 0 rfl rfl 1 (by decide) mw_688 rfl dX6_readsLetter_51 ?_
  refine lv_iload_n hx hb dX6_readsLetter_54 rfl (lv_at hl 0 rfl) ?_
  refine lv_iconst (v := (1 : Int32)) hx hb dX6_readsLetter_55 (by decide) ?_
  refine lv_iadd hx hb dX6_readsLetter_56 ?_
  obtain ⟨hin, hf⟩ := gd_some hf
  refine kiald C hP 1 rfl hin dX6_readsLetter_57 (j := (((127 : Int32) + ((8 : Int32) * (v_draft 2))) + (1 : Int32)).toNatClampNeg) rfl ?_
  obtain ⟨q58, hq58, hf⟩ := bd_some hf
  refine kcVi C (kX6_readsNode (l := l) (D := D) (k := k) h0 h2 z0 (.ref h1) z1 z2 z3 z4 z5 z6 z7 z8 z9 v_taped q38.2.1 q38.2.2.1 q38.2.2.2.1 q38.2.2.2.2.1 q38.2.2.2.2.2.1 q38.2.2.2.2.2.2.1 q38.2.2.2.2.2.2.2 v_tape (v_draft_41 ((((127 : Int32) + ((8 : Int32) * (v_draft 2))) + (1 : Int32)).toNatClampNeg)) q58 hq58) mt_X6_readsNode mw_798 ⟨rfl, rfl, Nat.le_of_ble_eq_true rfl, Nat.le_of_ble_eq_true rfl⟩ hP hD hS 0 rfl rfl rfl [0, 2] rfl rfl [some 0, none, some 1] rfl rfl (w2 := (wX6_readsLetter k h0 h1 h2 z0 z1 z2 z3 z4 z5 z6 z7 z8 z9 v_taped q58.2.1 q58.2.2.1 q58.2.2.2.1 q58.2.2.2.2.1 q58.2.2.2.2.2.1 q58.2.2.2.2.2.2.1 q58.2.2.2.2.2.2.2 v_draft_41 v_tape)) rfl rfl rfl hl.1 (rest := [.int (((127 : Int32) + ((8 : Int32) * (v_draft 2))) + (2 : Int32)), .ref h1]) (Nat.le_of_ble_eq_true rfl) rfl dX6_readsLetter_58 ⟨Nat.zero_le _, Nat.zero_le _⟩ (fun H locs hP hD hS => ?_)
  obtain ⟨hin, hf⟩ := gd_some hf
  obtain ⟨v_draft_61, hn61, hf⟩ := nm_some hf
  refine kiast C hP hD hS 1 rfl hin dX6_readsLetter_61 (j := (((127 : Int32) + ((8 : Int32) * (v_draft 2))) + (2 : Int32)).toNatClampNeg) rfl (g := v_draft_61) hn61 (w2 := (wX6_readsLetter k h0 h1 h2 z0 z1 z2 z3 z4 z5 z6 z7 z8 z9 v_taped q58.2.1 q58.2.2.1 q58.2.2.2.1 q58.2.2.2.2.1 q58.2.2.2.2.2.1 q58.2.2.2.2.2.2.1 q58.2.2.2.2.2.2.2 v_draft_61 v_tape)) rfl (fun H locs hP hD hS => ?_)
  refine lv_aload_n hx hb dX6_readsLetter_62 rfl (lv_at hl 1 rfl) ?_
  refine kget C inX6 hP 0 rfl rfl 1 (by decide) mw_688 rfl dX6_readsLetter_63 ?_
  refine lv_iload_n hx hb dX6_readsLetter_66 rfl (lv_at hl 0 rfl) ?_
  refine lv_iconst (v := (3 : Int32)) hx hb dX6_readsLetter_67 (by decide) ?_
  refine lv_iadd hx hb dX6_readsLetter_68 ?_
  refine lv_aload_n hx hb dX6_readsLetter_69 rfl (lv_at hl 1 rfl) ?_
  refine lv_iconst (v := (1 : Int32)) hx hb dX6_readsLetter_70 (by decide) ?_
  refine lv_bipush (v := (99 : Int32)) hx hb dX6_readsLetter_71 (by decide) ?_
  obtain ⟨q73, hq73, hf⟩ := bd_some hf
  refine kcVi C (kX6_number (l := l) (D := D) (k := k) h0 h2 z0 (.ref h1) z1 z2 z3 z4 (.int q58.2.2.2.2.2.2.2) z5 z6 z7 z8 z9 v_taped q58.2.1 q58.2.2.1 q58.2.2.2.1 q58.2.2.2.2.1 q58.2.2.2.2.2.1 q58.2.2.2.2.2.2.1 v_tape (1 : Int32) (99 : Int32) q73 hq73) mt_X6_number mw_790 ⟨rfl, rfl, Nat.le_of_ble_eq_true rfl, Nat.le_of_ble_eq_true rfl⟩ hP hD hS 0 rfl rfl rfl [0, 2] rfl rfl [some 0, none, some 1] rfl rfl (w2 := (wX6_readsLetter k h0 h1 h2 z0 z1 z2 z3 z4 z5 z6 z7 z8 z9 v_taped q73.2.1 q73.2.2.1 q73.2.2.2.1 q73.2.2.2.2.1 q73.2.2.2.2.2.1 q73.2.2.2.2.2.2 q58.2.2.2.2.2.2.2 v_draft_61 v_tape)) rfl rfl rfl hl.1 (rest := [.int (((127 : Int32) + ((8 : Int32) * (v_draft 2))) + (3 : Int32)), .ref h1]) (Nat.le_of_ble_eq_true rfl) rfl dX6_readsLetter_73 ⟨Nat.zero_le _, Nat.zero_le _⟩ (fun H locs hP hD hS => ?_)
  obtain ⟨hin, hf⟩ := gd_some hf
  obtain ⟨v_draft_76, hn76, hf⟩ := nm_some hf
  refine kiast C hP hD hS 1 rfl hin dX6_readsLetter_76 (j := (((127 : Int32) + ((8 : Int32) * (v_draft 2))) + (3 : Int32)).toNatClampNeg) rfl (g := v_draft_76) hn76 (w2 := (wX6_readsLetter k h0 h1 h2 z0 z1 z2 z3 z4 z5 z6 z7 z8 z9 v_taped q73.2.1 q73.2.2.1 q73.2.2.2.1 q73.2.2.2.2.1 q73.2.2.2.2.2.1 q73.2.2.2.2.2.2 q58.2.2.2.2.2.2.2 v_draft_76 v_tape)) rfl (fun H locs hP hD hS => ?_)
  refine lv_aload_n hx hb dX6_readsLetter_77 rfl (lv_at hl 1 rfl) ?_
  refine kget C inX6 hP 0 rfl rfl 1 (by decide) mw_688 rfl dX6_readsLetter_78 ?_
  refine lv_iload_n hx hb dX6_readsLetter_81 rfl (lv_at hl 0 rfl) ?_
  refine lv_iconst (v := (4 : Int32)) hx hb dX6_readsLetter_82 (by decide) ?_
  refine lv_iadd hx hb dX6_readsLetter_83 ?_
  refine lv_aload_n hx hb dX6_readsLetter_84 rfl (lv_at hl 1 rfl) ?_
  refine lv_iconst (v := (1 : Int32)) hx hb dX6_readsLetter_85 (by decide) ?_
  refine lv_bipush (v := (64 : Int32)) hx hb dX6_readsLetter_86 (by decide) ?_
  obtain ⟨q88, hq88, hf⟩ := bd_some hf
  refine kcVi C (kX6_number (l := l) (D := D) (k := k) h0 h2 z0 (.ref h1) z1 z2 z3 z4 (.int q58.2.2.2.2.2.2.2) z5 z6 z7 z8 z9 v_taped q73.2.1 q73.2.2.1 q73.2.2.2.1 q73.2.2.2.2.1 q73.2.2.2.2.2.1 q73.2.2.2.2.2.2 v_tape (1 : Int32) (64 : Int32) q88 hq88) mt_X6_number mw_790 ⟨rfl, rfl, Nat.le_of_ble_eq_true rfl, Nat.le_of_ble_eq_true rfl⟩ hP hD hS 0 rfl rfl rfl [0, 2] rfl rfl [some 0, none, some 1] rfl rfl (w2 := (wX6_readsLetter k h0 h1 h2 z0 z1 z2 z3 z4 z5 z6 z7 z8 z9 v_taped q88.2.1 q88.2.2.1 q88.2.2.2.1 q88.2.2.2.2.1 q88.2.2.2.2.2.1 q88.2.2.2.2.2.2 q58.2.2.2.2.2.2.2 v_draft_76 v_tape)) rfl rfl rfl hl.1 (rest := [.int (((127 : Int32) + ((8 : Int32) * (v_draft 2))) + (4 : Int32)), .ref h1]) (Nat.le_of_ble_eq_true rfl) rfl dX6_readsLetter_88 ⟨Nat.zero_le _, Nat.zero_le _⟩ (fun H locs hP hD hS => ?_)
  obtain ⟨hin, hf⟩ := gd_some hf
  obtain ⟨v_draft_91, hn91, hf⟩ := nm_some hf
  refine kiast C hP hD hS 1 rfl hin dX6_readsLetter_91 (j := (((127 : Int32) + ((8 : Int32) * (v_draft 2))) + (4 : Int32)).toNatClampNeg) rfl (g := v_draft_91) hn91 (w2 := (wX6_readsLetter k h0 h1 h2 z0 z1 z2 z3 z4 z5 z6 z7 z8 z9 v_taped q88.2.1 q88.2.2.1 q88.2.2.2.1 q88.2.2.2.2.1 q88.2.2.2.2.2.1 q88.2.2.2.2.2.2 q58.2.2.2.2.2.2.2 v_draft_91 v_tape)) rfl (fun H locs hP hD hS => ?_)
  refine lv_aload_n hx hb dX6_readsLetter_92 rfl (lv_at hl 1 rfl) ?_
  refine kget C inX6 hP 0 rfl rfl 1 (by decide) mw_688 rfl dX6_readsLetter_93 ?_
  refine lv_iload_n hx hb dX6_readsLetter_96 rfl (lv_at hl 0 rfl) ?_
  refine lv_iconst (v := (5 : Int32)) hx hb dX6_readsLetter_97 (by decide) ?_
  refine lv_iadd hx hb dX6_readsLetter_98 ?_
  refine lv_aload_n hx hb dX6_readsLetter_99 rfl (lv_at hl 1 rfl) ?_
  refine lv_iconst (v := (1 : Int32)) hx hb dX6_readsLetter_100 (by decide) ?_
  refine lv_bipush (v := (99 : Int32)) hx hb dX6_readsLetter_101 (by decide) ?_
  obtain ⟨q103, hq103, hf⟩ := bd_some hf
  refine kcVi C (kX6_number (l := l) (D := D) (k := k) h0 h2 z0 (.ref h1) z1 z2 z3 z4 (.int q58.2.2.2.2.2.2.2) z5 z6 z7 z8 z9 v_taped q88.2.1 q88.2.2.1 q88.2.2.2.1 q88.2.2.2.2.1 q88.2.2.2.2.2.1 q88.2.2.2.2.2.2 v_tape (1 : Int32) (99 : Int32) q103 hq103) mt_X6_number mw_790 ⟨rfl, rfl, Nat.le_of_ble_eq_true rfl, Nat.le_of_ble_eq_true rfl⟩ hP hD hS 0 rfl rfl rfl [0, 2] rfl rfl [some 0, none, some 1] rfl rfl (w2 := (wX6_readsLetter k h0 h1 h2 z0 z1 z2 z3 z4 z5 z6 z7 z8 z9 v_taped q103.2.1 q103.2.2.1 q103.2.2.2.1 q103.2.2.2.2.1 q103.2.2.2.2.2.1 q103.2.2.2.2.2.2 q58.2.2.2.2.2.2.2 v_draft_91 v_tape)) rfl rfl rfl hl.1 (rest := [.int (((127 : Int32) + ((8 : Int32) * (v_draft 2))) + (5 : Int32)), .ref h1]) (Nat.le_of_ble_eq_true rfl) rfl dX6_readsLetter_103 ⟨Nat.zero_le _, Nat.zero_le _⟩ (fun H locs hP hD hS => ?_)
  obtain ⟨hin, hf⟩ := gd_some hf
  obtain ⟨v_draft_106, hn106, hf⟩ := nm_some hf
  refine kiast C hP hD hS 1 rfl hin dX6_readsLetter_106 (j := (((127 : Int32) + ((8 : Int32) * (v_draft 2))) + (5 : Int32)).toNatClampNeg) rfl (g := v_draft_106) hn106 (w2 := (wX6_readsLetter k h0 h1 h2 z0 z1 z2 z3 z4 z5 z6 z7 z8 z9 v_taped q103.2.1 q103.2.2.1 q103.2.2.2.1 q103.2.2.2.2.1 q103.2.2.2.2.2.1 q103.2.2.2.2.2.2 q58.2.2.2.2.2.2.2 v_draft_106 v_tape)) rfl (fun H locs hP hD hS => ?_)
  refine lv_aload_n hx hb dX6_readsLetter_107 rfl (lv_at hl 1 rfl) ?_
  refine kget C inX6 hP 0 rfl rfl 1 (by decide) mw_688 rfl dX6_readsLetter_108 ?_
  refine lv_iload_n hx hb dX6_readsLetter_111 rfl (lv_at hl 0 rfl) ?_
  refine lv_bipush (v := (6 : Int32)) hx hb dX6_readsLetter_112 (by decide) ?_
  refine lv_iadd hx hb dX6_readsLetter_114 ?_
  refine lv_bipush (v := (-4 : Int32)) hx hb dX6_readsLetter_115 (by decide) ?_
  obtain ⟨hin, hf⟩ := gd_some hf
  obtain ⟨v_draft_117, hn117, hf⟩ := nm_some hf
  refine kiast C hP hD hS 1 rfl hin dX6_readsLetter_117 (j := (((127 : Int32) + ((8 : Int32) * (v_draft 2))) + (6 : Int32)).toNatClampNeg) rfl (g := v_draft_117) hn117 (w2 := (wX6_readsLetter k h0 h1 h2 z0 z1 z2 z3 z4 z5 z6 z7 z8 z9 v_taped q103.2.1 q103.2.2.1 q103.2.2.2.1 q103.2.2.2.2.1 q103.2.2.2.2.2.1 q103.2.2.2.2.2.2 q58.2.2.2.2.2.2.2 v_draft_117 v_tape)) rfl (fun H locs hP hD hS => ?_)
  refine lv_aload_n hx hb dX6_readsLetter_118 rfl (lv_at hl 1 rfl) ?_
  refine kget C inX6 hP 0 rfl rfl 1 (by decide) mw_688 rfl dX6_readsLetter_119 ?_
  refine lv_iload_n hx hb dX6_readsLetter_122 rfl (lv_at hl 0 rfl) ?_
  refine lv_bipush (v := (7 : Int32)) hx hb dX6_readsLetter_123 (by decide) ?_
  refine lv_iadd hx hb dX6_readsLetter_125 ?_
  refine lv_bipush (v := (-4 : Int32)) hx hb dX6_readsLetter_126 (by decide) ?_
  obtain ⟨hin, hf⟩ := gd_some hf
  obtain ⟨v_draft_128, hn128, hf⟩ := nm_some hf
  refine kiast C hP hD hS 1 rfl hin dX6_readsLetter_128 (j := (((127 : Int32) + ((8 : Int32) * (v_draft 2))) + (7 : Int32)).toNatClampNeg) rfl (g := v_draft_128) hn128 (w2 := (wX6_readsLetter k h0 h1 h2 z0 z1 z2 z3 z4 z5 z6 z7 z8 z9 v_taped q103.2.1 q103.2.2.1 q103.2.2.2.1 q103.2.2.2.2.1 q103.2.2.2.2.2.1 q103.2.2.2.2.2.2 q58.2.2.2.2.2.2.2 v_draft_128 v_tape)) rfl (fun H locs hP hD hS => ?_)
  refine lv_aload_n hx hb dX6_readsLetter_129 rfl (lv_at hl 1 rfl) ?_
  refine kget C inX6 hP 0 rfl rfl 1 (by decide) mw_688 rfl dX6_readsLetter_130 ?_
  refine lv_iconst (v := (2 : Int32)) hx hb dX6_readsLetter_133 (by decide) ?_
  refine lv_dup2_11 hx hb dX6_readsLetter_134 rfl rfl ?_
  refine kiald C hP 1 rfl (by unfold vp_in; decide) dX6_readsLetter_135 (j := 2) (by decide) ?_
  refine lv_iconst (v := (1 : Int32)) hx hb dX6_readsLetter_136 (by decide) ?_
  refine lv_iadd hx hb dX6_readsLetter_137 ?_
  obtain ⟨v_draft_138, hn138, hf⟩ := nm_some hf
  refine kiast C hP hD hS 1 rfl (by unfold vp_in; decide) dX6_readsLetter_138 (j := 2) (by decide) (g := v_draft_138) hn138 (w2 := (wX6_readsLetter k h0 h1 h2 z0 z1 z2 z3 z4 z5 z6 z7 z8 z9 v_taped q103.2.1 q103.2.2.1 q103.2.2.2.1 q103.2.2.2.2.1 q103.2.2.2.2.2.1 q103.2.2.2.2.2.2 q58.2.2.2.2.2.2.2 v_draft_138 v_tape)) rfl (fun H locs hP hD hS => ?_)
  obtain rfl := Option.some.inj hf
  exact hret _ _ _ _ dX6_readsLetter_139 hP hS
set_option maxHeartbeats 4000000 in
set_option maxRecDepth 100000 in
theorem kX6_readsLine {l : Launch} {D : va_G} {k : Nat → ClassId} (h0 h1 h2 h3 h4 : Nat) (z0 z1 z2 z3 z4 z5 z6 z7 : Value) (v_taped : Int32) (v_fault : Int32) (v_brokenAt : Int32) (v_spot : Int32) (v_here : Int32) (v_token : Int32) (v_value : Int32) (v_greatest : Int32) (v_draft : Nat → Int32) (v_tape : Nat → Int32) (v_ends : Nat → Int32) (v_words : Nat → Int32) (q : Int32 × Int32 × Int32 × Int32 × Int32 × Int32 × Int32 × (Nat → Int32)) (hf : fX6_readsLine v_taped v_fault v_brokenAt v_spot v_here v_token v_value v_greatest v_draft v_tape v_ends v_words = some q) : KMv l yX6_readsLine cX6_readsLine 2 ({ frames := 4, cells := 0, slots := 0, locals := 90 } : Room) D k [.ref h0] (wX6_readsLine k h0 h1 h2 h3 h4 z0 z1 z2 z3 z4 z5 z6 z7 v_taped v_fault v_brokenAt v_spot v_here v_token v_value v_greatest v_draft v_tape v_ends v_words) (wX6_readsLine k h0 h1 h2 h3 h4 z0 z1 z2 z3 z4 z5 z6 z7 v_taped q.1 q.2.1 q.2.2.1 q.2.2.2.1 q.2.2.2.2.1 q.2.2.2.2.2.1 q.2.2.2.2.2.2.1 q.2.2.2.2.2.2.2 v_tape v_ends v_words) := by
  refine kent_v (by decide) (Nat.le_of_ble_eq_true rfl) ?_
  intro p e s m below meth c A Q ls C hP hD hS hl hret
  obtain ⟨hx, hb, -⟩ := id C
  have hl : lv_has ls 2 [(0, .ref h0)] := hl
  unfold fX6_readsLine at hf
  generalize ([.ref h0] : List Value).toArray = args at *
  refine lv_aload_n hx hb dX6_readsLine_0 rfl (lv_at hl 0 rfl) ?_
  obtain ⟨q1, hq1, hf⟩ := bd_some hf
  refine kcVi C (kX6_wordNow (l := l) (D := D) (k := k) h0 h2 h3 h4 z0 (.ref h1) z1 z2 (.int v_fault) (.int v_brokenAt) (.int v_value) (.int v_greatest) z3 z4 z5 z6 z7 v_taped v_spot v_here v_token v_tape v_ends v_words q1 hq1) mt_X6_wordNow mw_786 ⟨rfl, rfl, Nat.le_of_ble_eq_true rfl, Nat.le_of_ble_eq_true rfl⟩ hP hD hS 0 rfl rfl rfl [0, 2, 3, 4] rfl rfl [some 0, none, some 1, some 2, some 3] rfl rfl (w2 := (wX6_readsLine k h0 h1 h2 h3 h4 z0 z1 z2 z3 z4 z5 z6 z7 v_taped v_fault v_brokenAt v_spot v_here v_token v_value v_greatest v_draft v_tape v_ends v_words)) rfl rfl rfl hl.1 (rest := []) (Nat.le_of_ble_eq_true rfl) rfl dX6_readsLine_1 ⟨Nat.zero_le _, Nat.zero_le _⟩ (fun H locs hP hD hS => ?_)
  refine lv_istore_n (lv' := [(1, .int q1), (0, .ref h0)]) hx hb dX6_readsLine_4 rfl hl (by decide) rfl (fun ls hl => ?_)
  refine lv_aload_n hx hb dX6_readsLine_5 rfl (lv_at hl 1 rfl) ?_
  refine lv_iload_n hx hb dX6_readsLine_6 rfl (lv_at hl 0 rfl) ?_
  refine lv_bipush (v := (-4 : Int32)) hx hb dX6_readsLine_7 (by decide) ?_
  obtain ⟨v17, hv17, hf⟩ := bd_some hf
  have hj17 : ∀ (H : Heap) (locs : List Loc) (ls : Array Slot), va_P D vwCl (wX6_readsLine k h0 h1 h2 h3 h4 z0 z1 z2 z3 z4 z5 z6 z7 v_taped v_fault v_brokenAt v_spot v_here v_token v_value v_greatest v_draft v_tape v_ends v_words) H → va_D A (wX6_readsLine k h0 h1 h2 h3 h4 z0 z1 z2 z3 z4 z5 z6 z7 v_taped v_fault v_brokenAt v_spot v_here v_token v_value v_greatest v_draft v_tape v_ends v_words) → va_S A s.heap H locs → lv_has ls 2 [(0, .ref h0), (1, .int q1)] → W p l e ({ frames := 4, cells := 0, slots := 0, locals := 90 } : Room) s m args below meth c H locs 0 0 Q (F0 m 17 ls [.int v17, .ref h0]) := by
    intro H locs ls hP hD hS hl
    refine lv_iconst (v := (2 : Int32)) hx hb dX6_readsLine_17 (by decide) ?_
    obtain ⟨q18, hq18, hf⟩ := bd_some hf
    refine kcVv C (kX6_must (l := l) (D := D) (k := k) h0 z0 (.ref h1) z1 z2 (.ref h2) (.int v_taped) (.int v_spot) (.int v_token) (.int v_value) (.ref h3) (.ref h4) (.int v_greatest) z3 z4 z5 z6 z7 v_fault v_brokenAt v_here v17 (2 : Int32) q18 hq18) mt_X6_must mw_778 ⟨rfl, rfl, Nat.le_of_ble_eq_true rfl, Nat.le_of_ble_eq_true rfl⟩ hP hD hS 0 rfl rfl rfl [0] rfl rfl [some 0, none, none, none, none] rfl rfl (w2 := (wX6_readsLine k h0 h1 h2 h3 h4 z0 z1 z2 z3 z4 z5 z6 z7 v_taped q18.1 q18.2 v_spot v_here v_token v_value v_greatest v_draft v_tape v_ends v_words)) rfl rfl rfl hl.1 (rest := []) (Nat.le_of_ble_eq_true rfl) rfl dX6_readsLine_18 ⟨Nat.zero_le _, Nat.zero_le _⟩ (fun H locs hP hD hS => ?_)
    refine lv_aload_n hx hb dX6_readsLine_21 rfl (lv_at hl 0 rfl) ?_
    refine lv_aload_n hx hb dX6_readsLine_22 rfl (lv_at hl 0 rfl) ?_
    refine kget C inX6 hP 0 rfl rfl 6 (by decide) mw_693 rfl dX6_readsLine_23 ?_
    obtain ⟨v64, hv64, hf⟩ := bd_some hf
    have hj64 : ∀ (H : Heap) (locs : List Loc) (ls : Array Slot), va_P D vwCl (wX6_readsLine k h0 h1 h2 h3 h4 z0 z1 z2 z3 z4 z5 z6 z7 v_taped q18.1 q18.2 v_spot v_here v_token v_value v_greatest v_draft v_tape v_ends v_words) H → va_D A (wX6_readsLine k h0 h1 h2 h3 h4 z0 z1 z2 z3 z4 z5 z6 z7 v_taped q18.1 q18.2 v_spot v_here v_token v_value v_greatest v_draft v_tape v_ends v_words) → va_S A s.heap H locs → lv_has ls 2 [(0, .ref h0), (1, .int q1)] → W p l e ({ frames := 4, cells := 0, slots := 0, locals := 90 } : Room) s m args below meth c H locs 0 0 Q (F0 m 64 ls [.int v64, .ref h0]) := by
      intro H locs ls hP hD hS hl
      refine lv_iconst (v := (4 : Int32)) hx hb dX6_readsLine_64 (by decide) ?_
      obtain ⟨q65, hq65, hf⟩ := bd_some hf
      refine kcVv C (kX6_must (l := l) (D := D) (k := k) h0 z0 (.ref h1) z1 z2 (.ref h2) (.int v_taped) (.int v_spot) (.int v_token) (.int v_value) (.ref h3) (.ref h4) (.int v_greatest) z3 z4 z5 z6 z7 q18.1 q18.2 v_here v64 (4 : Int32) q65 hq65) mt_X6_must mw_778 ⟨rfl, rfl, Nat.le_of_ble_eq_true rfl, Nat.le_of_ble_eq_true rfl⟩ hP hD hS 0 rfl rfl rfl [0] rfl rfl [some 0, none, none, none, none] rfl rfl (w2 := (wX6_readsLine k h0 h1 h2 h3 h4 z0 z1 z2 z3 z4 z5 z6 z7 v_taped q65.1 q65.2 v_spot v_here v_token v_value v_greatest v_draft v_tape v_ends v_words)) rfl rfl rfl hl.1 (rest := []) (Nat.le_of_ble_eq_true rfl) rfl dX6_readsLine_65 ⟨Nat.zero_le _, Nat.zero_le _⟩ (fun H locs hP hD hS => ?_)
      refine lv_aload_n hx hb dX6_readsLine_68 rfl (lv_at hl 0 rfl) ?_
      obtain ⟨q69, hq69, hf⟩ := bd_some hf
      refine kcVv C (kX6_reads (l := l) (D := D) (k := k) h0 h2 z0 (.ref h1) z1 z2 (.ref h3) (.ref h4) (.int v_greatest) z3 z4 z5 z6 z7 v_taped q65.1 q65.2 v_spot v_here v_token v_value v_tape q69 hq69) mt_X6_reads mw_766 ⟨rfl, rfl, Nat.le_of_ble_eq_true rfl, Nat.le_of_ble_eq_true rfl⟩ hP hD hS 0 rfl rfl rfl [0, 2] rfl rfl [some 0, none, some 1, none, none] rfl rfl (w2 := (wX6_readsLine k h0 h1 h2 h3 h4 z0 z1 z2 z3 z4 z5 z6 z7 v_taped q69.1 q69.2.1 q69.2.2.1 q69.2.2.2.1 q69.2.2.2.2.1 q69.2.2.2.2.2 v_greatest v_draft v_tape v_ends v_words)) rfl rfl rfl hl.1 (rest := []) (Nat.le_of_ble_eq_true rfl) rfl dX6_readsLine_69 ⟨Nat.zero_le _, Nat.zero_le _⟩ (fun H locs hP hD hS => ?_)
      refine lv_aload_n hx hb dX6_readsLine_72 rfl (lv_at hl 0 rfl) ?_
      refine kget C inX6 hP 0 rfl rfl 6 (by decide) mw_693 rfl dX6_readsLine_73 ?_
      refine lv_if_le (tgt := 80) hx hb dX6_readsLine_76 (by decide) (fun hc => ?_) (fun hc => ?_)
      · rw [if_pos hc] at hf
        refine lv_iload_n hx hb dX6_readsLine_80 rfl (lv_at hl 1 rfl) ?_
        obtain ⟨v134, hv134, hf⟩ := bd_some hf
        have hj134 : ∀ (H : Heap) (locs : List Loc) (ls : Array Slot), va_P D vwCl (wX6_readsLine k h0 h1 h2 h3 h4 z0 z1 z2 z3 z4 z5 z6 z7 v_taped v134.1 v134.2.1 v134.2.2.1 v134.2.2.2.1 v134.2.2.2.2.1 v134.2.2.2.2.2.1 v134.2.2.2.2.2.2.1 v134.2.2.2.2.2.2.2 v_tape v_ends v_words) H → va_D A (wX6_readsLine k h0 h1 h2 h3 h4 z0 z1 z2 z3 z4 z5 z6 z7 v_taped v134.1 v134.2.1 v134.2.2.1 v134.2.2.2.1 v134.2.2.2.2.1 v134.2.2.2.2.2.1 v134.2.2.2.2.2.2.1 v134.2.2.2.2.2.2.2 v_tape v_ends v_words) → va_S A s.heap H locs → lv_has ls 2 [(0, .ref h0)] → W p l e ({ frames := 4, cells := 0, slots := 0, locals := 90 } : Room) s m args below meth c H locs 0 0 Q (F0 m 134 ls []) := by
          intro H locs ls hP hD hS hl
          refine lv_aload_n hx hb dX6_readsLine_134 rfl (lv_at hl 0 rfl) ?_
          refine lv_aload_n hx hb dX6_readsLine_135 rfl (lv_at hl 0 rfl) ?_
          refine kget C inX6 hP 0 rfl rfl 6 (by decide) mw_693 rfl dX6_readsLine_136 ?_
          obtain ⟨v155, hv155, hf⟩ := bd_some hf
          have hj155 : ∀ (H : Heap) (locs : List Loc) (ls : Array Slot), va_P D vwCl (wX6_readsLine k h0 h1 h2 h3 h4 z0 z1 z2 z3 z4 z5 z6 z7 v_taped v134.1 v134.2.1 v134.2.2.1 v134.2.2.2.1 v134.2.2.2.2.1 v134.2.2.2.2.2.1 v134.2.2.2.2.2.2.1 v134.2.2.2.2.2.2.2 v_tape v_ends v_words) H → va_D A (wX6_readsLine k h0 h1 h2 h3 h4 z0 z1 z2 z3 z4 z5 z6 z7 v_taped v134.1 v134.2.1 v134.2.2.1 v134.2.2.2.1 v134.2.2.2.2.1 v134.2.2.2.2.2.1 v134.2.2.2.2.2.2.1 v134.2.2.2.2.2.2.2 v_tape v_ends v_words) → va_S A s.heap H locs → lv_has ls 2 [(0, .ref h0)] → W p l e ({ frames := 4, cells := 0, slots := 0, locals := 90 } : Room) s m args below meth c H locs 0 0 Q (F0 m 155 ls [.int v155, .ref h0]) := by
            intro H locs ls hP hD hS hl
            refine lv_iconst (v := (2 : Int32)) hx hb dX6_readsLine_155 (by decide) ?_
            obtain ⟨q156, hq156, hf⟩ := bd_some hf
            refine kcVv C (kX6_must (l := l) (D := D) (k := k) h0 z0 (.ref h1) z1 z2 (.ref h2) (.int v_taped) (.int v134.2.2.1) (.int v134.2.2.2.2.1) (.int v134.2.2.2.2.2.1) (.ref h3) (.ref h4) (.int v134.2.2.2.2.2.2.1) z3 z4 z5 z6 z7 v134.1 v134.2.1 v134.2.2.2.1 v155 (2 : Int32) q156 hq156) mt_X6_must mw_778 ⟨rfl, rfl, Nat.le_of_ble_eq_true rfl, Nat.le_of_ble_eq_true rfl⟩ hP hD hS 0 rfl rfl rfl [0] rfl rfl [some 0, none, none, none, none] rfl rfl (w2 := (wX6_readsLine k h0 h1 h2 h3 h4 z0 z1 z2 z3 z4 z5 z6 z7 v_taped q156.1 q156.2 v134.2.2.1 v134.2.2.2.1 v134.2.2.2.2.1 v134.2.2.2.2.2.1 v134.2.2.2.2.2.2.1 v134.2.2.2.2.2.2.2 v_tape v_ends v_words)) rfl rfl rfl hl.1 (rest := []) (Nat.le_of_ble_eq_true rfl) rfl dX6_readsLine_156 ⟨Nat.zero_le _, Nat.zero_le _⟩ (fun H locs hP hD hS => ?_)
            refine lv_aload_n hx hb dX6_readsLine_159 rfl (lv_at hl 0 rfl) ?_
            obtain ⟨q160, hq160, hf⟩ := bd_some hf
            refine kcVv C (kX6_reads (l := l) (D := D) (k := k) h0 h2 z0 (.ref h1) z1 z2 (.ref h3) (.ref h4) (.int v134.2.2.2.2.2.2.1) z3 z4 z5 z6 z7 v_taped q156.1 q156.2 v134.2.2.1 v134.2.2.2.1 v134.2.2.2.2.1 v134.2.2.2.2.2.1 v_tape q160 hq160) mt_X6_reads mw_766 ⟨rfl, rfl, Nat.le_of_ble_eq_true rfl, Nat.le_of_ble_eq_true rfl⟩ hP hD hS 0 rfl rfl rfl [0, 2] rfl rfl [some 0, none, some 1, none, none] rfl rfl (w2 := (wX6_readsLine k h0 h1 h2 h3 h4 z0 z1 z2 z3 z4 z5 z6 z7 v_taped q160.1 q160.2.1 q160.2.2.1 q160.2.2.2.1 q160.2.2.2.2.1 q160.2.2.2.2.2 v134.2.2.2.2.2.2.1 v134.2.2.2.2.2.2.2 v_tape v_ends v_words)) rfl rfl rfl hl.1 (rest := []) (Nat.le_of_ble_eq_true rfl) rfl dX6_readsLine_160 ⟨Nat.zero_le _, Nat.zero_le _⟩ (fun H locs hP hD hS => ?_)
            obtain rfl := Option.some.inj hf
            exact hret _ _ _ _ dX6_readsLine_163 hP hS
          clear hf
          have hf := hv155
          refine lv_if_gt (tgt := 150) hx hb dX6_readsLine_139 (by decide) (fun hc => ?_) (fun hc => ?_)
          · rw [if_pos hc] at hf
            refine lv_iconst (v := (1 : Int32)) hx hb dX6_readsLine_150 (by decide) ?_
            refine lv_goto (tgt := 155) hx hb dX6_readsLine_151 (by decide) ?_
            obtain rfl := Option.some.inj hf
            exact hj155 _ _ _ hP hD hS (lv_sub hl [0] rfl)
          · rw [if_neg hc] at hf
            refine lv_aload_n hx hb dX6_readsLine_142 rfl (lv_at hl 0 rfl) ?_
            refine kget C inX6 hP 0 rfl rfl 10 (by decide) mw_697 rfl dX6_readsLine_143 ?_
            refine lv_iconst (v := (3 : Int32)) hx hb dX6_readsLine_146 (by decide) ?_
            refine lv_icmp_ne (tgt := 154) hx hb dX6_readsLine_147 (by decide) (fun hc => ?_) (fun hc => ?_)
            · rw [if_neg hc] at hf
              refine lv_iconst (v := (0 : Int32)) hx hb dX6_readsLine_154 (by decide) ?_
              obtain rfl := Option.some.inj hf
              exact hj155 _ _ _ hP hD hS (lv_sub hl [0] rfl)
            · rw [if_pos hc] at hf
              refine lv_iconst (v := (1 : Int32)) hx hb dX6_readsLine_150 (by decide) ?_
              refine lv_goto (tgt := 155) hx hb dX6_readsLine_151 (by decide) ?_
              obtain rfl := Option.some.inj hf
              exact hj155 _ _ _ hP hD hS (lv_sub hl [0] rfl)
        clear hf
        have hf := hv134
        refine lv_if_ne (tgt := 118) hx hb dX6_readsLine_81 (by decide) (fun hc => ?_) (fun hc => ?_)
        · rw [if_neg hc] at hf
          refine lv_iload_n hx hb dX6_readsLine_118 rfl (lv_at hl 1 rfl) ?_
          refine lv_iconst (v := (1 : Int32)) hx hb dX6_readsLine_119 (by decide) ?_
          refine lv_icmp_ne (tgt := 130) hx hb dX6_readsLine_120 (by decide) (fun hc => ?_) (fun hc => ?_)
          · rw [if_neg hc] at hf
            refine lv_aload_n hx hb dX6_readsLine_130 rfl (lv_at hl 0 rfl) ?_
            obtain ⟨q131, hq131, hf⟩ := bd_some hf
            refine kcVv C (kX6_readsLetter (l := l) (D := D) (k := k) h0 h1 h2 z0 z1 z2 (.ref h3) (.ref h4) z3 z4 z5 z6 z7 v_taped q69.1 q69.2.1 q69.2.2.1 q69.2.2.2.1 q69.2.2.2.2.1 q69.2.2.2.2.2 v_greatest v_draft v_tape q131 hq131) mt_X6_readsLetter mw_802 ⟨rfl, rfl, Nat.le_of_ble_eq_true rfl, Nat.le_of_ble_eq_true rfl⟩ hP hD hS 0 rfl rfl rfl [0, 1, 2] rfl rfl [some 0, some 1, some 2, none, none] rfl rfl (w2 := (wX6_readsLine k h0 h1 h2 h3 h4 z0 z1 z2 z3 z4 z5 z6 z7 v_taped q131.1 q131.2.1 q131.2.2.1 q131.2.2.2.1 q131.2.2.2.2.1 q131.2.2.2.2.2.1 q131.2.2.2.2.2.2.1 q131.2.2.2.2.2.2.2 v_tape v_ends v_words)) rfl rfl rfl hl.1 (rest := []) (Nat.le_of_ble_eq_true rfl) rfl dX6_readsLine_131 ⟨Nat.zero_le _, Nat.zero_le _⟩ (fun H locs hP hD hS => ?_)
            obtain rfl := Option.some.inj hf
            exact hj134 _ _ _ hP hD hS (lv_sub hl [0] rfl)
          · rw [if_pos hc] at hf
            refine lv_aload_n hx hb dX6_readsLine_123 rfl (lv_at hl 0 rfl) ?_
            obtain ⟨q124, hq124, hf⟩ := bd_some hf
            refine kcVv C (kX6_readsMeeting (l := l) (D := D) (k := k) h0 h1 h2 z0 z1 z2 (.ref h3) (.ref h4) z3 z4 z5 z6 z7 v_taped q69.1 q69.2.1 q69.2.2.1 q69.2.2.2.1 q69.2.2.2.2.1 q69.2.2.2.2.2 v_greatest v_draft v_tape q124 hq124) mt_X6_readsMeeting mw_794 ⟨rfl, rfl, Nat.le_of_ble_eq_true rfl, Nat.le_of_ble_eq_true rfl⟩ hP hD hS 0 rfl rfl rfl [0, 1, 2] rfl rfl [some 0, some 1, some 2, none, none] rfl rfl (w2 := (wX6_readsLine k h0 h1 h2 h3 h4 z0 z1 z2 z3 z4 z5 z6 z7 v_taped q124.1 q124.2.1 q124.2.2.1 q124.2.2.2.1 q124.2.2.2.2.1 q124.2.2.2.2.2.1 q124.2.2.2.2.2.2.1 q124.2.2.2.2.2.2.2 v_tape v_ends v_words)) rfl rfl rfl hl.1 (rest := []) (Nat.le_of_ble_eq_true rfl) rfl dX6_readsLine_124 ⟨Nat.zero_le _, Nat.zero_le _⟩ (fun H locs hP hD hS => ?_)
            refine lv_goto (tgt := 134) hx hb dX6_readsLine_127 (by decide) ?_
            obtain rfl := Option.some.inj hf
            exact hj134 _ _ _ hP hD hS (lv_sub hl [0] rfl)
        · rw [if_pos hc] at hf
          refine lv_aload_n hx hb dX6_readsLine_84 rfl (lv_at hl 0 rfl) ?_
          refine kget C inX6 hP 0 rfl rfl 1 (by decide) mw_688 rfl dX6_readsLine_85 ?_
          refine lv_bipush (v := (23 : Int32)) hx hb dX6_readsLine_88 (by decide) ?_
          refine lv_aload_n hx hb dX6_readsLine_90 rfl (lv_at hl 0 rfl) ?_
          refine kget C inX6 hP 0 rfl rfl 1 (by decide) mw_688 rfl dX6_readsLine_91 ?_
          refine lv_iconst (v := (0 : Int32)) hx hb dX6_readsLine_94 (by decide) ?_
          refine kiald C hP 1 rfl (by unfold vp_in; decide) dX6_readsLine_95 (j := 0) (by decide) ?_
          refine lv_iadd hx hb dX6_readsLine_96 ?_
          refine lv_aload_n hx hb dX6_readsLine_97 rfl (lv_at hl 0 rfl) ?_
          refine lv_iconst (v := (0 : Int32)) hx hb dX6_readsLine_98 (by decide) ?_
          refine lv_bipush (v := (99 : Int32)) hx hb dX6_readsLine_99 (by decide) ?_
          obtain ⟨q101, hq101, hf⟩ := bd_some hf
          refine kcVi C (kX6_number (l := l) (D := D) (k := k) h0 h2 z0 (.ref h1) z1 z2 (.ref h3) (.ref h4) (.int v_greatest) z3 z4 z5 z6 z7 v_taped q69.1 q69.2.1 q69.2.2.1 q69.2.2.2.1 q69.2.2.2.2.1 q69.2.2.2.2.2 v_tape (0 : Int32) (99 : Int32) q101 hq101) mt_X6_number mw_790 ⟨rfl, rfl, Nat.le_of_ble_eq_true rfl, Nat.le_of_ble_eq_true rfl⟩ hP hD hS 0 rfl rfl rfl [0, 2] rfl rfl [some 0, none, some 1, none, none] rfl rfl (w2 := (wX6_readsLine k h0 h1 h2 h3 h4 z0 z1 z2 z3 z4 z5 z6 z7 v_taped q101.2.1 q101.2.2.1 q101.2.2.2.1 q101.2.2.2.2.1 q101.2.2.2.2.2.1 q101.2.2.2.2.2.2 v_greatest v_draft v_tape v_ends v_words)) rfl rfl rfl hl.1 (rest := [.int ((23 : Int32) + (v_draft 0)), .ref h1]) (Nat.le_of_ble_eq_true rfl) rfl dX6_readsLine_101 ⟨Nat.zero_le _, Nat.zero_le _⟩ (fun H locs hP hD hS => ?_)
          obtain ⟨hin, hf⟩ := gd_some hf
          obtain ⟨v_draft_104, hn104, hf⟩ := nm_some hf
          refine kiast C hP hD hS 1 rfl hin dX6_readsLine_104 (j := ((23 : Int32) + (v_draft 0)).toNatClampNeg) rfl (g := v_draft_104) hn104 (w2 := (wX6_readsLine k h0 h1 h2 h3 h4 z0 z1 z2 z3 z4 z5 z6 z7 v_taped q101.2.1 q101.2.2.1 q101.2.2.2.1 q101.2.2.2.2.1 q101.2.2.2.2.2.1 q101.2.2.2.2.2.2 v_greatest v_draft_104 v_tape v_ends v_words)) rfl (fun H locs hP hD hS => ?_)
          refine lv_aload_n hx hb dX6_readsLine_105 rfl (lv_at hl 0 rfl) ?_
          refine kget C inX6 hP 0 rfl rfl 1 (by decide) mw_688 rfl dX6_readsLine_106 ?_
          refine lv_iconst (v := (0 : Int32)) hx hb dX6_readsLine_109 (by decide) ?_
          refine lv_dup2_11 hx hb dX6_readsLine_110 rfl rfl ?_
          refine kiald C hP 1 rfl (by unfold vp_in; decide) dX6_readsLine_111 (j := 0) (by decide) ?_
          refine lv_iconst (v := (1 : Int32)) hx hb dX6_readsLine_112 (by decide) ?_
          refine lv_iadd hx hb dX6_readsLine_113 ?_
          obtain ⟨v_draft_114, hn114, hf⟩ := nm_some hf
          refine kiast C hP hD hS 1 rfl (by unfold vp_in; decide) dX6_readsLine_114 (j := 0) (by decide) (g := v_draft_114) hn114 (w2 := (wX6_readsLine k h0 h1 h2 h3 h4 z0 z1 z2 z3 z4 z5 z6 z7 v_taped q101.2.1 q101.2.2.1 q101.2.2.2.1 q101.2.2.2.2.1 q101.2.2.2.2.2.1 q101.2.2.2.2.2.2 v_greatest v_draft_114 v_tape v_ends v_words)) rfl (fun H locs hP hD hS => ?_)
          refine lv_goto (tgt := 134) hx hb dX6_readsLine_115 (by decide) ?_
          obtain rfl := Option.some.inj hf
          exact hj134 _ _ _ hP hD hS (lv_sub hl [0] rfl)
      · rw [if_neg hc] at hf
        obtain rfl := Option.some.inj hf
        exact hret _ _ _ _ dX6_readsLine_79 hP hS
    clear hf
    have hf := hv64
    refine lv_if_gt (tgt := 59) hx hb dX6_readsLine_26 (by decide) (fun hc => ?_) (fun hc => ?_)
    · rw [if_pos hc] at hf
      refine lv_iconst (v := (1 : Int32)) hx hb dX6_readsLine_59 (by decide) ?_
      refine lv_goto (tgt := 64) hx hb dX6_readsLine_60 (by decide) ?_
      obtain rfl := Option.some.inj hf
      exact hj64 _ _ _ hP hD hS (lv_sub hl [0, 1] rfl)
    · rw [if_neg hc] at hf
      refine lv_aload_n hx hb dX6_readsLine_29 rfl (lv_at hl 0 rfl) ?_
      refine kget C inX6 hP 0 rfl rfl 1 (by decide) mw_688 rfl dX6_readsLine_30 ?_
      refine lv_iload_n hx hb dX6_readsLine_33 rfl (lv_at hl 1 rfl) ?_
      obtain ⟨hin, hf⟩ := gd_some hf
      refine kiald C hP 1 rfl hin dX6_readsLine_34 (j := q1.toNatClampNeg) rfl ?_
      refine lv_iload_n hx hb dX6_readsLine_35 rfl (lv_at hl 1 rfl) ?_
      obtain ⟨v56, hv56, hf⟩ := bd_some hf
      have hj56 : ∀ (H : Heap) (locs : List Loc) (ls : Array Slot), va_P D vwCl (wX6_readsLine k h0 h1 h2 h3 h4 z0 z1 z2 z3 z4 z5 z6 z7 v_taped q18.1 q18.2 v_spot v_here v_token v_value v_greatest v_draft v_tape v_ends v_words) H → va_D A (wX6_readsLine k h0 h1 h2 h3 h4 z0 z1 z2 z3 z4 z5 z6 z7 v_taped q18.1 q18.2 v_spot v_here v_token v_value v_greatest v_draft v_tape v_ends v_words) → va_S A s.heap H locs → lv_has ls 2 [(0, .ref h0), (1, .int q1)] → W p l e ({ frames := 4, cells := 0, slots := 0, locals := 90 } : Room) s m args below meth c H locs 0 0 Q (F0 m 56 ls [.int v56, .int (v_draft q1.toNatClampNeg), .ref h0]) := by
        intro H locs ls hP hD hS hl
        refine lv_icmp_ge (tgt := 63) hx hb dX6_readsLine_56 (by decide) (fun hc => ?_) (fun hc => ?_)
        · rw [if_pos hc] at hf
          refine lv_iconst (v := (0 : Int32)) hx hb dX6_readsLine_63 (by decide) ?_
          obtain rfl := Option.some.inj hf
          exact hj64 _ _ _ hP hD hS (lv_sub hl [0, 1] rfl)
        · rw [if_neg hc] at hf
          refine lv_iconst (v := (1 : Int32)) hx hb dX6_readsLine_59 (by decide) ?_
          refine lv_goto (tgt := 64) hx hb dX6_readsLine_60 (by decide) ?_
          obtain rfl := Option.some.inj hf
          exact hj64 _ _ _ hP hD hS (lv_sub hl [0, 1] rfl)
      clear hf
      have hf := hv56
      refine lv_if_ne (tgt := 44) hx hb dX6_readsLine_36 (by decide) (fun hc => ?_) (fun hc => ?_)
      · rw [if_neg hc] at hf
        refine lv_iload_n hx hb dX6_readsLine_44 rfl (lv_at hl 1 rfl) ?_
        refine lv_iconst (v := (1 : Int32)) hx hb dX6_readsLine_45 (by decide) ?_
        refine lv_icmp_ne (tgt := 54) hx hb dX6_readsLine_46 (by decide) (fun hc => ?_) (fun hc => ?_)
        · rw [if_neg hc] at hf
          refine lv_bipush (v := (16 : Int32)) hx hb dX6_readsLine_54 (by decide) ?_
          obtain rfl := Option.some.inj hf
          exact hj56 _ _ _ hP hD hS (lv_sub hl [0, 1] rfl)
        · rw [if_pos hc] at hf
          refine lv_bipush (v := (24 : Int32)) hx hb dX6_readsLine_49 (by decide) ?_
          refine lv_goto (tgt := 56) hx hb dX6_readsLine_51 (by decide) ?_
          obtain rfl := Option.some.inj hf
          exact hj56 _ _ _ hP hD hS (lv_sub hl [0, 1] rfl)
      · rw [if_pos hc] at hf
        refine lv_bipush (v := (8 : Int32)) hx hb dX6_readsLine_39 (by decide) ?_
        refine lv_goto (tgt := 56) hx hb dX6_readsLine_41 (by decide) ?_
        obtain rfl := Option.some.inj hf
        exact hj56 _ _ _ hP hD hS (lv_sub hl [0, 1] rfl)
  clear hf
  have hf := hv17
  refine lv_icmp_eq (tgt := 16) hx hb dX6_readsLine_9 (by decide) (fun hc => ?_) (fun hc => ?_)
  · rw [if_pos hc] at hf
    refine lv_iconst (v := (0 : Int32)) hx hb dX6_readsLine_16 (by decide) ?_
    obtain rfl := Option.some.inj hf
    exact hj17 _ _ _ hP hD hS (lv_sub hl [1, 0] rfl)
  · rw [if_neg hc] at hf
    refine lv_iconst (v := (1 : Int32)) hx hb dX6_readsLine_12 (by decide) ?_
    refine lv_goto (tgt := 17) hx hb dX6_readsLine_13 (by decide) ?_
    obtain rfl := Option.some.inj hf
    exact hj17 _ _ _ hP hD hS (lv_sub hl [1, 0] rfl)
set_option maxHeartbeats 4000000 in
set_option maxRecDepth 100000 in
theorem wX6_text_17 {p : Program} {l : Launch} {e : Env} {s : State} {m : MethodId} {args : Array Value} {below : List Frame} {meth : Method} {c : Code} {A : Nat → Prop} {Q : State → Prop} {D : va_G} {k : Nat → ClassId} (C : Cx p s m args c cX6_text 3 RX6 A D k) (h0 h1 h2 h3 h4 h5 h6 : Nat) (z0 z1 z2 z3 z4 z5 : Value) (v_taped : Int32) (v_fault : Int32) (v_brokenAt : Int32) (v_spot : Int32) (v_here : Int32) (v_token : Int32) (v_value : Int32) (v_greatest : Int32) (v_page : Nat → Int32) (v_isKept : Nat → Int32) (v_tape : Nat → Int32) (v_ends : Nat → Int32) (v_words : Nat → Int32) : ∀ (f : Nat) (v_draft : Nat → Int32) (y1 : Int32) (ex : ((Nat → Int32))) (H : Heap) (locs : List Loc) (ls : Array Slot), fX6_text_17 v_page f v_draft y1 = some ex → va_P D vwCl (wX6_text k h0 h1 h2 h3 h4 h5 h6 z0 z1 z2 z3 z4 z5 v_taped v_fault v_brokenAt v_spot v_here v_token v_value v_greatest v_page v_draft v_isKept v_tape v_ends v_words) H → va_D A (wX6_text k h0 h1 h2 h3 h4 h5 h6 z0 z1 z2 z3 z4 z5 v_taped v_fault v_brokenAt v_spot v_here v_token v_value v_greatest v_page v_draft v_isKept v_tape v_ends v_words) → va_S A s.heap H locs → lv_has ls 3 [(0, .ref h0), (1, .int y1)] → (∀ (H : Heap) (locs : List Loc) (ls : Array Slot), va_P D vwCl (wX6_text k h0 h1 h2 h3 h4 h5 h6 z0 z1 z2 z3 z4 z5 v_taped v_fault v_brokenAt v_spot v_here v_token v_value v_greatest v_page ex v_isKept v_tape v_ends v_words) H → va_D A (wX6_text k h0 h1 h2 h3 h4 h5 h6 z0 z1 z2 z3 z4 z5 v_taped v_fault v_brokenAt v_spot v_here v_token v_value v_greatest v_page ex v_isKept v_tape v_ends v_words) → va_S A s.heap H locs → lv_has ls 3 [(0, .ref h0)] → W p l e ({ frames := 5, cells := 0, slots := 0, locals := 111 } : Room) s m args below meth c H locs 0 0 Q (F0 m 60 ls [])) → W p l e ({ frames := 5, cells := 0, slots := 0, locals := 111 } : Room) s m args below meth c H locs 0 0 Q (F0 m 17 ls []) := by
  obtain ⟨hx, hb, -⟩ := id C
  intro f
  induction f with
  | zero =>
    intro v_draft y1 ex H locs ls hf hP hD hS hl hk
    cases hf
  | succ f ih =>
    intro v_draft y1 ex H locs ls hf hP hD hS hl hk
    rw [fX6_text_17] at hf
    refine lv_iload_n hx hb dX6_text_17 rfl (lv_at hl 1 rfl) ?_
    refine lv_sipush (v := (831 : Int32)) hx hb dX6_text_18 (by decide) ?_
    refine lv_icmp_ge (tgt := 60) hx hb dX6_text_21 (by decide) (fun hc => ?_) (fun hc => ?_)
    · rw [if_pos hc] at hf
      obtain rfl := Option.some.inj hf
      exact hk _ _ _ hP hD hS (lv_sub hl [0] rfl)
    · rw [if_neg hc] at hf
      refine lv_aload_n hx hb dX6_text_24 rfl (lv_at hl 0 rfl) ?_
      refine kget C inX6 hP 0 rfl rfl 1 (by decide) mw_688 rfl dX6_text_25 ?_
      refine lv_iload_n hx hb dX6_text_28 rfl (lv_at hl 1 rfl) ?_
      refine lv_iload_n hx hb dX6_text_29 rfl (lv_at hl 1 rfl) ?_
      refine lv_i2l (v := (y1.toInt64)) hx hb dX6_text_30 rfl ?_
      refine lv_ldc2 (v := (4 : Int64)) hx hb C.2.2.2.1 (C.2.2.2.2.1 _ mw_764) dX6_text_31 ?_
      refine lv_ldc2 (v := (7 : Int64)) hx hb C.2.2.2.1 (C.2.2.2.2.1 _ mw_765) dX6_text_34 ?_
      obtain ⟨q37, hq37, hf⟩ := bd_some hf
      refine kcSi C (kX6_in (l := l) (D := D) (k := k) (y1.toInt64) (4 : Int64) (7 : Int64) q37 hq37) mt_X6_in mw_753 ⟨rfl, rfl, Nat.le_of_ble_eq_true rfl, Nat.le_of_ble_eq_true rfl⟩ hP hD hS [] rfl rfl [none, none, none, none, none, none, none] rfl rfl (w2 := (wX6_text k h0 h1 h2 h3 h4 h5 h6 z0 z1 z2 z3 z4 z5 v_taped v_fault v_brokenAt v_spot v_here v_token v_value v_greatest v_page v_draft v_isKept v_tape v_ends v_words)) rfl rfl rfl hl.1 (rest := [.int y1, .ref h2]) (Nat.le_of_ble_eq_true rfl) rfl dX6_text_37 ⟨Nat.zero_le _, Nat.zero_le _⟩ (fun H locs hP hD hS => ?_)
      refine lv_if_eq (tgt := 52) hx hb dX6_text_40 (by decide) (fun hc => ?_) (fun hc => ?_)
      · rw [if_pos hc] at hf
        refine lv_iconst (v := (0 : Int32)) hx hb dX6_text_52 (by decide) ?_
        obtain ⟨hin, hf⟩ := gd_some hf
        obtain ⟨v_draft_53, hn53, hf⟩ := nm_some hf
        refine kiast C hP hD hS 2 rfl hin dX6_text_53 (j := y1.toNatClampNeg) rfl (g := v_draft_53) hn53 (w2 := (wX6_text k h0 h1 h2 h3 h4 h5 h6 z0 z1 z2 z3 z4 z5 v_taped v_fault v_brokenAt v_spot v_here v_token v_value v_greatest v_page v_draft_53 v_isKept v_tape v_ends v_words)) rfl (fun H locs hP hD hS => ?_)
        refine lv_iinc (v := (y1 + (1 : Int32))) (lv' := [(1, .int (y1 + (1 : Int32))), (0, .ref h0)]) hx hb dX6_text_54 hl (k := 1) rfl rfl (by decide) rfl (fun ls hl => ?_)
        refine lv_goto (tgt := 17) hx hb dX6_text_57 (by decide) ?_
        exact ih v_draft_53 (y1 + (1 : Int32)) _ _ _ _ hf hP hD hS (lv_sub hl [1, 0] rfl) hk
      · rw [if_neg hc] at hf
        refine lv_aload_n hx hb dX6_text_43 rfl (lv_at hl 0 rfl) ?_
        refine kget C inX6 hP 0 rfl rfl 0 (by decide) mw_687 rfl dX6_text_44 ?_
        refine lv_iload_n hx hb dX6_text_47 rfl (lv_at hl 1 rfl) ?_
        obtain ⟨hin, hf⟩ := gd_some hf
        refine kiald C hP 1 rfl hin dX6_text_48 (j := y1.toNatClampNeg) rfl ?_
        refine lv_goto (tgt := 53) hx hb dX6_text_49 (by decide) ?_
        obtain ⟨hin, hf⟩ := gd_some hf
        obtain ⟨v_draft_53, hn53, hf⟩ := nm_some hf
        refine kiast C hP hD hS 2 rfl hin dX6_text_53 (j := y1.toNatClampNeg) rfl (g := v_draft_53) hn53 (w2 := (wX6_text k h0 h1 h2 h3 h4 h5 h6 z0 z1 z2 z3 z4 z5 v_taped v_fault v_brokenAt v_spot v_here v_token v_value v_greatest v_page v_draft_53 v_isKept v_tape v_ends v_words)) rfl (fun H locs hP hD hS => ?_)
        refine lv_iinc (v := (y1 + (1 : Int32))) (lv' := [(1, .int (y1 + (1 : Int32))), (0, .ref h0)]) hx hb dX6_text_54 hl (k := 1) rfl rfl (by decide) rfl (fun ls hl => ?_)
        refine lv_goto (tgt := 17) hx hb dX6_text_57 (by decide) ?_
        exact ih v_draft_53 (y1 + (1 : Int32)) _ _ _ _ hf hP hD hS (lv_sub hl [1, 0] rfl) hk
set_option maxHeartbeats 4000000 in
set_option maxRecDepth 100000 in
theorem wX6_text_66 {p : Program} {l : Launch} {e : Env} {s : State} {m : MethodId} {args : Array Value} {below : List Frame} {meth : Method} {c : Code} {A : Nat → Prop} {Q : State → Prop} {D : va_G} {k : Nat → ClassId} (C : Cx p s m args c cX6_text 3 RX6 A D k) (h0 h1 h2 h3 h4 h5 h6 : Nat) (z0 z1 z2 z3 z4 z5 : Value) (v_taped : Int32) (v_page : Nat → Int32) (v_isKept : Nat → Int32) (v_tape : Nat → Int32) (v_ends : Nat → Int32) (v_words : Nat → Int32) : ∀ (f : Nat) (v_fault : Int32) (v_brokenAt : Int32) (v_spot : Int32) (v_here : Int32) (v_token : Int32) (v_value : Int32) (v_greatest : Int32) (v_draft : Nat → Int32) (y1 : Int32) (ex : (Int32 × Int32 × Int32 × Int32 × Int32 × Int32 × Int32 × (Nat → Int32) × Int32)) (H : Heap) (locs : List Loc) (ls : Array Slot), fX6_text_66 v_taped v_tape v_ends v_words f v_fault v_brokenAt v_spot v_here v_token v_value v_greatest v_draft y1 = some ex → va_P D vwCl (wX6_text k h0 h1 h2 h3 h4 h5 h6 z0 z1 z2 z3 z4 z5 v_taped v_fault v_brokenAt v_spot v_here v_token v_value v_greatest v_page v_draft v_isKept v_tape v_ends v_words) H → va_D A (wX6_text k h0 h1 h2 h3 h4 h5 h6 z0 z1 z2 z3 z4 z5 v_taped v_fault v_brokenAt v_spot v_here v_token v_value v_greatest v_page v_draft v_isKept v_tape v_ends v_words) → va_S A s.heap H locs → lv_has ls 3 [(0, .ref h0), (1, .int y1)] → (∀ (H : Heap) (locs : List Loc) (ls : Array Slot), va_P D vwCl (wX6_text k h0 h1 h2 h3 h4 h5 h6 z0 z1 z2 z3 z4 z5 v_taped ex.1 ex.2.1 ex.2.2.1 ex.2.2.2.1 ex.2.2.2.2.1 ex.2.2.2.2.2.1 ex.2.2.2.2.2.2.1 v_page ex.2.2.2.2.2.2.2.1 v_isKept v_tape v_ends v_words) H → va_D A (wX6_text k h0 h1 h2 h3 h4 h5 h6 z0 z1 z2 z3 z4 z5 v_taped ex.1 ex.2.1 ex.2.2.1 ex.2.2.2.1 ex.2.2.2.2.1 ex.2.2.2.2.2.1 ex.2.2.2.2.2.2.1 v_page ex.2.2.2.2.2.2.2.1 v_isKept v_tape v_ends v_words) → va_S A s.heap H locs → lv_has ls 3 [(0, .ref h0), (1, .int ex.2.2.2.2.2.2.2.2)] → W p l e ({ frames := 5, cells := 0, slots := 0, locals := 111 } : Room) s m args below meth c H locs 0 0 Q (F0 m 90 ls [])) → W p l e ({ frames := 5, cells := 0, slots := 0, locals := 111 } : Room) s m args below meth c H locs 0 0 Q (F0 m 66 ls []) := by
  obtain ⟨hx, hb, -⟩ := id C
  intro f
  induction f with
  | zero =>
    intro v_fault v_brokenAt v_spot v_here v_token v_value v_greatest v_draft y1 ex H locs ls hf hP hD hS hl hk
    cases hf
  | succ f ih =>
    intro v_fault v_brokenAt v_spot v_here v_token v_value v_greatest v_draft y1 ex H locs ls hf hP hD hS hl hk
    rw [fX6_text_66] at hf
    refine lv_aload_n hx hb dX6_text_66 rfl (lv_at hl 0 rfl) ?_
    refine kget C inX6 hP 0 rfl rfl 6 (by decide) mw_693 rfl dX6_text_67 ?_
    refine lv_if_ne (tgt := 90) hx hb dX6_text_70 (by decide) (fun hc => ?_) (fun hc => ?_)
    · rw [if_neg hc] at hf
      obtain rfl := Option.some.inj hf
      exact hk _ _ _ hP hD hS (lv_sub hl [0, 1] rfl)
    · rw [if_pos hc] at hf
      refine lv_aload_n hx hb dX6_text_73 rfl (lv_at hl 0 rfl) ?_
      refine kget C inX6 hP 0 rfl rfl 10 (by decide) mw_697 rfl dX6_text_74 ?_
      refine lv_if_eq (tgt := 90) hx hb dX6_text_77 (by decide) (fun hc => ?_) (fun hc => ?_)
      · rw [if_pos hc] at hf
        obtain rfl := Option.some.inj hf
        exact hk _ _ _ hP hD hS (lv_sub hl [0, 1] rfl)
      · rw [if_neg hc] at hf
        refine lv_aload_n hx hb dX6_text_80 rfl (lv_at hl 0 rfl) ?_
        obtain ⟨q81, hq81, hf⟩ := bd_some hf
        refine kcVv C (kX6_readsLine (l := l) (D := D) (k := k) h0 h2 h4 h5 h6 (.ref h1) z0 (.ref h3) z1 z2 z3 z4 z5 v_taped v_fault v_brokenAt v_spot v_here v_token v_value v_greatest v_draft v_tape v_ends v_words q81 hq81) mt_X6_readsLine mw_782 ⟨rfl, rfl, Nat.le_of_ble_eq_true rfl, Nat.le_of_ble_eq_true rfl⟩ hP hD hS 0 rfl rfl rfl [0, 2, 4, 5, 6] rfl rfl [some 0, none, some 1, none, some 2, some 3, some 4] rfl rfl (w2 := (wX6_text k h0 h1 h2 h3 h4 h5 h6 z0 z1 z2 z3 z4 z5 v_taped q81.1 q81.2.1 q81.2.2.1 q81.2.2.2.1 q81.2.2.2.2.1 q81.2.2.2.2.2.1 q81.2.2.2.2.2.2.1 v_page q81.2.2.2.2.2.2.2 v_isKept v_tape v_ends v_words)) rfl rfl rfl hl.1 (rest := []) (Nat.le_of_ble_eq_true rfl) rfl dX6_text_81 ⟨Nat.zero_le _, Nat.zero_le _⟩ (fun H locs hP hD hS => ?_)
        refine lv_iinc (v := (y1 + (1 : Int32))) (lv' := [(1, .int (y1 + (1 : Int32))), (0, .ref h0)]) hx hb dX6_text_84 hl (k := 1) rfl rfl (by decide) rfl (fun ls hl => ?_)
        refine lv_goto (tgt := 66) hx hb dX6_text_87 (by decide) ?_
        exact ih q81.1 q81.2.1 q81.2.2.1 q81.2.2.2.1 q81.2.2.2.2.1 q81.2.2.2.2.2.1 q81.2.2.2.2.2.2.1 q81.2.2.2.2.2.2.2 (y1 + (1 : Int32)) _ _ _ _ hf hP hD hS (lv_sub hl [1, 0] rfl) hk
set_option maxHeartbeats 4000000 in
set_option maxRecDepth 100000 in
theorem wX6_text_143 {p : Program} {l : Launch} {e : Env} {s : State} {m : MethodId} {args : Array Value} {below : List Frame} {meth : Method} {c : Code} {A : Nat → Prop} {Q : State → Prop} {D : va_G} {k : Nat → ClassId} (C : Cx p s m args c cX6_text 3 RX6 A D k) (h0 h1 h2 h3 h4 h5 h6 : Nat) (z0 z1 z2 z3 z4 z5 : Value) (v_taped : Int32) (v_fault : Int32) (v_brokenAt : Int32) (v_spot : Int32) (v_here : Int32) (v_token : Int32) (v_value : Int32) (v_greatest : Int32) (v_draft : Nat → Int32) (v_isKept : Nat → Int32) (v_tape : Nat → Int32) (v_ends : Nat → Int32) (v_words : Nat → Int32) (y1 : Int32) : ∀ (f : Nat) (v_page : Nat → Int32) (y2 : Int32) (ex : ((Nat → Int32))) (H : Heap) (locs : List Loc) (ls : Array Slot), fX6_text_143 v_draft y1 f v_page y2 = some ex → va_P D vwCl (wX6_text k h0 h1 h2 h3 h4 h5 h6 z0 z1 z2 z3 z4 z5 v_taped v_fault v_brokenAt v_spot v_here v_token v_value v_greatest v_page v_draft v_isKept v_tape v_ends v_words) H → va_D A (wX6_text k h0 h1 h2 h3 h4 h5 h6 z0 z1 z2 z3 z4 z5 v_taped v_fault v_brokenAt v_spot v_here v_token v_value v_greatest v_page v_draft v_isKept v_tape v_ends v_words) → va_S A s.heap H locs → lv_has ls 3 [(0, .ref h0), (1, .int y1), (2, .int y2)] → (∀ (H : Heap) (locs : List Loc) (ls : Array Slot), va_P D vwCl (wX6_text k h0 h1 h2 h3 h4 h5 h6 z0 z1 z2 z3 z4 z5 v_taped v_fault v_brokenAt v_spot v_here v_token v_value v_greatest ex v_draft v_isKept v_tape v_ends v_words) H → va_D A (wX6_text k h0 h1 h2 h3 h4 h5 h6 z0 z1 z2 z3 z4 z5 v_taped v_fault v_brokenAt v_spot v_here v_token v_value v_greatest ex v_draft v_isKept v_tape v_ends v_words) → va_S A s.heap H locs → lv_has ls 3 [(0, .ref h0), (1, .int y1)] → W p l e ({ frames := 5, cells := 0, slots := 0, locals := 111 } : Room) s m args below meth c H locs 0 0 Q (F0 m 168 ls [])) → W p l e ({ frames := 5, cells := 0, slots := 0, locals := 111 } : Room) s m args below meth c H locs 0 0 Q (F0 m 143 ls []) := by
  obtain ⟨hx, hb, -⟩ := id C
  intro f
  induction f with
  | zero =>
    intro v_page y2 ex H locs ls hf hP hD hS hl hk
    cases hf
  | succ f ih =>
    intro v_page y2 ex H locs ls hf hP hD hS hl hk
    rw [fX6_text_143] at hf
    refine lv_iload_n hx hb dX6_text_143 rfl (lv_at hl 2 rfl) ?_
    refine lv_sipush (v := (831 : Int32)) hx hb dX6_text_144 (by decide) ?_
    refine lv_icmp_ge (tgt := 168) hx hb dX6_text_147 (by decide) (fun hc => ?_) (fun hc => ?_)
    · rw [if_pos hc] at hf
      obtain rfl := Option.some.inj hf
      exact hk _ _ _ hP hD hS (lv_sub hl [0, 1] rfl)
    · rw [if_neg hc] at hf
      refine lv_aload_n hx hb dX6_text_150 rfl (lv_at hl 0 rfl) ?_
      refine kget C inX6 hP 0 rfl rfl 0 (by decide) mw_687 rfl dX6_text_151 ?_
      refine lv_iload_n hx hb dX6_text_154 rfl (lv_at hl 2 rfl) ?_
      refine lv_aload_n hx hb dX6_text_155 rfl (lv_at hl 0 rfl) ?_
      refine kget C inX6 hP 0 rfl rfl 1 (by decide) mw_688 rfl dX6_text_156 ?_
      refine lv_iload_n hx hb dX6_text_159 rfl (lv_at hl 2 rfl) ?_
      obtain ⟨hin, hf⟩ := gd_some hf
      refine kiald C hP 2 rfl hin dX6_text_160 (j := y2.toNatClampNeg) rfl ?_
      obtain ⟨hin, hf⟩ := gd_some hf
      obtain ⟨v_page_161, hn161, hf⟩ := nm_some hf
      refine kiast C hP hD hS 1 rfl hin dX6_text_161 (j := y2.toNatClampNeg) rfl (g := v_page_161) hn161 (w2 := (wX6_text k h0 h1 h2 h3 h4 h5 h6 z0 z1 z2 z3 z4 z5 v_taped v_fault v_brokenAt v_spot v_here v_token v_value v_greatest v_page_161 v_draft v_isKept v_tape v_ends v_words)) rfl (fun H locs hP hD hS => ?_)
      refine lv_iinc (v := (y2 + (1 : Int32))) (lv' := [(2, .int (y2 + (1 : Int32))), (0, .ref h0), (1, .int y1)]) hx hb dX6_text_162 hl (k := 2) rfl rfl (by decide) rfl (fun ls hl => ?_)
      refine lv_goto (tgt := 143) hx hb dX6_text_165 (by decide) ?_
      exact ih v_page_161 (y2 + (1 : Int32)) _ _ _ _ hf hP hD hS (lv_sub hl [1, 2, 0] rfl) hk
set_option maxHeartbeats 4000000 in
set_option maxRecDepth 100000 in
theorem kX6_text {l : Launch} {D : va_G} {k : Nat → ClassId} (h0 h1 h2 h3 h4 h5 h6 : Nat) (z0 z1 z2 z3 z4 z5 : Value) (v_taped : Int32) (v_fault : Int32) (v_brokenAt : Int32) (v_spot : Int32) (v_here : Int32) (v_token : Int32) (v_value : Int32) (v_greatest : Int32) (v_page : Nat → Int32) (v_draft : Nat → Int32) (v_isKept : Nat → Int32) (v_tape : Nat → Int32) (v_ends : Nat → Int32) (v_words : Nat → Int32) (q : Int32 × Int32 × Int32 × Int32 × Int32 × Int32 × Int32 × Int32 × Int32 × (Nat → Int32) × (Nat → Int32) × (Nat → Int32)) (hf : fX6_text v_taped v_fault v_brokenAt v_spot v_here v_token v_value v_greatest v_page v_draft v_isKept v_tape v_ends v_words = some q) : KMi l yX6_text cX6_text 3 (some .int) ({ frames := 5, cells := 0, slots := 0, locals := 111 } : Room) D k [.ref h0] (wX6_text k h0 h1 h2 h3 h4 h5 h6 z0 z1 z2 z3 z4 z5 v_taped v_fault v_brokenAt v_spot v_here v_token v_value v_greatest v_page v_draft v_isKept v_tape v_ends v_words) q.1 (wX6_text k h0 h1 h2 h3 h4 h5 h6 z0 z1 z2 z3 z4 z5 q.2.1 q.2.2.1 q.2.2.2.1 q.2.2.2.2.1 q.2.2.2.2.2.1 q.2.2.2.2.2.2.1 q.2.2.2.2.2.2.2.1 q.2.2.2.2.2.2.2.2.1 q.2.2.2.2.2.2.2.2.2.1 q.2.2.2.2.2.2.2.2.2.2.1 q.2.2.2.2.2.2.2.2.2.2.2 v_tape v_ends v_words) := by
  refine kent_i (by decide) (Nat.le_of_ble_eq_true rfl) ?_
  intro p e s m below meth c A Q ls C hP hD hS hl hret
  obtain ⟨hx, hb, -⟩ := id C
  have hl : lv_has ls 3 [(0, .ref h0)] := hl
  unfold fX6_text at hf
  generalize ([.ref h0] : List Value).toArray = args at *
  refine lv_aload_n hx hb dX6_text_0 rfl (lv_at hl 0 rfl) ?_
  refine lv_iconst (v := (0 : Int32)) hx hb dX6_text_1 (by decide) ?_
  refine kput C inX6 tyX6_ok nmX6 hP hD hS 0 rfl rfl 6 (by decide) mw_693 rfl rfl rfl (Nat.le_of_ble_eq_true rfl) dX6_text_2 (w2 := (wX6_text k h0 h1 h2 h3 h4 h5 h6 z0 z1 z2 z3 z4 z5 v_taped (0 : Int32) v_brokenAt v_spot v_here v_token v_value v_greatest v_page v_draft v_isKept v_tape v_ends v_words)) rfl (fun H locs hP hD hS => ?_)
  refine lv_aload_n hx hb dX6_text_5 rfl (lv_at hl 0 rfl) ?_
  refine lv_iconst (v := (0 : Int32)) hx hb dX6_text_6 (by decide) ?_
  refine kput C inX6 tyX6_ok nmX6 hP hD hS 0 rfl rfl 8 (by decide) mw_695 rfl rfl rfl (Nat.le_of_ble_eq_true rfl) dX6_text_7 (w2 := (wX6_text k h0 h1 h2 h3 h4 h5 h6 z0 z1 z2 z3 z4 z5 v_taped (0 : Int32) v_brokenAt (0 : Int32) v_here v_token v_value v_greatest v_page v_draft v_isKept v_tape v_ends v_words)) rfl (fun H locs hP hD hS => ?_)
  refine lv_aload_n hx hb dX6_text_10 rfl (lv_at hl 0 rfl) ?_
  refine lv_iconst (v := (0 : Int32)) hx hb dX6_text_11 (by decide) ?_
  refine kput C inX6 tyX6_ok nmX6 hP hD hS 0 rfl rfl 14 (by decide) mw_701 rfl rfl rfl (Nat.le_of_ble_eq_true rfl) dX6_text_12 (w2 := (wX6_text k h0 h1 h2 h3 h4 h5 h6 z0 z1 z2 z3 z4 z5 v_taped (0 : Int32) v_brokenAt (0 : Int32) v_here v_token v_value (0 : Int32) v_page v_draft v_isKept v_tape v_ends v_words)) rfl (fun H locs hP hD hS => ?_)
  refine lv_iconst (v := (0 : Int32)) hx hb dX6_text_15 (by decide) ?_
  refine lv_istore_n (lv' := [(1, .int (0 : Int32)), (0, .ref h0)]) hx hb dX6_text_16 rfl hl (by decide) rfl (fun ls hl => ?_)
  obtain ⟨ex17, hv, hf⟩ := bd_some hf
  refine wX6_text_17 C h0 h1 h2 h3 h4 h5 h6 z0 z1 z2 z3 z4 z5 v_taped (0 : Int32) v_brokenAt (0 : Int32) v_here v_token v_value (0 : Int32) v_page v_isKept v_tape v_ends v_words FU v_draft (0 : Int32) ex17 _ _ _ hv hP hD hS (lv_sub hl [1, 0] rfl) (fun H locs ls hP hD hS hl => ?_)
  refine lv_iconst (v := (0 : Int32)) hx hb dX6_text_60 (by decide) ?_
  refine lv_istore_n (lv' := [(1, .int (0 : Int32)), (0, .ref h0)]) hx hb dX6_text_61 rfl hl (by decide) rfl (fun ls hl => ?_)
  refine lv_aload_n hx hb dX6_text_62 rfl (lv_at hl 1 rfl) ?_
  obtain ⟨q63, hq63, hf⟩ := bd_some hf
  refine kcVv C (kX6_reads (l := l) (D := D) (k := k) h0 h4 (.ref h1) (.ref h2) z0 (.ref h3) (.ref h5) (.ref h6) (.int (0 : Int32)) z1 z2 z3 z4 z5 v_taped (0 : Int32) v_brokenAt (0 : Int32) v_here v_token v_value v_tape q63 hq63) mt_X6_reads mw_766 ⟨rfl, rfl, Nat.le_of_ble_eq_true rfl, Nat.le_of_ble_eq_true rfl⟩ hP hD hS 0 rfl rfl rfl [0, 4] rfl rfl [some 0, none, none, none, some 1, none, none] rfl rfl (w2 := (wX6_text k h0 h1 h2 h3 h4 h5 h6 z0 z1 z2 z3 z4 z5 v_taped q63.1 q63.2.1 q63.2.2.1 q63.2.2.2.1 q63.2.2.2.2.1 q63.2.2.2.2.2 (0 : Int32) v_page ex17 v_isKept v_tape v_ends v_words)) rfl rfl rfl hl.1 (rest := []) (Nat.le_of_ble_eq_true rfl) rfl dX6_text_63 ⟨Nat.zero_le _, Nat.zero_le _⟩ (fun H locs hP hD hS => ?_)
  obtain ⟨ex66, hv, hf⟩ := bd_some hf
  refine wX6_text_66 C h0 h1 h2 h3 h4 h5 h6 z0 z1 z2 z3 z4 z5 v_taped v_page v_isKept v_tape v_ends v_words FU q63.1 q63.2.1 q63.2.2.1 q63.2.2.2.1 q63.2.2.2.2.1 q63.2.2.2.2.2 (0 : Int32) ex17 (0 : Int32) ex66 _ _ _ hv hP hD hS (lv_sub hl [1, 0] rfl) (fun H locs ls hP hD hS hl => ?_)
  refine lv_aload_n hx hb dX6_text_90 rfl (lv_at hl 0 rfl) ?_
  refine lv_aload_n hx hb dX6_text_91 rfl (lv_at hl 0 rfl) ?_
  refine kget C inX6 hP 0 rfl rfl 6 (by decide) mw_693 rfl dX6_text_92 ?_
  obtain ⟨v116, hv116, hf⟩ := bd_some hf
  have hj116 : ∀ (H : Heap) (locs : List Loc) (ls : Array Slot), va_P D vwCl (wX6_text k h0 h1 h2 h3 h4 h5 h6 z0 z1 z2 z3 z4 z5 v_taped ex66.1 ex66.2.1 ex66.2.2.1 ex66.2.2.2.1 ex66.2.2.2.2.1 ex66.2.2.2.2.2.1 ex66.2.2.2.2.2.2.1 v_page ex66.2.2.2.2.2.2.2.1 v_isKept v_tape v_ends v_words) H → va_D A (wX6_text k h0 h1 h2 h3 h4 h5 h6 z0 z1 z2 z3 z4 z5 v_taped ex66.1 ex66.2.1 ex66.2.2.1 ex66.2.2.2.1 ex66.2.2.2.2.1 ex66.2.2.2.2.2.1 ex66.2.2.2.2.2.2.1 v_page ex66.2.2.2.2.2.2.2.1 v_isKept v_tape v_ends v_words) → va_S A s.heap H locs → lv_has ls 3 [(0, .ref h0), (1, .int ex66.2.2.2.2.2.2.2.2)] → W p l e ({ frames := 5, cells := 0, slots := 0, locals := 111 } : Room) s m args below meth c H locs 0 0 Q (F0 m 116 ls [.int v116, .ref h0]) := by
    intro H locs ls hP hD hS hl
    refine lv_bipush (v := (6 : Int32)) hx hb dX6_text_116 (by decide) ?_
    obtain ⟨q118, hq118, hf⟩ := bd_some hf
    refine kcVv C (kX6_must (l := l) (D := D) (k := k) h0 (.ref h1) (.ref h2) z0 (.ref h3) (.ref h4) (.int v_taped) (.int ex66.2.2.1) (.int ex66.2.2.2.2.1) (.int ex66.2.2.2.2.2.1) (.ref h5) (.ref h6) (.int ex66.2.2.2.2.2.2.1) z1 z2 z3 z4 z5 ex66.1 ex66.2.1 ex66.2.2.2.1 v116 (6 : Int32) q118 hq118) mt_X6_must mw_778 ⟨rfl, rfl, Nat.le_of_ble_eq_true rfl, Nat.le_of_ble_eq_true rfl⟩ hP hD hS 0 rfl rfl rfl [0] rfl rfl [some 0, none, none, none, none, none, none] rfl rfl (w2 := (wX6_text k h0 h1 h2 h3 h4 h5 h6 z0 z1 z2 z3 z4 z5 v_taped q118.1 q118.2 ex66.2.2.1 ex66.2.2.2.1 ex66.2.2.2.2.1 ex66.2.2.2.2.2.1 ex66.2.2.2.2.2.2.1 v_page ex66.2.2.2.2.2.2.2.1 v_isKept v_tape v_ends v_words)) rfl rfl rfl hl.1 (rest := []) (Nat.le_of_ble_eq_true rfl) rfl dX6_text_118 ⟨Nat.zero_le _, Nat.zero_le _⟩ (fun H locs hP hD hS => ?_)
    refine lv_aload_n hx hb dX6_text_121 rfl (lv_at hl 0 rfl) ?_
    refine lv_iconst (v := (0 : Int32)) hx hb dX6_text_122 (by decide) ?_
    refine kput C inX6 tyX6_ok nmX6 hP hD hS 0 rfl rfl 5 (by decide) mw_692 rfl rfl rfl (Nat.le_of_ble_eq_true rfl) dX6_text_123 (w2 := (wX6_text k h0 h1 h2 h3 h4 h5 h6 z0 z1 z2 z3 z4 z5 (0 : Int32) q118.1 q118.2 ex66.2.2.1 ex66.2.2.2.1 ex66.2.2.2.2.1 ex66.2.2.2.2.2.1 ex66.2.2.2.2.2.2.1 v_page ex66.2.2.2.2.2.2.2.1 v_isKept v_tape v_ends v_words)) rfl (fun H locs hP hD hS => ?_)
    refine lv_aload_n hx hb dX6_text_126 rfl (lv_at hl 0 rfl) ?_
    refine kget C inX6 hP 0 rfl rfl 6 (by decide) mw_693 rfl dX6_text_127 ?_
    refine lv_if_le (tgt := 141) hx hb dX6_text_130 (by decide) (fun hc => ?_) (fun hc => ?_)
    · rw [if_pos hc] at hf
      refine lv_iconst (v := (0 : Int32)) hx hb dX6_text_141 (by decide) ?_
      refine lv_istore_n (lv' := [(2, .int (0 : Int32)), (0, .ref h0), (1, .int ex66.2.2.2.2.2.2.2.2)]) hx hb dX6_text_142 rfl hl (by decide) rfl (fun ls hl => ?_)
      obtain ⟨ex143, hv, hf⟩ := bd_some hf
      refine wX6_text_143 C h0 h1 h2 h3 h4 h5 h6 z0 z1 z2 z3 z4 z5 (0 : Int32) q118.1 q118.2 ex66.2.2.1 ex66.2.2.2.1 ex66.2.2.2.2.1 ex66.2.2.2.2.2.1 ex66.2.2.2.2.2.2.1 ex66.2.2.2.2.2.2.2.1 v_isKept v_tape v_ends v_words ex66.2.2.2.2.2.2.2.2 FU v_page (0 : Int32) ex143 _ _ _ hv hP hD hS (lv_sub hl [1, 2, 0] rfl) (fun H locs ls hP hD hS hl => ?_)
      refine lv_aload_n hx hb dX6_text_168 rfl (lv_at hl 0 rfl) ?_
      refine kget C inX6 hP 0 rfl rfl 3 (by decide) mw_690 rfl dX6_text_169 ?_
      refine lv_iconst (v := (0 : Int32)) hx hb dX6_text_172 (by decide) ?_
      refine lv_iconst (v := (0 : Int32)) hx hb dX6_text_173 (by decide) ?_
      obtain ⟨v_isKept_174, hn174, hf⟩ := nm_some hf
      refine kzast C hP hD hS 3 rfl (by unfold vp_in; decide) dX6_text_174 (j := 0) (by decide) (g := v_isKept_174) hn174 (w2 := (wX6_text k h0 h1 h2 h3 h4 h5 h6 z0 z1 z2 z3 z4 z5 (0 : Int32) q118.1 q118.2 ex66.2.2.1 ex66.2.2.2.1 ex66.2.2.2.2.1 ex66.2.2.2.2.2.1 ex66.2.2.2.2.2.2.1 ex143 ex66.2.2.2.2.2.2.2.1 v_isKept_174 v_tape v_ends v_words)) rfl (fun H locs hP hD hS => ?_)
      refine lv_aload_n hx hb dX6_text_175 rfl (lv_at hl 0 rfl) ?_
      refine kget C inX6 hP 0 rfl rfl 3 (by decide) mw_690 rfl dX6_text_176 ?_
      refine lv_iconst (v := (1 : Int32)) hx hb dX6_text_179 (by decide) ?_
      refine lv_iconst (v := (0 : Int32)) hx hb dX6_text_180 (by decide) ?_
      obtain ⟨v_isKept_181, hn181, hf⟩ := nm_some hf
      refine kzast C hP hD hS 3 rfl (by unfold vp_in; decide) dX6_text_181 (j := 1) (by decide) (g := v_isKept_181) hn181 (w2 := (wX6_text k h0 h1 h2 h3 h4 h5 h6 z0 z1 z2 z3 z4 z5 (0 : Int32) q118.1 q118.2 ex66.2.2.1 ex66.2.2.2.1 ex66.2.2.2.2.1 ex66.2.2.2.2.2.1 ex66.2.2.2.2.2.2.1 ex143 ex66.2.2.2.2.2.2.2.1 v_isKept_181 v_tape v_ends v_words)) rfl (fun H locs hP hD hS => ?_)
      refine lv_iload_n hx hb dX6_text_182 rfl (lv_at hl 1 rfl) ?_
      obtain rfl := Option.some.inj hf
      exact hret _ _ _ _ dX6_text_183 hP hS
    · rw [if_neg hc] at hf
      refine lv_bipush (v := (-10 : Int32)) hx hb dX6_text_133 (by decide) ?_
      refine lv_aload_n hx hb dX6_text_135 rfl (lv_at hl 0 rfl) ?_
      refine kget C inX6 hP 0 rfl rfl 7 (by decide) mw_694 rfl dX6_text_136 ?_
      refine lv_isub hx hb dX6_text_139 ?_
      obtain rfl := Option.some.inj hf
      exact hret _ _ _ _ dX6_text_140 hP hS
  clear hf
  have hf := hv116
  refine lv_if_gt (tgt := 111) hx hb dX6_text_95 (by decide) (fun hc => ?_) (fun hc => ?_)
  · rw [if_pos hc] at hf
    refine lv_iconst (v := (1 : Int32)) hx hb dX6_text_111 (by decide) ?_
    refine lv_goto (tgt := 116) hx hb dX6_text_112 (by decide) ?_
    obtain rfl := Option.some.inj hf
    exact hj116 _ _ _ hP hD hS (lv_sub hl [0, 1] rfl)
  · rw [if_neg hc] at hf
    refine lv_aload_n hx hb dX6_text_98 rfl (lv_at hl 0 rfl) ?_
    refine kget C inX6 hP 0 rfl rfl 14 (by decide) mw_701 rfl dX6_text_99 ?_
    refine lv_aload_n hx hb dX6_text_102 rfl (lv_at hl 0 rfl) ?_
    refine kget C inX6 hP 0 rfl rfl 1 (by decide) mw_688 rfl dX6_text_103 ?_
    refine lv_iconst (v := (0 : Int32)) hx hb dX6_text_106 (by decide) ?_
    refine kiald C hP 2 rfl (by unfold vp_in; decide) dX6_text_107 (j := 0) (by decide) ?_
    refine lv_icmp_gt (tgt := 115) hx hb dX6_text_108 (by decide) (fun hc => ?_) (fun hc => ?_)
    · rw [if_pos hc] at hf
      refine lv_iconst (v := (0 : Int32)) hx hb dX6_text_115 (by decide) ?_
      obtain rfl := Option.some.inj hf
      exact hj116 _ _ _ hP hD hS (lv_sub hl [0, 1] rfl)
    · rw [if_neg hc] at hf
      refine lv_iconst (v := (1 : Int32)) hx hb dX6_text_111 (by decide) ?_
      refine lv_goto (tgt := 116) hx hb dX6_text_112 (by decide) ?_
      obtain rfl := Option.some.inj hf
      exact hj116 _ _ _ hP hD hS (lv_sub hl [0, 1] rfl)
set_option maxHeartbeats 4000000 in
set_option maxRecDepth 100000 in
theorem kX6_fault {l : Launch} {D : va_G} {k : Nat → ClassId} (h0 : Nat) (z0 z1 z2 z3 z4 z5 z6 z7 z8 z9 z10 z11 z12 z13 z14 z15 z16 z17 z18 : Value) (v_fault : Int32) (q : Int32) (hf : fX6_fault v_fault = some q) : KMi l yX6_fault cX6_fault 1 (some .int) ({ frames := 0, cells := 0, slots := 0, locals := 0 } : Room) D k [.ref h0] (wX6_fault k h0 z0 z1 z2 z3 z4 z5 z6 z7 z8 z9 z10 z11 z12 z13 z14 z15 z16 z17 z18 v_fault) q (wX6_fault k h0 z0 z1 z2 z3 z4 z5 z6 z7 z8 z9 z10 z11 z12 z13 z14 z15 z16 z17 z18 v_fault) := by
  refine kent_i (by decide) (Nat.le_of_ble_eq_true rfl) ?_
  intro p e s m below meth c A Q ls C hP hD hS hl hret
  obtain ⟨hx, hb, -⟩ := id C
  have hl : lv_has ls 1 [(0, .ref h0)] := hl
  unfold fX6_fault at hf
  generalize ([.ref h0] : List Value).toArray = args at *
  refine lv_aload_n hx hb dX6_fault_0 rfl (lv_at hl 0 rfl) ?_
  refine kget C inX6 hP 0 rfl rfl 6 (by decide) mw_693 rfl dX6_fault_1 ?_
  obtain rfl := Option.some.inj hf
  exact hret _ _ _ _ dX6_fault_4 hP hS
set_option maxHeartbeats 4000000 in
set_option maxRecDepth 100000 in
theorem kX6_ofLetter {l : Launch} {D : va_G} {k : Nat → ClassId} (h0 h1 : Nat) (z0 z1 z2 z3 z4 z5 z6 z7 z8 z9 z10 z11 z12 z13 z14 z15 z16 z17 z18 : Value) (v_page : Nat → Int32) (x1 : Int32) (x2 : Int32) (q : Int32) (hf : fX6_ofLetter v_page x1 x2 = some q) : KMi l yX6_ofLetter cX6_ofLetter 3 (some .int) ({ frames := 0, cells := 0, slots := 0, locals := 0 } : Room) D k [.ref h0, .int x1, .int x2] (wX6_ofLetter k h0 h1 z0 z1 z2 z3 z4 z5 z6 z7 z8 z9 z10 z11 z12 z13 z14 z15 z16 z17 z18 v_page) q (wX6_ofLetter k h0 h1 z0 z1 z2 z3 z4 z5 z6 z7 z8 z9 z10 z11 z12 z13 z14 z15 z16 z17 z18 v_page) := by
  refine kent_i (by decide) (Nat.le_of_ble_eq_true rfl) ?_
  intro p e s m below meth c A Q ls C hP hD hS hl hret
  obtain ⟨hx, hb, -⟩ := id C
  have hl : lv_has ls 3 [(0, .ref h0), (1, .int x1), (2, .int x2)] := hl
  unfold fX6_ofLetter at hf
  generalize ([.ref h0, .int x1, .int x2] : List Value).toArray = args at *
  refine lv_aload_n hx hb dX6_ofLetter_0 rfl (lv_at hl 0 rfl) ?_
  refine kget C inX6 hP 0 rfl rfl 0 (by decide) mw_687 rfl dX6_ofLetter_1 ?_
  refine lv_bipush (v := (127 : Int32)) hx hb dX6_ofLetter_4 (by decide) ?_
  refine lv_bipush (v := (8 : Int32)) hx hb dX6_ofLetter_6 (by decide) ?_
  refine lv_iload_n hx hb dX6_ofLetter_8 rfl (lv_at hl 1 rfl) ?_
  refine lv_imul hx hb dX6_ofLetter_9 ?_
  refine lv_iadd hx hb dX6_ofLetter_10 ?_
  refine lv_iload_n hx hb dX6_ofLetter_11 rfl (lv_at hl 2 rfl) ?_
  refine lv_iadd hx hb dX6_ofLetter_12 ?_
  obtain ⟨hin, hf⟩ := gd_some hf
  refine kiald C hP 1 rfl hin dX6_ofLetter_13 (j := (((127 : Int32) + ((8 : Int32) * x1)) + x2).toNatClampNeg) rfl ?_
  obtain rfl := Option.some.inj hf
  exact hret _ _ _ _ dX6_ofLetter_14 hP hS
set_option maxHeartbeats 4000000 in
set_option maxRecDepth 100000 in
theorem kX6_copyAt {l : Launch} {D : va_G} {k : Nat → ClassId} (h_this : Nat) (x1 : Int32) (x2 : Int32) (q : Int32) (hf : fX6_copyAt x1 x2 = some q) : KMi l yX6_copyAt cX6_copyAt 3 (some .int) ({ frames := 0, cells := 0, slots := 0, locals := 0 } : Room) D k [.ref h_this, .int x1, .int x2] (wX6_copyAt k) q (wX6_copyAt k) := by
  refine kent_i (by decide) (Nat.le_of_ble_eq_true rfl) ?_
  intro p e s m below meth c A Q ls C hP hD hS hl hret
  obtain ⟨hx, hb, -⟩ := id C
  have hl : lv_has ls 3 [(0, .ref h_this), (1, .int x1), (2, .int x2)] := hl
  unfold fX6_copyAt at hf
  generalize ([.ref h_this, .int x1, .int x2] : List Value).toArray = args at *
  refine lv_sipush (v := (255 : Int32)) hx hb dX6_copyAt_0 (by decide) ?_
  refine lv_iconst (v := (3 : Int32)) hx hb dX6_copyAt_3 (by decide) ?_
  refine lv_bipush (v := (16 : Int32)) hx hb dX6_copyAt_4 (by decide) ?_
  refine lv_iload_n hx hb dX6_copyAt_6 rfl (lv_at hl 1 rfl) ?_
  refine lv_imul hx hb dX6_copyAt_7 ?_
  refine lv_iload_n hx hb dX6_copyAt_8 rfl (lv_at hl 2 rfl) ?_
  refine lv_iadd hx hb dX6_copyAt_9 ?_
  refine lv_imul hx hb dX6_copyAt_10 ?_
  refine lv_iadd hx hb dX6_copyAt_11 ?_
  obtain rfl := Option.some.inj hf
  exact hret _ _ _ _ dX6_copyAt_12 hP hS
set_option maxHeartbeats 4000000 in
set_option maxRecDepth 100000 in
theorem kX6_hasCopy {l : Launch} {D : va_G} {k : Nat → ClassId} (h0 h1 : Nat) (z0 z1 z2 z3 z4 z5 z6 z7 z8 z9 z10 z11 z12 z13 z14 z15 z16 z17 z18 : Value) (v_page : Nat → Int32) (x1 : Int32) (x2 : Int32) (q : Int32) (hf : fX6_hasCopy v_page x1 x2 = some q) : KMi l yX6_hasCopy cX6_hasCopy 3 (some .boolean) ({ frames := 1, cells := 0, slots := 0, locals := 22 } : Room) D k [.ref h0, .int x1, .int x2] (wX6_hasCopy k h0 h1 z0 z1 z2 z3 z4 z5 z6 z7 z8 z9 z10 z11 z12 z13 z14 z15 z16 z17 z18 v_page) q (wX6_hasCopy k h0 h1 z0 z1 z2 z3 z4 z5 z6 z7 z8 z9 z10 z11 z12 z13 z14 z15 z16 z17 z18 v_page) := by
  refine kent_z (by decide) (Nat.le_of_ble_eq_true rfl) ?_
  intro p e s m below meth c A Q ls C hP hD hS hl hret
  obtain ⟨hx, hb, -⟩ := id C
  have hl : lv_has ls 3 [(0, .ref h0), (1, .int x1), (2, .int x2)] := hl
  unfold fX6_hasCopy at hf
  generalize ([.ref h0, .int x1, .int x2] : List Value).toArray = args at *
  refine lv_aload_n hx hb dX6_hasCopy_0 rfl (lv_at hl 0 rfl) ?_
  refine kget C inX6 hP 0 rfl rfl 0 (by decide) mw_687 rfl dX6_hasCopy_1 ?_
  refine lv_aload_n hx hb dX6_hasCopy_4 rfl (lv_at hl 0 rfl) ?_
  refine lv_iload_n hx hb dX6_hasCopy_5 rfl (lv_at hl 1 rfl) ?_
  refine lv_iload_n hx hb dX6_hasCopy_6 rfl (lv_at hl 2 rfl) ?_
  obtain ⟨q7, hq7, hf⟩ := bd_some hf
  refine kcVi C (kX6_copyAt (l := l) (D := D) (k := k) h0 x1 x2 q7 hq7) mt_X6_copyAt mw_823 ⟨rfl, rfl, Nat.le_of_ble_eq_true rfl, Nat.le_of_ble_eq_true rfl⟩ hP hD hS 0 rfl rfl rfl [] rfl rfl [none, none] rfl rfl (w2 := (wX6_hasCopy k h0 h1 z0 z1 z2 z3 z4 z5 z6 z7 z8 z9 z10 z11 z12 z13 z14 z15 z16 z17 z18 v_page)) rfl rfl rfl hl.1 (rest := [.ref h1]) (Nat.le_of_ble_eq_true rfl) rfl dX6_hasCopy_7 ⟨Nat.zero_le _, Nat.zero_le _⟩ (fun H locs hP hD hS => ?_)
  obtain ⟨hin, hf⟩ := gd_some hf
  refine kiald C hP 1 rfl hin dX6_hasCopy_10 (j := q7.toNatClampNeg) rfl ?_
  refine lv_if_le (tgt := 18) hx hb dX6_hasCopy_11 (by decide) (fun hc => ?_) (fun hc => ?_)
  · rw [if_pos hc] at hf
    refine lv_iconst (v := (0 : Int32)) hx hb dX6_hasCopy_18 (by decide) ?_
    obtain rfl := Option.some.inj hf
    exact hret _ _ _ _ dX6_hasCopy_19 (by decide) hP hS
  · rw [if_neg hc] at hf
    refine lv_iconst (v := (1 : Int32)) hx hb dX6_hasCopy_14 (by decide) ?_
    refine lv_goto (tgt := 19) hx hb dX6_hasCopy_15 (by decide) ?_
    obtain rfl := Option.some.inj hf
    exact hret _ _ _ _ dX6_hasCopy_19 (by decide) hP hS
set_option maxHeartbeats 4000000 in
set_option maxRecDepth 100000 in
theorem kX6_tokensOf {l : Launch} {D : va_G} {k : Nat → ClassId} (h0 h1 : Nat) (z0 z1 z2 z3 z4 z5 z6 z7 z8 z9 z10 z11 z12 z13 z14 z15 z16 z17 z18 : Value) (v_page : Nat → Int32) (x1 : Int32) (x2 : Int32) (q : Int32) (hf : fX6_tokensOf v_page x1 x2 = some q) : KMi l yX6_tokensOf cX6_tokensOf 3 (some .int) ({ frames := 1, cells := 0, slots := 0, locals := 22 } : Room) D k [.ref h0, .int x1, .int x2] (wX6_tokensOf k h0 h1 z0 z1 z2 z3 z4 z5 z6 z7 z8 z9 z10 z11 z12 z13 z14 z15 z16 z17 z18 v_page) q (wX6_tokensOf k h0 h1 z0 z1 z2 z3 z4 z5 z6 z7 z8 z9 z10 z11 z12 z13 z14 z15 z16 z17 z18 v_page) := by
  refine kent_i (by decide) (Nat.le_of_ble_eq_true rfl) ?_
  intro p e s m below meth c A Q ls C hP hD hS hl hret
  obtain ⟨hx, hb, -⟩ := id C
  have hl : lv_has ls 3 [(0, .ref h0), (1, .int x1), (2, .int x2)] := hl
  unfold fX6_tokensOf at hf
  generalize ([.ref h0, .int x1, .int x2] : List Value).toArray = args at *
  refine lv_aload_n hx hb dX6_tokensOf_0 rfl (lv_at hl 0 rfl) ?_
  refine kget C inX6 hP 0 rfl rfl 0 (by decide) mw_687 rfl dX6_tokensOf_1 ?_
  refine lv_aload_n hx hb dX6_tokensOf_4 rfl (lv_at hl 0 rfl) ?_
  refine lv_iload_n hx hb dX6_tokensOf_5 rfl (lv_at hl 1 rfl) ?_
  refine lv_iload_n hx hb dX6_tokensOf_6 rfl (lv_at hl 2 rfl) ?_
  obtain ⟨q7, hq7, hf⟩ := bd_some hf
  refine kcVi C (kX6_copyAt (l := l) (D := D) (k := k) h0 x1 x2 q7 hq7) mt_X6_copyAt mw_823 ⟨rfl, rfl, Nat.le_of_ble_eq_true rfl, Nat.le_of_ble_eq_true rfl⟩ hP hD hS 0 rfl rfl rfl [] rfl rfl [none, none] rfl rfl (w2 := (wX6_tokensOf k h0 h1 z0 z1 z2 z3 z4 z5 z6 z7 z8 z9 z10 z11 z12 z13 z14 z15 z16 z17 z18 v_page)) rfl rfl rfl hl.1 (rest := [.ref h1]) (Nat.le_of_ble_eq_true rfl) rfl dX6_tokensOf_7 ⟨Nat.zero_le _, Nat.zero_le _⟩ (fun H locs hP hD hS => ?_)
  obtain ⟨hin, hf⟩ := gd_some hf
  refine kiald C hP 1 rfl hin dX6_tokensOf_10 (j := q7.toNatClampNeg) rfl ?_
  obtain rfl := Option.some.inj hf
  exact hret _ _ _ _ dX6_tokensOf_11 hP hS
set_option maxHeartbeats 4000000 in
set_option maxRecDepth 100000 in
theorem kX6_hopsOf {l : Launch} {D : va_G} {k : Nat → ClassId} (h0 h1 : Nat) (z0 z1 z2 z3 z4 z5 z6 z7 z8 z9 z10 z11 z12 z13 z14 z15 z16 z17 z18 : Value) (v_page : Nat → Int32) (x1 : Int32) (x2 : Int32) (q : Int32) (hf : fX6_hopsOf v_page x1 x2 = some q) : KMi l yX6_hopsOf cX6_hopsOf 3 (some .int) ({ frames := 1, cells := 0, slots := 0, locals := 22 } : Room) D k [.ref h0, .int x1, .int x2] (wX6_hopsOf k h0 h1 z0 z1 z2 z3 z4 z5 z6 z7 z8 z9 z10 z11 z12 z13 z14 z15 z16 z17 z18 v_page) q (wX6_hopsOf k h0 h1 z0 z1 z2 z3 z4 z5 z6 z7 z8 z9 z10 z11 z12 z13 z14 z15 z16 z17 z18 v_page) := by
  refine kent_i (by decide) (Nat.le_of_ble_eq_true rfl) ?_
  intro p e s m below meth c A Q ls C hP hD hS hl hret
  obtain ⟨hx, hb, -⟩ := id C
  have hl : lv_has ls 3 [(0, .ref h0), (1, .int x1), (2, .int x2)] := hl
  unfold fX6_hopsOf at hf
  generalize ([.ref h0, .int x1, .int x2] : List Value).toArray = args at *
  refine lv_aload_n hx hb dX6_hopsOf_0 rfl (lv_at hl 0 rfl) ?_
  refine kget C inX6 hP 0 rfl rfl 0 (by decide) mw_687 rfl dX6_hopsOf_1 ?_
  refine lv_aload_n hx hb dX6_hopsOf_4 rfl (lv_at hl 0 rfl) ?_
  refine lv_iload_n hx hb dX6_hopsOf_5 rfl (lv_at hl 1 rfl) ?_
  refine lv_iload_n hx hb dX6_hopsOf_6 rfl (lv_at hl 2 rfl) ?_
  obtain ⟨q7, hq7, hf⟩ := bd_some hf
  refine kcVi C (kX6_copyAt (l := l) (D := D) (k := k) h0 x1 x2 q7 hq7) mt_X6_copyAt mw_823 ⟨rfl, rfl, Nat.le_of_ble_eq_true rfl, Nat.le_of_ble_eq_true rfl⟩ hP hD hS 0 rfl rfl rfl [] rfl rfl [none, none] rfl rfl (w2 := (wX6_hopsOf k h0 h1 z0 z1 z2 z3 z4 z5 z6 z7 z8 z9 z10 z11 z12 z13 z14 z15 z16 z17 z18 v_page)) rfl rfl rfl hl.1 (rest := [.ref h1]) (Nat.le_of_ble_eq_true rfl) rfl dX6_hopsOf_7 ⟨Nat.zero_le _, Nat.zero_le _⟩ (fun H locs hP hD hS => ?_)
  refine lv_iconst (v := (1 : Int32)) hx hb dX6_hopsOf_10 (by decide) ?_
  refine lv_iadd hx hb dX6_hopsOf_11 ?_
  obtain ⟨hin, hf⟩ := gd_some hf
  refine kiald C hP 1 rfl hin dX6_hopsOf_12 (j := (q7 + (1 : Int32)).toNatClampNeg) rfl ?_
  obtain rfl := Option.some.inj hf
  exact hret _ _ _ _ dX6_hopsOf_13 hP hS
set_option maxHeartbeats 4000000 in
set_option maxRecDepth 100000 in
theorem kX6_sinceOf {l : Launch} {D : va_G} {k : Nat → ClassId} (h0 h1 : Nat) (z0 z1 z2 z3 z4 z5 z6 z7 z8 z9 z10 z11 z12 z13 z14 z15 z16 z17 z18 : Value) (v_page : Nat → Int32) (x1 : Int32) (x2 : Int32) (q : Int32) (hf : fX6_sinceOf v_page x1 x2 = some q) : KMi l yX6_sinceOf cX6_sinceOf 3 (some .int) ({ frames := 1, cells := 0, slots := 0, locals := 22 } : Room) D k [.ref h0, .int x1, .int x2] (wX6_sinceOf k h0 h1 z0 z1 z2 z3 z4 z5 z6 z7 z8 z9 z10 z11 z12 z13 z14 z15 z16 z17 z18 v_page) q (wX6_sinceOf k h0 h1 z0 z1 z2 z3 z4 z5 z6 z7 z8 z9 z10 z11 z12 z13 z14 z15 z16 z17 z18 v_page) := by
  refine kent_i (by decide) (Nat.le_of_ble_eq_true rfl) ?_
  intro p e s m below meth c A Q ls C hP hD hS hl hret
  obtain ⟨hx, hb, -⟩ := id C
  have hl : lv_has ls 3 [(0, .ref h0), (1, .int x1), (2, .int x2)] := hl
  unfold fX6_sinceOf at hf
  generalize ([.ref h0, .int x1, .int x2] : List Value).toArray = args at *
  refine lv_aload_n hx hb dX6_sinceOf_0 rfl (lv_at hl 0 rfl) ?_
  refine kget C inX6 hP 0 rfl rfl 0 (by decide) mw_687 rfl dX6_sinceOf_1 ?_
  refine lv_aload_n hx hb dX6_sinceOf_4 rfl (lv_at hl 0 rfl) ?_
  refine lv_iload_n hx hb dX6_sinceOf_5 rfl (lv_at hl 1 rfl) ?_
  refine lv_iload_n hx hb dX6_sinceOf_6 rfl (lv_at hl 2 rfl) ?_
  obtain ⟨q7, hq7, hf⟩ := bd_some hf
  refine kcVi C (kX6_copyAt (l := l) (D := D) (k := k) h0 x1 x2 q7 hq7) mt_X6_copyAt mw_823 ⟨rfl, rfl, Nat.le_of_ble_eq_true rfl, Nat.le_of_ble_eq_true rfl⟩ hP hD hS 0 rfl rfl rfl [] rfl rfl [none, none] rfl rfl (w2 := (wX6_sinceOf k h0 h1 z0 z1 z2 z3 z4 z5 z6 z7 z8 z9 z10 z11 z12 z13 z14 z15 z16 z17 z18 v_page)) rfl rfl rfl hl.1 (rest := [.ref h1]) (Nat.le_of_ble_eq_true rfl) rfl dX6_sinceOf_7 ⟨Nat.zero_le _, Nat.zero_le _⟩ (fun H locs hP hD hS => ?_)
  refine lv_iconst (v := (2 : Int32)) hx hb dX6_sinceOf_10 (by decide) ?_
  refine lv_iadd hx hb dX6_sinceOf_11 ?_
  obtain ⟨hin, hf⟩ := gd_some hf
  refine kiald C hP 1 rfl hin dX6_sinceOf_12 (j := (q7 + (2 : Int32)).toNatClampNeg) rfl ?_
  obtain rfl := Option.some.inj hf
  exact hret _ _ _ _ dX6_sinceOf_13 hP hS
set_option maxHeartbeats 4000000 in
set_option maxRecDepth 100000 in
theorem kX6_comes {l : Launch} {D : va_G} {k : Nat → ClassId} (h0 h1 : Nat) (z0 z1 z2 z3 z4 z5 z6 z7 z8 z9 z10 z11 z12 z13 z14 z15 z16 z17 z18 : Value) (v_page : Nat → Int32) (x1 : Int32) (x2 : Int32) (x3 : Int32) (x4 : Int32) (q : (Nat → Int32)) (hf : fX6_comes v_page x1 x2 x3 x4 = some q) : KMv l yX6_comes cX6_comes 5 ({ frames := 1, cells := 0, slots := 0, locals := 22 } : Room) D k [.ref h0, .int x1, .int x2, .int x3, .int x4] (wX6_comes k h0 h1 z0 z1 z2 z3 z4 z5 z6 z7 z8 z9 z10 z11 z12 z13 z14 z15 z16 z17 z18 v_page) (wX6_comes k h0 h1 z0 z1 z2 z3 z4 z5 z6 z7 z8 z9 z10 z11 z12 z13 z14 z15 z16 z17 z18 q) := by
  refine kent_v (by decide) (Nat.le_of_ble_eq_true rfl) ?_
  intro p e s m below meth c A Q ls C hP hD hS hl hret
  obtain ⟨hx, hb, -⟩ := id C
  have hl : lv_has ls 5 [(0, .ref h0), (1, .int x1), (2, .int x2), (3, .int x3), (4, .int x4)] := hl
  unfold fX6_comes at hf
  generalize ([.ref h0, .int x1, .int x2, .int x3, .int x4] : List Value).toArray = args at *
  refine lv_aload_n hx hb dX6_comes_0 rfl (lv_at hl 0 rfl) ?_
  refine kget C inX6 hP 0 rfl rfl 0 (by decide) mw_687 rfl dX6_comes_1 ?_
  refine lv_aload_n hx hb dX6_comes_4 rfl (lv_at hl 0 rfl) ?_
  refine lv_iload_n hx hb dX6_comes_5 rfl (lv_at hl 1 rfl) ?_
  refine lv_iload_n hx hb dX6_comes_6 rfl (lv_at hl 2 rfl) ?_
  obtain ⟨q7, hq7, hf⟩ := bd_some hf
  refine kcVi C (kX6_copyAt (l := l) (D := D) (k := k) h0 x1 x2 q7 hq7) mt_X6_copyAt mw_823 ⟨rfl, rfl, Nat.le_of_ble_eq_true rfl, Nat.le_of_ble_eq_true rfl⟩ hP hD hS 0 rfl rfl rfl [] rfl rfl [none, none] rfl rfl (w2 := (wX6_comes k h0 h1 z0 z1 z2 z3 z4 z5 z6 z7 z8 z9 z10 z11 z12 z13 z14 z15 z16 z17 z18 v_page)) rfl rfl rfl hl.1 (rest := [.ref h1]) (Nat.le_of_ble_eq_true rfl) rfl dX6_comes_7 ⟨Nat.zero_le _, Nat.zero_le _⟩ (fun H locs hP hD hS => ?_)
  refine lv_iload_n hx hb dX6_comes_10 rfl (lv_at hl 3 rfl) ?_
  obtain ⟨hin, hf⟩ := gd_some hf
  obtain ⟨v_page_11, hn11, hf⟩ := nm_some hf
  refine kiast C hP hD hS 1 rfl hin dX6_comes_11 (j := q7.toNatClampNeg) rfl (g := v_page_11) hn11 (w2 := (wX6_comes k h0 h1 z0 z1 z2 z3 z4 z5 z6 z7 z8 z9 z10 z11 z12 z13 z14 z15 z16 z17 z18 v_page_11)) rfl (fun H locs hP hD hS => ?_)
  refine lv_aload_n hx hb dX6_comes_12 rfl (lv_at hl 0 rfl) ?_
  refine kget C inX6 hP 0 rfl rfl 0 (by decide) mw_687 rfl dX6_comes_13 ?_
  refine lv_aload_n hx hb dX6_comes_16 rfl (lv_at hl 0 rfl) ?_
  refine lv_iload_n hx hb dX6_comes_17 rfl (lv_at hl 1 rfl) ?_
  refine lv_iload_n hx hb dX6_comes_18 rfl (lv_at hl 2 rfl) ?_
  obtain ⟨q19, hq19, hf⟩ := bd_some hf
  refine kcVi C (kX6_copyAt (l := l) (D := D) (k := k) h0 x1 x2 q19 hq19) mt_X6_copyAt mw_823 ⟨rfl, rfl, Nat.le_of_ble_eq_true rfl, Nat.le_of_ble_eq_true rfl⟩ hP hD hS 0 rfl rfl rfl [] rfl rfl [none, none] rfl rfl (w2 := (wX6_comes k h0 h1 z0 z1 z2 z3 z4 z5 z6 z7 z8 z9 z10 z11 z12 z13 z14 z15 z16 z17 z18 v_page_11)) rfl rfl rfl hl.1 (rest := [.ref h1]) (Nat.le_of_ble_eq_true rfl) rfl dX6_comes_19 ⟨Nat.zero_le _, Nat.zero_le _⟩ (fun H locs hP hD hS => ?_)
  refine lv_iconst (v := (1 : Int32)) hx hb dX6_comes_22 (by decide) ?_
  refine lv_iadd hx hb dX6_comes_23 ?_
  refine lv_iload hx hb dX6_comes_24 (lv_at hl 4 rfl) ?_
  obtain ⟨hin, hf⟩ := gd_some hf
  obtain ⟨v_page_26, hn26, hf⟩ := nm_some hf
  refine kiast C hP hD hS 1 rfl hin dX6_comes_26 (j := (q19 + (1 : Int32)).toNatClampNeg) rfl (g := v_page_26) hn26 (w2 := (wX6_comes k h0 h1 z0 z1 z2 z3 z4 z5 z6 z7 z8 z9 z10 z11 z12 z13 z14 z15 z16 z17 z18 v_page_26)) rfl (fun H locs hP hD hS => ?_)
  refine lv_aload_n hx hb dX6_comes_27 rfl (lv_at hl 0 rfl) ?_
  refine kget C inX6 hP 0 rfl rfl 0 (by decide) mw_687 rfl dX6_comes_28 ?_
  refine lv_aload_n hx hb dX6_comes_31 rfl (lv_at hl 0 rfl) ?_
  refine lv_iload_n hx hb dX6_comes_32 rfl (lv_at hl 1 rfl) ?_
  refine lv_iload_n hx hb dX6_comes_33 rfl (lv_at hl 2 rfl) ?_
  obtain ⟨q34, hq34, hf⟩ := bd_some hf
  refine kcVi C (kX6_copyAt (l := l) (D := D) (k := k) h0 x1 x2 q34 hq34) mt_X6_copyAt mw_823 ⟨rfl, rfl, Nat.le_of_ble_eq_true rfl, Nat.le_of_ble_eq_true rfl⟩ hP hD hS 0 rfl rfl rfl [] rfl rfl [none, none] rfl rfl (w2 := (wX6_comes k h0 h1 z0 z1 z2 z3 z4 z5 z6 z7 z8 z9 z10 z11 z12 z13 z14 z15 z16 z17 z18 v_page_26)) rfl rfl rfl hl.1 (rest := [.ref h1]) (Nat.le_of_ble_eq_true rfl) rfl dX6_comes_34 ⟨Nat.zero_le _, Nat.zero_le _⟩ (fun H locs hP hD hS => ?_)
  refine lv_iconst (v := (2 : Int32)) hx hb dX6_comes_37 (by decide) ?_
  refine lv_iadd hx hb dX6_comes_38 ?_
  refine lv_aload_n hx hb dX6_comes_39 rfl (lv_at hl 0 rfl) ?_
  refine kget C inX6 hP 0 rfl rfl 0 (by decide) mw_687 rfl dX6_comes_40 ?_
  refine lv_iconst (v := (3 : Int32)) hx hb dX6_comes_43 (by decide) ?_
  refine kiald C hP 1 rfl (by unfold vp_in; decide) dX6_comes_44 (j := 3) (by decide) ?_
  obtain ⟨hin, hf⟩ := gd_some hf
  obtain ⟨v_page_45, hn45, hf⟩ := nm_some hf
  refine kiast C hP hD hS 1 rfl hin dX6_comes_45 (j := (q34 + (2 : Int32)).toNatClampNeg) rfl (g := v_page_45) hn45 (w2 := (wX6_comes k h0 h1 z0 z1 z2 z3 z4 z5 z6 z7 z8 z9 z10 z11 z12 z13 z14 z15 z16 z17 z18 v_page_45)) rfl (fun H locs hP hD hS => ?_)
  obtain rfl := Option.some.inj hf
  exact hret _ _ _ _ dX6_comes_46 hP hS
set_option maxHeartbeats 4000000 in
set_option maxRecDepth 100000 in
theorem kX6_goes {l : Launch} {D : va_G} {k : Nat → ClassId} (h0 h1 : Nat) (z0 z1 z2 z3 z4 z5 z6 z7 z8 z9 z10 z11 z12 z13 z14 z15 z16 z17 z18 : Value) (v_page : Nat → Int32) (x1 : Int32) (x2 : Int32) (q : (Nat → Int32)) (hf : fX6_goes v_page x1 x2 = some q) : KMv l yX6_goes cX6_goes 3 ({ frames := 1, cells := 0, slots := 0, locals := 22 } : Room) D k [.ref h0, .int x1, .int x2] (wX6_goes k h0 h1 z0 z1 z2 z3 z4 z5 z6 z7 z8 z9 z10 z11 z12 z13 z14 z15 z16 z17 z18 v_page) (wX6_goes k h0 h1 z0 z1 z2 z3 z4 z5 z6 z7 z8 z9 z10 z11 z12 z13 z14 z15 z16 z17 z18 q) := by
  refine kent_v (by decide) (Nat.le_of_ble_eq_true rfl) ?_
  intro p e s m below meth c A Q ls C hP hD hS hl hret
  obtain ⟨hx, hb, -⟩ := id C
  have hl : lv_has ls 3 [(0, .ref h0), (1, .int x1), (2, .int x2)] := hl
  unfold fX6_goes at hf
  generalize ([.ref h0, .int x1, .int x2] : List Value).toArray = args at *
  refine lv_aload_n hx hb dX6_goes_0 rfl (lv_at hl 0 rfl) ?_
  refine kget C inX6 hP 0 rfl rfl 0 (by decide) mw_687 rfl dX6_goes_1 ?_
  refine lv_aload_n hx hb dX6_goes_4 rfl (lv_at hl 0 rfl) ?_
  refine lv_iload_n hx hb dX6_goes_5 rfl (lv_at hl 1 rfl) ?_
  refine lv_iload_n hx hb dX6_goes_6 rfl (lv_at hl 2 rfl) ?_
  obtain ⟨q7, hq7, hf⟩ := bd_some hf
  refine kcVi C (kX6_copyAt (l := l) (D := D) (k := k) h0 x1 x2 q7 hq7) mt_X6_copyAt mw_823 ⟨rfl, rfl, Nat.le_of_ble_eq_true rfl, Nat.le_of_ble_eq_true rfl⟩ hP hD hS 0 rfl rfl rfl [] rfl rfl [none, none] rfl rfl (w2 := (wX6_goes k h0 h1 z0 z1 z2 z3 z4 z5 z6 z7 z8 z9 z10 z11 z12 z13 z14 z15 z16 z17 z18 v_page)) rfl rfl rfl hl.1 (rest := [.ref h1]) (Nat.le_of_ble_eq_true rfl) rfl dX6_goes_7 ⟨Nat.zero_le _, Nat.zero_le _⟩ (fun H locs hP hD hS => ?_)
  refine lv_iconst (v := (0 : Int32)) hx hb dX6_goes_10 (by decide) ?_
  obtain ⟨hin, hf⟩ := gd_some hf
  obtain ⟨v_page_11, hn11, hf⟩ := nm_some hf
  refine kiast C hP hD hS 1 rfl hin dX6_goes_11 (j := q7.toNatClampNeg) rfl (g := v_page_11) hn11 (w2 := (wX6_goes k h0 h1 z0 z1 z2 z3 z4 z5 z6 z7 z8 z9 z10 z11 z12 z13 z14 z15 z16 z17 z18 v_page_11)) rfl (fun H locs hP hD hS => ?_)
  obtain rfl := Option.some.inj hf
  exact hret _ _ _ _ dX6_goes_12 hP hS
set_option maxHeartbeats 4000000 in
set_option maxRecDepth 100000 in
theorem kX6_hasNote {l : Launch} {D : va_G} {k : Nat → ClassId} (h0 h1 : Nat) (z0 z1 z2 z3 z4 z5 z6 z7 z8 z9 z10 z11 z12 z13 z14 z15 z16 z17 z18 : Value) (v_page : Nat → Int32) (x1 : Int32) (x2 : Int32) (q : Int32) (hf : fX6_hasNote v_page x1 x2 = some q) : KMi l yX6_hasNote cX6_hasNote 3 (some .boolean) ({ frames := 0, cells := 0, slots := 0, locals := 0 } : Room) D k [.ref h0, .int x1, .int x2] (wX6_hasNote k h0 h1 z0 z1 z2 z3 z4 z5 z6 z7 z8 z9 z10 z11 z12 z13 z14 z15 z16 z17 z18 v_page) q (wX6_hasNote k h0 h1 z0 z1 z2 z3 z4 z5 z6 z7 z8 z9 z10 z11 z12 z13 z14 z15 z16 z17 z18 v_page) := by
  refine kent_z (by decide) (Nat.le_of_ble_eq_true rfl) ?_
  intro p e s m below meth c A Q ls C hP hD hS hl hret
  obtain ⟨hx, hb, -⟩ := id C
  have hl : lv_has ls 3 [(0, .ref h0), (1, .int x1), (2, .int x2)] := hl
  unfold fX6_hasNote at hf
  generalize ([.ref h0, .int x1, .int x2] : List Value).toArray = args at *
  refine lv_aload_n hx hb dX6_hasNote_0 rfl (lv_at hl 0 rfl) ?_
  refine kget C inX6 hP 0 rfl rfl 0 (by decide) mw_687 rfl dX6_hasNote_1 ?_
  refine lv_sipush (v := (639 : Int32)) hx hb dX6_hasNote_4 (by decide) ?_
  refine lv_bipush (v := (16 : Int32)) hx hb dX6_hasNote_7 (by decide) ?_
  refine lv_iload_n hx hb dX6_hasNote_9 rfl (lv_at hl 1 rfl) ?_
  refine lv_imul hx hb dX6_hasNote_10 ?_
  refine lv_iadd hx hb dX6_hasNote_11 ?_
  refine lv_iload_n hx hb dX6_hasNote_12 rfl (lv_at hl 2 rfl) ?_
  refine lv_iadd hx hb dX6_hasNote_13 ?_
  obtain ⟨hin, hf⟩ := gd_some hf
  refine kiald C hP 1 rfl hin dX6_hasNote_14 (j := (((639 : Int32) + ((16 : Int32) * x1)) + x2).toNatClampNeg) rfl ?_
  refine lv_iconst (v := (1 : Int32)) hx hb dX6_hasNote_15 (by decide) ?_
  refine lv_icmp_ne (tgt := 23) hx hb dX6_hasNote_16 (by decide) (fun hc => ?_) (fun hc => ?_)
  · rw [if_neg hc] at hf
    refine lv_iconst (v := (0 : Int32)) hx hb dX6_hasNote_23 (by decide) ?_
    obtain rfl := Option.some.inj hf
    exact hret _ _ _ _ dX6_hasNote_24 (by decide) hP hS
  · rw [if_pos hc] at hf
    refine lv_iconst (v := (1 : Int32)) hx hb dX6_hasNote_19 (by decide) ?_
    refine lv_goto (tgt := 24) hx hb dX6_hasNote_20 (by decide) ?_
    obtain rfl := Option.some.inj hf
    exact hret _ _ _ _ dX6_hasNote_24 (by decide) hP hS
set_option maxHeartbeats 4000000 in
set_option maxRecDepth 100000 in
theorem wX6_loadOf_5 {p : Program} {l : Launch} {e : Env} {s : State} {m : MethodId} {args : Array Value} {below : List Frame} {meth : Method} {c : Code} {A : Nat → Prop} {Q : State → Prop} {D : va_G} {k : Nat → ClassId} (C : Cx p s m args c cX6_loadOf 5 RX6 A D k) (h0 h1 : Nat) (z0 z1 z2 z3 z4 z5 z6 z7 z8 z9 z10 z11 z12 z13 z14 z15 z16 z17 z18 : Value) (v_page : Nat → Int32) (y1 : Int32) (y2 : Int32) : ∀ (f : Nat) (y3 : Int32) (y4 : Int32) (ex : (Int32)) (H : Heap) (locs : List Loc) (ls : Array Slot), fX6_loadOf_5 v_page y1 y2 f y3 y4 = some ex → va_P D vwCl (wX6_loadOf k h0 h1 z0 z1 z2 z3 z4 z5 z6 z7 z8 z9 z10 z11 z12 z13 z14 z15 z16 z17 z18 v_page) H → va_D A (wX6_loadOf k h0 h1 z0 z1 z2 z3 z4 z5 z6 z7 z8 z9 z10 z11 z12 z13 z14 z15 z16 z17 z18 v_page) → va_S A s.heap H locs → lv_has ls 5 [(0, .ref h0), (1, .int y1), (2, .int y2), (3, .int y3), (4, .int y4)] → (∀ (H : Heap) (locs : List Loc) (ls : Array Slot), va_P D vwCl (wX6_loadOf k h0 h1 z0 z1 z2 z3 z4 z5 z6 z7 z8 z9 z10 z11 z12 z13 z14 z15 z16 z17 z18 v_page) H → va_D A (wX6_loadOf k h0 h1 z0 z1 z2 z3 z4 z5 z6 z7 z8 z9 z10 z11 z12 z13 z14 z15 z16 z17 z18 v_page) → va_S A s.heap H locs → lv_has ls 5 [(3, .int ex)] → W p l e ({ frames := 2, cells := 0, slots := 0, locals := 44 } : Room) s m args below meth c H locs 0 0 Q (F0 m 61 ls [])) → W p l e ({ frames := 2, cells := 0, slots := 0, locals := 44 } : Room) s m args below meth c H locs 0 0 Q (F0 m 5 ls []) := by
  obtain ⟨hx, hb, -⟩ := id C
  intro f
  induction f with
  | zero =>
    intro y3 y4 ex H locs ls hf hP hD hS hl hk
    cases hf
  | succ f ih =>
    intro y3 y4 ex H locs ls hf hP hD hS hl hk
    rw [fX6_loadOf_5] at hf
    refine lv_iload hx hb dX6_loadOf_5 (lv_at hl 4 rfl) ?_
    refine lv_aload_n hx hb dX6_loadOf_7 rfl (lv_at hl 0 rfl) ?_
    refine kget C inX6 hP 0 rfl rfl 0 (by decide) mw_687 rfl dX6_loadOf_8 ?_
    refine lv_iconst (v := (2 : Int32)) hx hb dX6_loadOf_11 (by decide) ?_
    refine kiald C hP 1 rfl (by unfold vp_in; decide) dX6_loadOf_12 (j := 2) (by decide) ?_
    refine lv_icmp_ge (tgt := 61) hx hb dX6_loadOf_13 (by decide) (fun hc => ?_) (fun hc => ?_)
    · rw [if_pos hc] at hf
      obtain rfl := Option.some.inj hf
      exact hk _ _ _ hP hD hS (lv_sub hl [3] rfl)
    · rw [if_neg hc] at hf
      refine lv_iload_n hx hb dX6_loadOf_16 rfl (lv_at hl 3 rfl) ?_
      refine lv_aload_n hx hb dX6_loadOf_17 rfl (lv_at hl 0 rfl) ?_
      refine lv_iload_n hx hb dX6_loadOf_18 rfl (lv_at hl 1 rfl) ?_
      refine lv_iload hx hb dX6_loadOf_19 (lv_at hl 4 rfl) ?_
      obtain ⟨q21, hq21, hf⟩ := bd_some hf
      refine kcVi C (kX6_hasCopy (l := l) (D := D) (k := k) h0 h1 z0 z1 z2 z3 z4 z5 z6 z7 z8 z9 z10 z11 z12 z13 z14 z15 z16 z17 z18 v_page y1 y4 q21 hq21) mt_X6_hasCopy mw_819 ⟨rfl, rfl, Nat.le_of_ble_eq_true rfl, Nat.le_of_ble_eq_true rfl⟩ hP hD hS 0 rfl rfl rfl [0, 1] rfl rfl [some 0, some 1] rfl rfl (w2 := (wX6_loadOf k h0 h1 z0 z1 z2 z3 z4 z5 z6 z7 z8 z9 z10 z11 z12 z13 z14 z15 z16 z17 z18 v_page)) rfl rfl rfl hl.1 (rest := [.int y3]) (Nat.le_of_ble_eq_true rfl) rfl dX6_loadOf_21 ⟨Nat.zero_le _, Nat.zero_le _⟩ (fun H locs hP hD hS => ?_)
      obtain ⟨v53, hv53, hf⟩ := bd_some hf
      have hj53 : ∀ (H : Heap) (locs : List Loc) (ls : Array Slot), va_P D vwCl (wX6_loadOf k h0 h1 z0 z1 z2 z3 z4 z5 z6 z7 z8 z9 z10 z11 z12 z13 z14 z15 z16 z17 z18 v_page) H → va_D A (wX6_loadOf k h0 h1 z0 z1 z2 z3 z4 z5 z6 z7 z8 z9 z10 z11 z12 z13 z14 z15 z16 z17 z18 v_page) → va_S A s.heap H locs → lv_has ls 5 [(0, .ref h0), (1, .int y1), (2, .int y2), (4, .int y4)] → W p l e ({ frames := 2, cells := 0, slots := 0, locals := 44 } : Room) s m args below meth c H locs 0 0 Q (F0 m 53 ls [.int v53, .int y3]) := by
        intro H locs ls hP hD hS hl
        refine lv_iadd hx hb dX6_loadOf_53 ?_
        refine lv_istore_n (lv' := [(3, .int (y3 + v53)), (0, .ref h0), (1, .int y1), (2, .int y2), (4, .int y4)]) hx hb dX6_loadOf_54 rfl hl (by decide) rfl (fun ls hl => ?_)
        refine lv_iinc (v := (y4 + (1 : Int32))) (lv' := [(4, .int (y4 + (1 : Int32))), (3, .int (y3 + v53)), (0, .ref h0), (1, .int y1), (2, .int y2)]) hx hb dX6_loadOf_55 hl (k := 4) rfl rfl (by decide) rfl (fun ls hl => ?_)
        refine lv_goto (tgt := 5) hx hb dX6_loadOf_58 (by decide) ?_
        exact ih (y3 + v53) (y4 + (1 : Int32)) _ _ _ _ hf hP hD hS (lv_sub hl [2, 3, 4, 1, 0] rfl) hk
      clear hf
      have hf := hv53
      refine lv_if_eq (tgt := 52) hx hb dX6_loadOf_24 (by decide) (fun hc => ?_) (fun hc => ?_)
      · rw [if_pos hc] at hf
        refine lv_iconst (v := (0 : Int32)) hx hb dX6_loadOf_52 (by decide) ?_
        obtain rfl := Option.some.inj hf
        exact hj53 _ _ _ hP hD hS (lv_sub hl [0, 1, 2, 4] rfl)
      · rw [if_neg hc] at hf
        refine lv_iload_n hx hb dX6_loadOf_27 rfl (lv_at hl 2 rfl) ?_
        refine lv_if_eq (tgt := 42) hx hb dX6_loadOf_28 (by decide) (fun hc => ?_) (fun hc => ?_)
        · rw [if_pos hc] at hf
          refine lv_aload_n hx hb dX6_loadOf_42 rfl (lv_at hl 0 rfl) ?_
          refine lv_iload hx hb dX6_loadOf_43 (lv_at hl 4 rfl) ?_
          refine lv_iconst (v := (3 : Int32)) hx hb dX6_loadOf_45 (by decide) ?_
          obtain ⟨q46, hq46, hf⟩ := bd_some hf
          refine kcVi C (kX6_ofLetter (l := l) (D := D) (k := k) h0 h1 z0 z1 z2 z3 z4 z5 z6 z7 z8 z9 z10 z11 z12 z13 z14 z15 z16 z17 z18 v_page y4 (3 : Int32) q46 hq46) mt_X6_ofLetter mw_839 ⟨rfl, rfl, Nat.le_of_ble_eq_true rfl, Nat.le_of_ble_eq_true rfl⟩ hP hD hS 0 rfl rfl rfl [0, 1] rfl rfl [some 0, some 1] rfl rfl (w2 := (wX6_loadOf k h0 h1 z0 z1 z2 z3 z4 z5 z6 z7 z8 z9 z10 z11 z12 z13 z14 z15 z16 z17 z18 v_page)) rfl rfl rfl hl.1 (rest := [.int y3]) (Nat.le_of_ble_eq_true rfl) rfl dX6_loadOf_46 ⟨Nat.zero_le _, Nat.zero_le _⟩ (fun H locs hP hD hS => ?_)
          refine lv_goto (tgt := 53) hx hb dX6_loadOf_49 (by decide) ?_
          obtain rfl := Option.some.inj hf
          exact hj53 _ _ _ hP hD hS (lv_sub hl [0, 1, 2, 4] rfl)
        · rw [if_neg hc] at hf
          refine lv_aload_n hx hb dX6_loadOf_31 rfl (lv_at hl 0 rfl) ?_
          refine lv_iload hx hb dX6_loadOf_32 (lv_at hl 4 rfl) ?_
          refine lv_iconst (v := (1 : Int32)) hx hb dX6_loadOf_34 (by decide) ?_
          obtain ⟨q35, hq35, hf⟩ := bd_some hf
          refine kcVi C (kX6_ofLetter (l := l) (D := D) (k := k) h0 h1 z0 z1 z2 z3 z4 z5 z6 z7 z8 z9 z10 z11 z12 z13 z14 z15 z16 z17 z18 v_page y4 (1 : Int32) q35 hq35) mt_X6_ofLetter mw_839 ⟨rfl, rfl, Nat.le_of_ble_eq_true rfl, Nat.le_of_ble_eq_true rfl⟩ hP hD hS 0 rfl rfl rfl [0, 1] rfl rfl [some 0, some 1] rfl rfl (w2 := (wX6_loadOf k h0 h1 z0 z1 z2 z3 z4 z5 z6 z7 z8 z9 z10 z11 z12 z13 z14 z15 z16 z17 z18 v_page)) rfl rfl rfl hl.1 (rest := [.int y3]) (Nat.le_of_ble_eq_true rfl) rfl dX6_loadOf_35 ⟨Nat.zero_le _, Nat.zero_le _⟩ (fun H locs hP hD hS => ?_)
          refine lv_iload_n hx hb dX6_loadOf_38 rfl (lv_at hl 1 rfl) ?_
          refine lv_icmp_ne (tgt := 52) hx hb dX6_loadOf_39 (by decide) (fun hc => ?_) (fun hc => ?_)
          · rw [if_neg hc] at hf
            refine lv_iconst (v := (0 : Int32)) hx hb dX6_loadOf_52 (by decide) ?_
            obtain rfl := Option.some.inj hf
            exact hj53 _ _ _ hP hD hS (lv_sub hl [0, 1, 2, 4] rfl)
          · rw [if_pos hc] at hf
            refine lv_aload_n hx hb dX6_loadOf_42 rfl (lv_at hl 0 rfl) ?_
            refine lv_iload hx hb dX6_loadOf_43 (lv_at hl 4 rfl) ?_
            refine lv_iconst (v := (3 : Int32)) hx hb dX6_loadOf_45 (by decide) ?_
            obtain ⟨q46, hq46, hf⟩ := bd_some hf
            refine kcVi C (kX6_ofLetter (l := l) (D := D) (k := k) h0 h1 z0 z1 z2 z3 z4 z5 z6 z7 z8 z9 z10 z11 z12 z13 z14 z15 z16 z17 z18 v_page y4 (3 : Int32) q46 hq46) mt_X6_ofLetter mw_839 ⟨rfl, rfl, Nat.le_of_ble_eq_true rfl, Nat.le_of_ble_eq_true rfl⟩ hP hD hS 0 rfl rfl rfl [0, 1] rfl rfl [some 0, some 1] rfl rfl (w2 := (wX6_loadOf k h0 h1 z0 z1 z2 z3 z4 z5 z6 z7 z8 z9 z10 z11 z12 z13 z14 z15 z16 z17 z18 v_page)) rfl rfl rfl hl.1 (rest := [.int y3]) (Nat.le_of_ble_eq_true rfl) rfl dX6_loadOf_46 ⟨Nat.zero_le _, Nat.zero_le _⟩ (fun H locs hP hD hS => ?_)
            refine lv_goto (tgt := 53) hx hb dX6_loadOf_49 (by decide) ?_
            obtain rfl := Option.some.inj hf
            exact hj53 _ _ _ hP hD hS (lv_sub hl [0, 1, 2, 4] rfl)
set_option maxHeartbeats 4000000 in
set_option maxRecDepth 100000 in
theorem kX6_loadOf {l : Launch} {D : va_G} {k : Nat → ClassId} (h0 h1 : Nat) (z0 z1 z2 z3 z4 z5 z6 z7 z8 z9 z10 z11 z12 z13 z14 z15 z16 z17 z18 : Value) (v_page : Nat → Int32) (x1 : Int32) (x2 : Int32) (q : Int32) (hf : fX6_loadOf v_page x1 x2 = some q) : KMi l yX6_loadOf cX6_loadOf 5 (some .int) ({ frames := 2, cells := 0, slots := 0, locals := 44 } : Room) D k [.ref h0, .int x1, .int x2] (wX6_loadOf k h0 h1 z0 z1 z2 z3 z4 z5 z6 z7 z8 z9 z10 z11 z12 z13 z14 z15 z16 z17 z18 v_page) q (wX6_loadOf k h0 h1 z0 z1 z2 z3 z4 z5 z6 z7 z8 z9 z10 z11 z12 z13 z14 z15 z16 z17 z18 v_page) := by
  refine kent_i (by decide) (Nat.le_of_ble_eq_true rfl) ?_
  intro p e s m below meth c A Q ls C hP hD hS hl hret
  obtain ⟨hx, hb, -⟩ := id C
  have hl : lv_has ls 5 [(0, .ref h0), (1, .int x1), (2, .int x2)] := hl
  unfold fX6_loadOf at hf
  generalize ([.ref h0, .int x1, .int x2] : List Value).toArray = args at *
  refine lv_iconst (v := (0 : Int32)) hx hb dX6_loadOf_0 (by decide) ?_
  refine lv_istore_n (lv' := [(3, .int (0 : Int32)), (0, .ref h0), (1, .int x1), (2, .int x2)]) hx hb dX6_loadOf_1 rfl hl (by decide) rfl (fun ls hl => ?_)
  refine lv_iconst (v := (0 : Int32)) hx hb dX6_loadOf_2 (by decide) ?_
  refine lv_istore (lv' := [(4, .int (0 : Int32)), (3, .int (0 : Int32)), (0, .ref h0), (1, .int x1), (2, .int x2)]) hx hb dX6_loadOf_3 hl (by decide) rfl (fun ls hl => ?_)
  obtain ⟨ex5, hv, hf⟩ := bd_some hf
  refine wX6_loadOf_5 C h0 h1 z0 z1 z2 z3 z4 z5 z6 z7 z8 z9 z10 z11 z12 z13 z14 z15 z16 z17 z18 v_page x1 x2 FU (0 : Int32) (0 : Int32) ex5 _ _ _ hv hP hD hS (lv_sub hl [2, 3, 4, 1, 0] rfl) (fun H locs ls hP hD hS hl => ?_)
  refine lv_iload_n hx hb dX6_loadOf_61 rfl (lv_at hl 0 rfl) ?_
  obtain rfl := Option.some.inj hf
  exact hret _ _ _ _ dX6_loadOf_62 hP hS
set_option maxHeartbeats 4000000 in
set_option maxRecDepth 100000 in
theorem kX6_endOf {l : Launch} {D : va_G} {k : Nat → ClassId} (h0 h1 : Nat) (z0 z1 z2 z3 z4 z5 z6 z7 z8 z9 z10 z11 z12 z13 z14 z15 z16 z17 z18 : Value) (v_page : Nat → Int32) (x1 : Int32) (q : Int32) (hf : fX6_endOf v_page x1 = some q) : KMi l yX6_endOf cX6_endOf 2 (some .int) ({ frames := 1, cells := 0, slots := 0, locals := 22 } : Room) D k [.ref h0, .int x1] (wX6_endOf k h0 h1 z0 z1 z2 z3 z4 z5 z6 z7 z8 z9 z10 z11 z12 z13 z14 z15 z16 z17 z18 v_page) q (wX6_endOf k h0 h1 z0 z1 z2 z3 z4 z5 z6 z7 z8 z9 z10 z11 z12 z13 z14 z15 z16 z17 z18 v_page) := by
  refine kent_i (by decide) (Nat.le_of_ble_eq_true rfl) ?_
  intro p e s m below meth c A Q ls C hP hD hS hl hret
  obtain ⟨hx, hb, -⟩ := id C
  have hl : lv_has ls 2 [(0, .ref h0), (1, .int x1)] := hl
  unfold fX6_endOf at hf
  generalize ([.ref h0, .int x1] : List Value).toArray = args at *
  refine lv_aload_n hx hb dX6_endOf_0 rfl (lv_at hl 0 rfl) ?_
  refine lv_iload_n hx hb dX6_endOf_1 rfl (lv_at hl 1 rfl) ?_
  refine lv_iconst (v := (0 : Int32)) hx hb dX6_endOf_2 (by decide) ?_
  obtain ⟨q3, hq3, hf⟩ := bd_some hf
  refine kcVi C (kX6_ofLetter (l := l) (D := D) (k := k) h0 h1 z0 z1 z2 z3 z4 z5 z6 z7 z8 z9 z10 z11 z12 z13 z14 z15 z16 z17 z18 v_page x1 (0 : Int32) q3 hq3) mt_X6_ofLetter mw_839 ⟨rfl, rfl, Nat.le_of_ble_eq_true rfl, Nat.le_of_ble_eq_true rfl⟩ hP hD hS 0 rfl rfl rfl [0, 1] rfl rfl [some 0, some 1] rfl rfl (w2 := (wX6_endOf k h0 h1 z0 z1 z2 z3 z4 z5 z6 z7 z8 z9 z10 z11 z12 z13 z14 z15 z16 z17 z18 v_page)) rfl rfl rfl hl.1 (rest := []) (Nat.le_of_ble_eq_true rfl) rfl dX6_endOf_3 ⟨Nat.zero_le _, Nat.zero_le _⟩ (fun H locs hP hD hS => ?_)
  refine lv_aload_n hx hb dX6_endOf_6 rfl (lv_at hl 0 rfl) ?_
  refine lv_iload_n hx hb dX6_endOf_7 rfl (lv_at hl 1 rfl) ?_
  refine lv_iconst (v := (5 : Int32)) hx hb dX6_endOf_8 (by decide) ?_
  obtain ⟨q9, hq9, hf⟩ := bd_some hf
  refine kcVi C (kX6_ofLetter (l := l) (D := D) (k := k) h0 h1 z0 z1 z2 z3 z4 z5 z6 z7 z8 z9 z10 z11 z12 z13 z14 z15 z16 z17 z18 v_page x1 (5 : Int32) q9 hq9) mt_X6_ofLetter mw_839 ⟨rfl, rfl, Nat.le_of_ble_eq_true rfl, Nat.le_of_ble_eq_true rfl⟩ hP hD hS 0 rfl rfl rfl [0, 1] rfl rfl [some 0, some 1] rfl rfl (w2 := (wX6_endOf k h0 h1 z0 z1 z2 z3 z4 z5 z6 z7 z8 z9 z10 z11 z12 z13 z14 z15 z16 z17 z18 v_page)) rfl rfl rfl hl.1 (rest := [.int q3]) (Nat.le_of_ble_eq_true rfl) rfl dX6_endOf_9 ⟨Nat.zero_le _, Nat.zero_le _⟩ (fun H locs hP hD hS => ?_)
  refine lv_iadd hx hb dX6_endOf_12 ?_
  obtain rfl := Option.some.inj hf
  exact hret _ _ _ _ dX6_endOf_13 hP hS
set_option maxHeartbeats 4000000 in
set_option maxRecDepth 100000 in
theorem kX6_roomless {l : Launch} {D : va_G} {k : Nat → ClassId} (h0 h1 : Nat) (z0 z1 z2 z3 z4 z5 z6 z7 z8 z9 z10 z11 z12 z13 z14 z15 z16 z17 z18 : Value) (v_page : Nat → Int32) (x1 : Int32) (x2 : Int32) (q : Int32) (hf : fX6_roomless v_page x1 x2 = some q) : KMi l yX6_roomless cX6_roomless 3 (some .int) ({ frames := 3, cells := 0, slots := 0, locals := 68 } : Room) D k [.ref h0, .int x1, .int x2] (wX6_roomless k h0 h1 z0 z1 z2 z3 z4 z5 z6 z7 z8 z9 z10 z11 z12 z13 z14 z15 z16 z17 z18 v_page) q (wX6_roomless k h0 h1 z0 z1 z2 z3 z4 z5 z6 z7 z8 z9 z10 z11 z12 z13 z14 z15 z16 z17 z18 v_page) := by
  refine kent_i (by decide) (Nat.le_of_ble_eq_true rfl) ?_
  intro p e s m below meth c A Q ls C hP hD hS hl hret
  obtain ⟨hx, hb, -⟩ := id C
  have hl : lv_has ls 3 [(0, .ref h0), (1, .int x1), (2, .int x2)] := hl
  unfold fX6_roomless at hf
  generalize ([.ref h0, .int x1, .int x2] : List Value).toArray = args at *
  refine lv_aload_n hx hb dX6_roomless_0 rfl (lv_at hl 0 rfl) ?_
  refine lv_iload_n hx hb dX6_roomless_1 rfl (lv_at hl 1 rfl) ?_
  refine lv_iconst (v := (0 : Int32)) hx hb dX6_roomless_2 (by decide) ?_
  obtain ⟨q3, hq3, hf⟩ := bd_some hf
  refine kcVi C (kX6_loadOf (l := l) (D := D) (k := k) h0 h1 z0 z1 z2 z3 z4 z5 z6 z7 z8 z9 z10 z11 z12 z13 z14 z15 z16 z17 z18 v_page x1 (0 : Int32) q3 hq3) mt_X6_loadOf mw_835 ⟨rfl, rfl, Nat.le_of_ble_eq_true rfl, Nat.le_of_ble_eq_true rfl⟩ hP hD hS 0 rfl rfl rfl [0, 1] rfl rfl [some 0, some 1] rfl rfl (w2 := (wX6_roomless k h0 h1 z0 z1 z2 z3 z4 z5 z6 z7 z8 z9 z10 z11 z12 z13 z14 z15 z16 z17 z18 v_page)) rfl rfl rfl hl.1 (rest := []) (Nat.le_of_ble_eq_true rfl) rfl dX6_roomless_3 ⟨Nat.zero_le _, Nat.zero_le _⟩ (fun H locs hP hD hS => ?_)
  refine lv_iload_n hx hb dX6_roomless_6 rfl (lv_at hl 2 rfl) ?_
  refine lv_iadd hx hb dX6_roomless_7 ?_
  refine lv_aload_n hx hb dX6_roomless_8 rfl (lv_at hl 0 rfl) ?_
  refine kget C inX6 hP 0 rfl rfl 0 (by decide) mw_687 rfl dX6_roomless_9 ?_
  refine lv_bipush (v := (23 : Int32)) hx hb dX6_roomless_12 (by decide) ?_
  refine lv_iload_n hx hb dX6_roomless_14 rfl (lv_at hl 1 rfl) ?_
  refine lv_iadd hx hb dX6_roomless_15 ?_
  obtain ⟨hin, hf⟩ := gd_some hf
  refine kiald C hP 1 rfl hin dX6_roomless_16 (j := ((23 : Int32) + x1).toNatClampNeg) rfl ?_
  refine lv_icmp_gt (tgt := 22) hx hb dX6_roomless_17 (by decide) (fun hc => ?_) (fun hc => ?_)
  · rw [if_pos hc] at hf
    refine lv_iload_n hx hb dX6_roomless_22 rfl (lv_at hl 2 rfl) ?_
    refine lv_aload_n hx hb dX6_roomless_23 rfl (lv_at hl 0 rfl) ?_
    refine kget C inX6 hP 0 rfl rfl 0 (by decide) mw_687 rfl dX6_roomless_24 ?_
    refine lv_bipush (v := (23 : Int32)) hx hb dX6_roomless_27 (by decide) ?_
    refine lv_iload_n hx hb dX6_roomless_29 rfl (lv_at hl 1 rfl) ?_
    refine lv_iadd hx hb dX6_roomless_30 ?_
    obtain ⟨hin, hf⟩ := gd_some hf
    refine kiald C hP 1 rfl hin dX6_roomless_31 (j := ((23 : Int32) + x1).toNatClampNeg) rfl ?_
    refine lv_icmp_le (tgt := 37) hx hb dX6_roomless_32 (by decide) (fun hc => ?_) (fun hc => ?_)
    · rw [if_pos hc] at hf
      refine lv_aload_n hx hb dX6_roomless_37 rfl (lv_at hl 0 rfl) ?_
      refine kget C inX6 hP 0 rfl rfl 0 (by decide) mw_687 rfl dX6_roomless_38 ?_
      refine lv_bipush (v := (6 : Int32)) hx hb dX6_roomless_41 (by decide) ?_
      refine kiald C hP 1 rfl (by unfold vp_in; decide) dX6_roomless_43 (j := 6) (by decide) ?_
      refine lv_if_ne (tgt := 50) hx hb dX6_roomless_44 (by decide) (fun hc => ?_) (fun hc => ?_)
      · rw [if_neg hc] at hf
        refine lv_aload_n hx hb dX6_roomless_50 rfl (lv_at hl 0 rfl) ?_
        refine lv_iload_n hx hb dX6_roomless_51 rfl (lv_at hl 1 rfl) ?_
        refine lv_iconst (v := (1 : Int32)) hx hb dX6_roomless_52 (by decide) ?_
        obtain ⟨q53, hq53, hf⟩ := bd_some hf
        refine kcVi C (kX6_loadOf (l := l) (D := D) (k := k) h0 h1 z0 z1 z2 z3 z4 z5 z6 z7 z8 z9 z10 z11 z12 z13 z14 z15 z16 z17 z18 v_page x1 (1 : Int32) q53 hq53) mt_X6_loadOf mw_835 ⟨rfl, rfl, Nat.le_of_ble_eq_true rfl, Nat.le_of_ble_eq_true rfl⟩ hP hD hS 0 rfl rfl rfl [0, 1] rfl rfl [some 0, some 1] rfl rfl (w2 := (wX6_roomless k h0 h1 z0 z1 z2 z3 z4 z5 z6 z7 z8 z9 z10 z11 z12 z13 z14 z15 z16 z17 z18 v_page)) rfl rfl rfl hl.1 (rest := []) (Nat.le_of_ble_eq_true rfl) rfl dX6_roomless_53 ⟨Nat.zero_le _, Nat.zero_le _⟩ (fun H locs hP hD hS => ?_)
        refine lv_iload_n hx hb dX6_roomless_56 rfl (lv_at hl 2 rfl) ?_
        refine lv_iadd hx hb dX6_roomless_57 ?_
        refine lv_aload_n hx hb dX6_roomless_58 rfl (lv_at hl 0 rfl) ?_
        refine kget C inX6 hP 0 rfl rfl 0 (by decide) mw_687 rfl dX6_roomless_59 ?_
        refine lv_bipush (v := (23 : Int32)) hx hb dX6_roomless_62 (by decide) ?_
        refine lv_iload_n hx hb dX6_roomless_64 rfl (lv_at hl 1 rfl) ?_
        refine lv_iadd hx hb dX6_roomless_65 ?_
        obtain ⟨hin, hf⟩ := gd_some hf
        refine kiald C hP 1 rfl hin dX6_roomless_66 (j := ((23 : Int32) + x1).toNatClampNeg) rfl ?_
        refine lv_icmp_gt (tgt := 74) hx hb dX6_roomless_67 (by decide) (fun hc => ?_) (fun hc => ?_)
        · rw [if_pos hc] at hf
          refine lv_bipush (v := (7 : Int32)) hx hb dX6_roomless_74 (by decide) ?_
          obtain rfl := Option.some.inj hf
          exact hret _ _ _ _ dX6_roomless_76 hP hS
        · rw [if_neg hc] at hf
          refine lv_iconst (v := (0 : Int32)) hx hb dX6_roomless_70 (by decide) ?_
          refine lv_goto (tgt := 76) hx hb dX6_roomless_71 (by decide) ?_
          obtain rfl := Option.some.inj hf
          exact hret _ _ _ _ dX6_roomless_76 hP hS
      · rw [if_pos hc] at hf
        refine lv_bipush (v := (6 : Int32)) hx hb dX6_roomless_47 (by decide) ?_
        obtain rfl := Option.some.inj hf
        exact hret _ _ _ _ dX6_roomless_49 hP hS
    · rw [if_neg hc] at hf
      refine lv_iconst (v := (5 : Int32)) hx hb dX6_roomless_35 (by decide) ?_
      obtain rfl := Option.some.inj hf
      exact hret _ _ _ _ dX6_roomless_36 hP hS
  · rw [if_neg hc] at hf
    refine lv_iconst (v := (0 : Int32)) hx hb dX6_roomless_20 (by decide) ?_
    obtain rfl := Option.some.inj hf
    exact hret _ _ _ _ dX6_roomless_21 hP hS
set_option maxHeartbeats 4000000 in
set_option maxRecDepth 100000 in
theorem kX6_isAhead {l : Launch} {D : va_G} {k : Nat → ClassId} (h0 h1 : Nat) (z0 z1 z2 z3 z4 z5 z6 z7 z8 z9 z10 z11 z12 z13 z14 z15 z16 z17 z18 : Value) (v_page : Nat → Int32) (x1 : Int32) (x2 : Int32) (x3 : Int32) (q : Int32) (hf : fX6_isAhead v_page x1 x2 x3 = some q) : KMi l yX6_isAhead cX6_isAhead 4 (some .boolean) ({ frames := 2, cells := 0, slots := 0, locals := 44 } : Room) D k [.ref h0, .int x1, .int x2, .int x3] (wX6_isAhead k h0 h1 z0 z1 z2 z3 z4 z5 z6 z7 z8 z9 z10 z11 z12 z13 z14 z15 z16 z17 z18 v_page) q (wX6_isAhead k h0 h1 z0 z1 z2 z3 z4 z5 z6 z7 z8 z9 z10 z11 z12 z13 z14 z15 z16 z17 z18 v_page) := by
  refine kent_z (by decide) (Nat.le_of_ble_eq_true rfl) ?_
  intro p e s m below meth c A Q ls C hP hD hS hl hret
  obtain ⟨hx, hb, -⟩ := id C
  have hl : lv_has ls 4 [(0, .ref h0), (1, .int x1), (2, .int x2), (3, .int x3)] := hl
  unfold fX6_isAhead at hf
  generalize ([.ref h0, .int x1, .int x2, .int x3] : List Value).toArray = args at *
  refine lv_aload_n hx hb dX6_isAhead_0 rfl (lv_at hl 0 rfl) ?_
  refine kget C inX6 hP 0 rfl rfl 0 (by decide) mw_687 rfl dX6_isAhead_1 ?_
  refine lv_bipush (v := (6 : Int32)) hx hb dX6_isAhead_4 (by decide) ?_
  refine kiald C hP 1 rfl (by unfold vp_in; decide) dX6_isAhead_6 (j := 6) (by decide) ?_
  by_cases hc1 : (v_page 6) = (1 : Int32)
  · rw [if_pos hc1] at hf
    refine lv_lookup (tgt := 32) hx hb dX6_isAhead_7 rfl (by rw [hc1]; first | done | rfl) (by decide) ?_
    refine lv_aload_n hx hb dX6_isAhead_32 rfl (lv_at hl 0 rfl) ?_
    refine lv_iload_n hx hb dX6_isAhead_33 rfl (lv_at hl 1 rfl) ?_
    refine lv_iload_n hx hb dX6_isAhead_34 rfl (lv_at hl 2 rfl) ?_
    obtain ⟨q35, hq35, hf⟩ := bd_some hf
    refine kcVi C (kX6_sinceOf (l := l) (D := D) (k := k) h0 h1 z0 z1 z2 z3 z4 z5 z6 z7 z8 z9 z10 z11 z12 z13 z14 z15 z16 z17 z18 v_page x1 x2 q35 hq35) mt_X6_sinceOf mw_964 ⟨rfl, rfl, Nat.le_of_ble_eq_true rfl, Nat.le_of_ble_eq_true rfl⟩ hP hD hS 0 rfl rfl rfl [0, 1] rfl rfl [some 0, some 1] rfl rfl (w2 := (wX6_isAhead k h0 h1 z0 z1 z2 z3 z4 z5 z6 z7 z8 z9 z10 z11 z12 z13 z14 z15 z16 z17 z18 v_page)) rfl rfl rfl hl.1 (rest := []) (Nat.le_of_ble_eq_true rfl) rfl dX6_isAhead_35 ⟨Nat.zero_le _, Nat.zero_le _⟩ (fun H locs hP hD hS => ?_)
    refine lv_aload_n hx hb dX6_isAhead_38 rfl (lv_at hl 0 rfl) ?_
    refine lv_iload_n hx hb dX6_isAhead_39 rfl (lv_at hl 1 rfl) ?_
    refine lv_iload_n hx hb dX6_isAhead_40 rfl (lv_at hl 3 rfl) ?_
    obtain ⟨q41, hq41, hf⟩ := bd_some hf
    refine kcVi C (kX6_sinceOf (l := l) (D := D) (k := k) h0 h1 z0 z1 z2 z3 z4 z5 z6 z7 z8 z9 z10 z11 z12 z13 z14 z15 z16 z17 z18 v_page x1 x3 q41 hq41) mt_X6_sinceOf mw_964 ⟨rfl, rfl, Nat.le_of_ble_eq_true rfl, Nat.le_of_ble_eq_true rfl⟩ hP hD hS 0 rfl rfl rfl [0, 1] rfl rfl [some 0, some 1] rfl rfl (w2 := (wX6_isAhead k h0 h1 z0 z1 z2 z3 z4 z5 z6 z7 z8 z9 z10 z11 z12 z13 z14 z15 z16 z17 z18 v_page)) rfl rfl rfl hl.1 (rest := [.int q35]) (Nat.le_of_ble_eq_true rfl) rfl dX6_isAhead_41 ⟨Nat.zero_le _, Nat.zero_le _⟩ (fun H locs hP hD hS => ?_)
    refine lv_icmp_ge (tgt := 51) hx hb dX6_isAhead_44 (by decide) (fun hc => ?_) (fun hc => ?_)
    · rw [if_pos hc] at hf
      refine lv_iconst (v := (0 : Int32)) hx hb dX6_isAhead_51 (by decide) ?_
      obtain rfl := Option.some.inj hf
      exact hret _ _ _ _ dX6_isAhead_52 (by decide) hP hS
    · rw [if_neg hc] at hf
      refine lv_iconst (v := (1 : Int32)) hx hb dX6_isAhead_47 (by decide) ?_
      refine lv_goto (tgt := 52) hx hb dX6_isAhead_48 (by decide) ?_
      obtain rfl := Option.some.inj hf
      exact hret _ _ _ _ dX6_isAhead_52 (by decide) hP hS
  · rw [if_neg hc1] at hf
    by_cases hc2 : (v_page 6) = (2 : Int32)
    · rw [if_pos hc2] at hf
      refine lv_lookup (tgt := 53) hx hb dX6_isAhead_7 rfl (by rw [hc2]; first | done | rfl) (by decide) ?_
      refine lv_aload_n hx hb dX6_isAhead_53 rfl (lv_at hl 0 rfl) ?_
      refine lv_iload_n hx hb dX6_isAhead_54 rfl (lv_at hl 2 rfl) ?_
      refine lv_iconst (v := (3 : Int32)) hx hb dX6_isAhead_55 (by decide) ?_
      obtain ⟨q56, hq56, hf⟩ := bd_some hf
      refine kcVi C (kX6_ofLetter (l := l) (D := D) (k := k) h0 h1 z0 z1 z2 z3 z4 z5 z6 z7 z8 z9 z10 z11 z12 z13 z14 z15 z16 z17 z18 v_page x2 (3 : Int32) q56 hq56) mt_X6_ofLetter mw_839 ⟨rfl, rfl, Nat.le_of_ble_eq_true rfl, Nat.le_of_ble_eq_true rfl⟩ hP hD hS 0 rfl rfl rfl [0, 1] rfl rfl [some 0, some 1] rfl rfl (w2 := (wX6_isAhead k h0 h1 z0 z1 z2 z3 z4 z5 z6 z7 z8 z9 z10 z11 z12 z13 z14 z15 z16 z17 z18 v_page)) rfl rfl rfl hl.1 (rest := []) (Nat.le_of_ble_eq_true rfl) rfl dX6_isAhead_56 ⟨Nat.zero_le _, Nat.zero_le _⟩ (fun H locs hP hD hS => ?_)
      refine lv_aload_n hx hb dX6_isAhead_59 rfl (lv_at hl 0 rfl) ?_
      refine lv_iload_n hx hb dX6_isAhead_60 rfl (lv_at hl 3 rfl) ?_
      refine lv_iconst (v := (3 : Int32)) hx hb dX6_isAhead_61 (by decide) ?_
      obtain ⟨q62, hq62, hf⟩ := bd_some hf
      refine kcVi C (kX6_ofLetter (l := l) (D := D) (k := k) h0 h1 z0 z1 z2 z3 z4 z5 z6 z7 z8 z9 z10 z11 z12 z13 z14 z15 z16 z17 z18 v_page x3 (3 : Int32) q62 hq62) mt_X6_ofLetter mw_839 ⟨rfl, rfl, Nat.le_of_ble_eq_true rfl, Nat.le_of_ble_eq_true rfl⟩ hP hD hS 0 rfl rfl rfl [0, 1] rfl rfl [some 0, some 1] rfl rfl (w2 := (wX6_isAhead k h0 h1 z0 z1 z2 z3 z4 z5 z6 z7 z8 z9 z10 z11 z12 z13 z14 z15 z16 z17 z18 v_page)) rfl rfl rfl hl.1 (rest := [.int q56]) (Nat.le_of_ble_eq_true rfl) rfl dX6_isAhead_62 ⟨Nat.zero_le _, Nat.zero_le _⟩ (fun H locs hP hD hS => ?_)
      refine lv_icmp_le (tgt := 72) hx hb dX6_isAhead_65 (by decide) (fun hc => ?_) (fun hc => ?_)
      · rw [if_pos hc] at hf
        refine lv_iconst (v := (0 : Int32)) hx hb dX6_isAhead_72 (by decide) ?_
        obtain rfl := Option.some.inj hf
        exact hret _ _ _ _ dX6_isAhead_73 (by decide) hP hS
      · rw [if_neg hc] at hf
        refine lv_iconst (v := (1 : Int32)) hx hb dX6_isAhead_68 (by decide) ?_
        refine lv_goto (tgt := 73) hx hb dX6_isAhead_69 (by decide) ?_
        obtain rfl := Option.some.inj hf
        exact hret _ _ _ _ dX6_isAhead_73 (by decide) hP hS
    · rw [if_neg hc2] at hf
      have hd : W p l e ({ frames := 2, cells := 0, slots := 0, locals := 44 } : Room) s m args below meth c s.heap [] 0 0 Q (F0 m 74 ls []) := by
        refine lv_aload_n hx hb dX6_isAhead_74 rfl (lv_at hl 0 rfl) ?_
        refine lv_iload_n hx hb dX6_isAhead_75 rfl (lv_at hl 2 rfl) ?_
        obtain ⟨q76, hq76, hf⟩ := bd_some hf
        refine kcVi C (kX6_endOf (l := l) (D := D) (k := k) h0 h1 z0 z1 z2 z3 z4 z5 z6 z7 z8 z9 z10 z11 z12 z13 z14 z15 z16 z17 z18 v_page x2 q76 hq76) mt_X6_endOf mw_909 ⟨rfl, rfl, Nat.le_of_ble_eq_true rfl, Nat.le_of_ble_eq_true rfl⟩ hP hD hS 0 rfl rfl rfl [0, 1] rfl rfl [some 0, some 1] rfl rfl (w2 := (wX6_isAhead k h0 h1 z0 z1 z2 z3 z4 z5 z6 z7 z8 z9 z10 z11 z12 z13 z14 z15 z16 z17 z18 v_page)) rfl rfl rfl hl.1 (rest := []) (Nat.le_of_ble_eq_true rfl) rfl dX6_isAhead_76 ⟨Nat.zero_le _, Nat.zero_le _⟩ (fun H locs hP hD hS => ?_)
        refine lv_aload_n hx hb dX6_isAhead_79 rfl (lv_at hl 0 rfl) ?_
        refine lv_iload_n hx hb dX6_isAhead_80 rfl (lv_at hl 3 rfl) ?_
        obtain ⟨q81, hq81, hf⟩ := bd_some hf
        refine kcVi C (kX6_endOf (l := l) (D := D) (k := k) h0 h1 z0 z1 z2 z3 z4 z5 z6 z7 z8 z9 z10 z11 z12 z13 z14 z15 z16 z17 z18 v_page x3 q81 hq81) mt_X6_endOf mw_909 ⟨rfl, rfl, Nat.le_of_ble_eq_true rfl, Nat.le_of_ble_eq_true rfl⟩ hP hD hS 0 rfl rfl rfl [0, 1] rfl rfl [some 0, some 1] rfl rfl (w2 := (wX6_isAhead k h0 h1 z0 z1 z2 z3 z4 z5 z6 z7 z8 z9 z10 z11 z12 z13 z14 z15 z16 z17 z18 v_page)) rfl rfl rfl hl.1 (rest := [.int q76]) (Nat.le_of_ble_eq_true rfl) rfl dX6_isAhead_81 ⟨Nat.zero_le _, Nat.zero_le _⟩ (fun H locs hP hD hS => ?_)
        refine lv_icmp_ge (tgt := 91) hx hb dX6_isAhead_84 (by decide) (fun hc => ?_) (fun hc => ?_)
        · rw [if_pos hc] at hf
          refine lv_iconst (v := (0 : Int32)) hx hb dX6_isAhead_91 (by decide) ?_
          obtain rfl := Option.some.inj hf
          exact hret _ _ _ _ dX6_isAhead_92 (by decide) hP hS
        · rw [if_neg hc] at hf
          refine lv_iconst (v := (1 : Int32)) hx hb dX6_isAhead_87 (by decide) ?_
          refine lv_goto (tgt := 92) hx hb dX6_isAhead_88 (by decide) ?_
          obtain rfl := Option.some.inj hf
          exact hret _ _ _ _ dX6_isAhead_92 (by decide) hP hS
      exact lv_lookup (off := 67) (tgt := 74) hx hb dX6_isAhead_7 rfl (by show Op.lookupswitch.offset [(1, 25), (2, 46)] _ _ = _; rw [lv_osw hc1 (show ((1 : Int32)).toInt = 1 from rfl), lv_osw hc2 (show ((2 : Int32)).toInt = 2 from rfl)]; first | done | rfl) (by decide) hd
set_option maxHeartbeats 4000000 in
set_option maxRecDepth 100000 in
theorem wX6_makesRoom_26 {p : Program} {l : Launch} {e : Env} {s : State} {m : MethodId} {args : Array Value} {below : List Frame} {meth : Method} {c : Code} {A : Nat → Prop} {Q : State → Prop} {D : va_G} {k : Nat → ClassId} (C : Cx p s m args c cX6_makesRoom 5 RX6 A D k) (h0 h1 : Nat) (z0 z1 z2 z3 z4 z5 z6 z7 z8 z9 z10 z11 z12 z13 z14 z15 z16 z17 z18 : Value) (v_page : Nat → Int32) (y1 : Int32) (y2 : Int32) : ∀ (f : Nat) (y3 : Int32) (y4 : Int32) (ex : (Int32)) (H : Heap) (locs : List Loc) (ls : Array Slot), fX6_makesRoom_26 v_page y1 y2 f y3 y4 = some ex → va_P D vwCl (wX6_makesRoom k h0 h1 z0 z1 z2 z3 z4 z5 z6 z7 z8 z9 z10 z11 z12 z13 z14 z15 z16 z17 z18 v_page) H → va_D A (wX6_makesRoom k h0 h1 z0 z1 z2 z3 z4 z5 z6 z7 z8 z9 z10 z11 z12 z13 z14 z15 z16 z17 z18 v_page) → va_S A s.heap H locs → lv_has ls 5 [(0, .ref h0), (1, .int y1), (2, .int y2), (3, .int y3), (4, .int y4)] → (∀ (H : Heap) (locs : List Loc) (ls : Array Slot), va_P D vwCl (wX6_makesRoom k h0 h1 z0 z1 z2 z3 z4 z5 z6 z7 z8 z9 z10 z11 z12 z13 z14 z15 z16 z17 z18 v_page) H → va_D A (wX6_makesRoom k h0 h1 z0 z1 z2 z3 z4 z5 z6 z7 z8 z9 z10 z11 z12 z13 z14 z15 z16 z17 z18 v_page) → va_S A s.heap H locs → lv_has ls 5 [(0, .ref h0), (1, .int y1), (2, .int y2), (3, .int ex)] → W p l e ({ frames := 3, cells := 0, slots := 0, locals := 68 } : Room) s m args below meth c H locs 0 0 Q (F0 m 88 ls [])) → W p l e ({ frames := 3, cells := 0, slots := 0, locals := 68 } : Room) s m args below meth c H locs 0 0 Q (F0 m 26 ls []) := by
  obtain ⟨hx, hb, -⟩ := id C
  intro f
  induction f with
  | zero =>
    intro y3 y4 ex H locs ls hf hP hD hS hl hk
    cases hf
  | succ f ih =>
    intro y3 y4 ex H locs ls hf hP hD hS hl hk
    rw [fX6_makesRoom_26] at hf
    refine lv_iload hx hb dX6_makesRoom_26 (lv_at hl 4 rfl) ?_
    refine lv_aload_n hx hb dX6_makesRoom_28 rfl (lv_at hl 0 rfl) ?_
    refine kget C inX6 hP 0 rfl rfl 0 (by decide) mw_687 rfl dX6_makesRoom_29 ?_
    refine lv_iconst (v := (2 : Int32)) hx hb dX6_makesRoom_32 (by decide) ?_
    refine kiald C hP 1 rfl (by unfold vp_in; decide) dX6_makesRoom_33 (j := 2) (by decide) ?_
    refine lv_icmp_ge (tgt := 88) hx hb dX6_makesRoom_34 (by decide) (fun hc => ?_) (fun hc => ?_)
    · rw [if_pos hc] at hf
      obtain rfl := Option.some.inj hf
      exact hk _ _ _ hP hD hS (lv_sub hl [0, 1, 2, 3] rfl)
    · rw [if_neg hc] at hf
      refine lv_aload_n hx hb dX6_makesRoom_37 rfl (lv_at hl 0 rfl) ?_
      refine lv_iload_n hx hb dX6_makesRoom_38 rfl (lv_at hl 1 rfl) ?_
      refine lv_iload hx hb dX6_makesRoom_39 (lv_at hl 4 rfl) ?_
      obtain ⟨q41, hq41, hf⟩ := bd_some hf
      refine kcVi C (kX6_hasCopy (l := l) (D := D) (k := k) h0 h1 z0 z1 z2 z3 z4 z5 z6 z7 z8 z9 z10 z11 z12 z13 z14 z15 z16 z17 z18 v_page y1 y4 q41 hq41) mt_X6_hasCopy mw_819 ⟨rfl, rfl, Nat.le_of_ble_eq_true rfl, Nat.le_of_ble_eq_true rfl⟩ hP hD hS 0 rfl rfl rfl [0, 1] rfl rfl [some 0, some 1] rfl rfl (w2 := (wX6_makesRoom k h0 h1 z0 z1 z2 z3 z4 z5 z6 z7 z8 z9 z10 z11 z12 z13 z14 z15 z16 z17 z18 v_page)) rfl rfl rfl hl.1 (rest := []) (Nat.le_of_ble_eq_true rfl) rfl dX6_makesRoom_41 ⟨Nat.zero_le _, Nat.zero_le _⟩ (fun H locs hP hD hS => ?_)
      refine lv_if_eq (tgt := 82) hx hb dX6_makesRoom_44 (by decide) (fun hc => ?_) (fun hc => ?_)
      · rw [if_pos hc] at hf
        refine lv_iinc (v := (y4 + (1 : Int32))) (lv' := [(4, .int (y4 + (1 : Int32))), (0, .ref h0), (1, .int y1), (2, .int y2), (3, .int y3)]) hx hb dX6_makesRoom_82 hl (k := 4) rfl rfl (by decide) rfl (fun ls hl => ?_)
        refine lv_goto (tgt := 26) hx hb dX6_makesRoom_85 (by decide) ?_
        exact ih y3 (y4 + (1 : Int32)) _ _ _ _ hf hP hD hS (lv_sub hl [1, 2, 3, 4, 0] rfl) hk
      · rw [if_neg hc] at hf
        refine lv_aload_n hx hb dX6_makesRoom_47 rfl (lv_at hl 0 rfl) ?_
        refine lv_iload hx hb dX6_makesRoom_48 (lv_at hl 4 rfl) ?_
        refine lv_iconst (v := (1 : Int32)) hx hb dX6_makesRoom_50 (by decide) ?_
        obtain ⟨q51, hq51, hf⟩ := bd_some hf
        refine kcVi C (kX6_ofLetter (l := l) (D := D) (k := k) h0 h1 z0 z1 z2 z3 z4 z5 z6 z7 z8 z9 z10 z11 z12 z13 z14 z15 z16 z17 z18 v_page y4 (1 : Int32) q51 hq51) mt_X6_ofLetter mw_839 ⟨rfl, rfl, Nat.le_of_ble_eq_true rfl, Nat.le_of_ble_eq_true rfl⟩ hP hD hS 0 rfl rfl rfl [0, 1] rfl rfl [some 0, some 1] rfl rfl (w2 := (wX6_makesRoom k h0 h1 z0 z1 z2 z3 z4 z5 z6 z7 z8 z9 z10 z11 z12 z13 z14 z15 z16 z17 z18 v_page)) rfl rfl rfl hl.1 (rest := []) (Nat.le_of_ble_eq_true rfl) rfl dX6_makesRoom_51 ⟨Nat.zero_le _, Nat.zero_le _⟩ (fun H locs hP hD hS => ?_)
        refine lv_iload_n hx hb dX6_makesRoom_54 rfl (lv_at hl 1 rfl) ?_
        refine lv_icmp_eq (tgt := 82) hx hb dX6_makesRoom_55 (by decide) (fun hc => ?_) (fun hc => ?_)
        · rw [if_pos hc] at hf
          refine lv_iinc (v := (y4 + (1 : Int32))) (lv' := [(4, .int (y4 + (1 : Int32))), (0, .ref h0), (1, .int y1), (2, .int y2), (3, .int y3)]) hx hb dX6_makesRoom_82 hl (k := 4) rfl rfl (by decide) rfl (fun ls hl => ?_)
          refine lv_goto (tgt := 26) hx hb dX6_makesRoom_85 (by decide) ?_
          exact ih y3 (y4 + (1 : Int32)) _ _ _ _ hf hP hD hS (lv_sub hl [1, 2, 3, 4, 0] rfl) hk
        · rw [if_neg hc] at hf
          refine lv_iload_n hx hb dX6_makesRoom_58 rfl (lv_at hl 3 rfl) ?_
          refine lv_bipush (v := (-4 : Int32)) hx hb dX6_makesRoom_59 (by decide) ?_
          refine lv_icmp_eq (tgt := 75) hx hb dX6_makesRoom_61 (by decide) (fun hc => ?_) (fun hc => ?_)
          · rw [if_pos hc] at hf
            refine lv_iload hx hb dX6_makesRoom_75 (lv_at hl 4 rfl) ?_
            refine lv_goto (tgt := 81) hx hb dX6_makesRoom_77 (by decide) ?_
            refine lv_istore_n (lv' := [(3, .int y4), (0, .ref h0), (1, .int y1), (2, .int y2), (4, .int y4)]) hx hb dX6_makesRoom_81 rfl hl (by decide) rfl (fun ls hl => ?_)
            refine lv_iinc (v := (y4 + (1 : Int32))) (lv' := [(4, .int (y4 + (1 : Int32))), (3, .int y4), (0, .ref h0), (1, .int y1), (2, .int y2)]) hx hb dX6_makesRoom_82 hl (k := 4) rfl rfl (by decide) rfl (fun ls hl => ?_)
            refine lv_goto (tgt := 26) hx hb dX6_makesRoom_85 (by decide) ?_
            exact ih y4 (y4 + (1 : Int32)) _ _ _ _ hf hP hD hS (lv_sub hl [2, 3, 4, 1, 0] rfl) hk
          · rw [if_neg hc] at hf
            refine lv_aload_n hx hb dX6_makesRoom_64 rfl (lv_at hl 0 rfl) ?_
            refine lv_iload_n hx hb dX6_makesRoom_65 rfl (lv_at hl 1 rfl) ?_
            refine lv_iload hx hb dX6_makesRoom_66 (lv_at hl 4 rfl) ?_
            refine lv_iload_n hx hb dX6_makesRoom_68 rfl (lv_at hl 3 rfl) ?_
            obtain ⟨q69, hq69, hf⟩ := bd_some hf
            refine kcVi C (kX6_isAhead (l := l) (D := D) (k := k) h0 h1 z0 z1 z2 z3 z4 z5 z6 z7 z8 z9 z10 z11 z12 z13 z14 z15 z16 z17 z18 v_page y1 y4 y3 q69 hq69) mt_X6_isAhead mw_960 ⟨rfl, rfl, Nat.le_of_ble_eq_true rfl, Nat.le_of_ble_eq_true rfl⟩ hP hD hS 0 rfl rfl rfl [0, 1] rfl rfl [some 0, some 1] rfl rfl (w2 := (wX6_makesRoom k h0 h1 z0 z1 z2 z3 z4 z5 z6 z7 z8 z9 z10 z11 z12 z13 z14 z15 z16 z17 z18 v_page)) rfl rfl rfl hl.1 (rest := []) (Nat.le_of_ble_eq_true rfl) rfl dX6_makesRoom_69 ⟨Nat.zero_le _, Nat.zero_le _⟩ (fun H locs hP hD hS => ?_)
            refine lv_if_eq (tgt := 80) hx hb dX6_makesRoom_72 (by decide) (fun hc => ?_) (fun hc => ?_)
            · rw [if_pos hc] at hf
              refine lv_iload_n hx hb dX6_makesRoom_80 rfl (lv_at hl 3 rfl) ?_
              refine lv_istore_n (lv' := [(3, .int y3), (0, .ref h0), (1, .int y1), (2, .int y2), (4, .int y4)]) hx hb dX6_makesRoom_81 rfl hl (by decide) rfl (fun ls hl => ?_)
              refine lv_iinc (v := (y4 + (1 : Int32))) (lv' := [(4, .int (y4 + (1 : Int32))), (3, .int y3), (0, .ref h0), (1, .int y1), (2, .int y2)]) hx hb dX6_makesRoom_82 hl (k := 4) rfl rfl (by decide) rfl (fun ls hl => ?_)
              refine lv_goto (tgt := 26) hx hb dX6_makesRoom_85 (by decide) ?_
              exact ih y3 (y4 + (1 : Int32)) _ _ _ _ hf hP hD hS (lv_sub hl [2, 3, 4, 1, 0] rfl) hk
            · rw [if_neg hc] at hf
              refine lv_iload hx hb dX6_makesRoom_75 (lv_at hl 4 rfl) ?_
              refine lv_goto (tgt := 81) hx hb dX6_makesRoom_77 (by decide) ?_
              refine lv_istore_n (lv' := [(3, .int y4), (0, .ref h0), (1, .int y1), (2, .int y2), (4, .int y4)]) hx hb dX6_makesRoom_81 rfl hl (by decide) rfl (fun ls hl => ?_)
              refine lv_iinc (v := (y4 + (1 : Int32))) (lv' := [(4, .int (y4 + (1 : Int32))), (3, .int y4), (0, .ref h0), (1, .int y1), (2, .int y2)]) hx hb dX6_makesRoom_82 hl (k := 4) rfl rfl (by decide) rfl (fun ls hl => ?_)
              refine lv_goto (tgt := 26) hx hb dX6_makesRoom_85 (by decide) ?_
              exact ih y4 (y4 + (1 : Int32)) _ _ _ _ hf hP hD hS (lv_sub hl [2, 3, 4, 1, 0] rfl) hk
set_option maxHeartbeats 4000000 in
set_option maxRecDepth 100000 in
theorem wX6_makesRoom_0 {p : Program} {l : Launch} {e : Env} {s : State} {m : MethodId} {args : Array Value} {below : List Frame} {meth : Method} {c : Code} {A : Nat → Prop} {Q : State → Prop} {D : va_G} {k : Nat → ClassId} (C : Cx p s m args c cX6_makesRoom 5 RX6 A D k) (h0 h1 : Nat) (z0 z1 z2 z3 z4 z5 z6 z7 z8 z9 z10 z11 z12 z13 z14 z15 z16 z17 z18 : Value) (y1 : Int32) (y2 : Int32) : ∀ (f : Nat) (v_page : Nat → Int32) (ex : ((Nat → Int32))) (H : Heap) (locs : List Loc) (ls : Array Slot), fX6_makesRoom_0 y1 y2 f v_page = some ex → va_P D vwCl (wX6_makesRoom k h0 h1 z0 z1 z2 z3 z4 z5 z6 z7 z8 z9 z10 z11 z12 z13 z14 z15 z16 z17 z18 v_page) H → va_D A (wX6_makesRoom k h0 h1 z0 z1 z2 z3 z4 z5 z6 z7 z8 z9 z10 z11 z12 z13 z14 z15 z16 z17 z18 v_page) → va_S A s.heap H locs → lv_has ls 5 [(0, .ref h0), (1, .int y1), (2, .int y2)] → (∀ (H : Heap) (locs : List Loc) (ls : Array Slot), va_P D vwCl (wX6_makesRoom k h0 h1 z0 z1 z2 z3 z4 z5 z6 z7 z8 z9 z10 z11 z12 z13 z14 z15 z16 z17 z18 ex) H → va_D A (wX6_makesRoom k h0 h1 z0 z1 z2 z3 z4 z5 z6 z7 z8 z9 z10 z11 z12 z13 z14 z15 z16 z17 z18 ex) → va_S A s.heap H locs → lv_has ls 5 [] → W p l e ({ frames := 3, cells := 0, slots := 0, locals := 68 } : Room) s m args below meth c H locs 0 0 Q (F0 m 108 ls [])) → W p l e ({ frames := 3, cells := 0, slots := 0, locals := 68 } : Room) s m args below meth c H locs 0 0 Q (F0 m 0 ls []) := by
  obtain ⟨hx, hb, -⟩ := id C
  intro f
  induction f with
  | zero =>
    intro v_page ex H locs ls hf hP hD hS hl hk
    cases hf
  | succ f ih =>
    intro v_page ex H locs ls hf hP hD hS hl hk
    rw [fX6_makesRoom_0] at hf
    refine lv_aload_n hx hb dX6_makesRoom_0 rfl (lv_at hl 0 rfl) ?_
    refine lv_iload_n hx hb dX6_makesRoom_1 rfl (lv_at hl 1 rfl) ?_
    refine lv_iconst (v := (0 : Int32)) hx hb dX6_makesRoom_2 (by decide) ?_
    obtain ⟨q3, hq3, hf⟩ := bd_some hf
    refine kcVi C (kX6_loadOf (l := l) (D := D) (k := k) h0 h1 z0 z1 z2 z3 z4 z5 z6 z7 z8 z9 z10 z11 z12 z13 z14 z15 z16 z17 z18 v_page y1 (0 : Int32) q3 hq3) mt_X6_loadOf mw_835 ⟨rfl, rfl, Nat.le_of_ble_eq_true rfl, Nat.le_of_ble_eq_true rfl⟩ hP hD hS 0 rfl rfl rfl [0, 1] rfl rfl [some 0, some 1] rfl rfl (w2 := (wX6_makesRoom k h0 h1 z0 z1 z2 z3 z4 z5 z6 z7 z8 z9 z10 z11 z12 z13 z14 z15 z16 z17 z18 v_page)) rfl rfl rfl hl.1 (rest := []) (Nat.le_of_ble_eq_true rfl) rfl dX6_makesRoom_3 ⟨Nat.zero_le _, Nat.zero_le _⟩ (fun H locs hP hD hS => ?_)
    refine lv_iload_n hx hb dX6_makesRoom_6 rfl (lv_at hl 2 rfl) ?_
    refine lv_iadd hx hb dX6_makesRoom_7 ?_
    refine lv_aload_n hx hb dX6_makesRoom_8 rfl (lv_at hl 0 rfl) ?_
    refine kget C inX6 hP 0 rfl rfl 0 (by decide) mw_687 rfl dX6_makesRoom_9 ?_
    refine lv_bipush (v := (23 : Int32)) hx hb dX6_makesRoom_12 (by decide) ?_
    refine lv_iload_n hx hb dX6_makesRoom_14 rfl (lv_at hl 1 rfl) ?_
    refine lv_iadd hx hb dX6_makesRoom_15 ?_
    obtain ⟨hin, hf⟩ := gd_some hf
    refine kiald C hP 1 rfl hin dX6_makesRoom_16 (j := ((23 : Int32) + y1).toNatClampNeg) rfl ?_
    refine lv_icmp_le (tgt := 108) hx hb dX6_makesRoom_17 (by decide) (fun hc => ?_) (fun hc => ?_)
    · rw [if_pos hc] at hf
      obtain rfl := Option.some.inj hf
      exact hk _ _ _ hP hD hS (lv_sub hl [] rfl)
    · rw [if_neg hc] at hf
      refine lv_bipush (v := (-4 : Int32)) hx hb dX6_makesRoom_20 (by decide) ?_
      refine lv_istore_n (lv' := [(3, .int (-4 : Int32)), (0, .ref h0), (1, .int y1), (2, .int y2)]) hx hb dX6_makesRoom_22 rfl hl (by decide) rfl (fun ls hl => ?_)
      refine lv_iconst (v := (0 : Int32)) hx hb dX6_makesRoom_23 (by decide) ?_
      refine lv_istore (lv' := [(4, .int (0 : Int32)), (3, .int (-4 : Int32)), (0, .ref h0), (1, .int y1), (2, .int y2)]) hx hb dX6_makesRoom_24 hl (by decide) rfl (fun ls hl => ?_)
      obtain ⟨ex26, hv, hf⟩ := bd_some hf
      refine wX6_makesRoom_26 C h0 h1 z0 z1 z2 z3 z4 z5 z6 z7 z8 z9 z10 z11 z12 z13 z14 z15 z16 z17 z18 v_page y1 y2 FU (-4 : Int32) (0 : Int32) ex26 _ _ _ hv hP hD hS (lv_sub hl [2, 3, 4, 1, 0] rfl) (fun H locs ls hP hD hS hl => ?_)
      refine lv_aload_n hx hb dX6_makesRoom_88 rfl (lv_at hl 0 rfl) ?_
      refine lv_iload_n hx hb dX6_makesRoom_89 rfl (lv_at hl 1 rfl) ?_
      refine lv_iload_n hx hb dX6_makesRoom_90 rfl (lv_at hl 3 rfl) ?_
      obtain ⟨q91, hq91, hf⟩ := bd_some hf
      refine kcVv C (kX6_goes (l := l) (D := D) (k := k) h0 h1 z0 z1 z2 z3 z4 z5 z6 z7 z8 z9 z10 z11 z12 z13 z14 z15 z16 z17 z18 v_page y1 ex26 q91 hq91) mt_X6_goes mw_948 ⟨rfl, rfl, Nat.le_of_ble_eq_true rfl, Nat.le_of_ble_eq_true rfl⟩ hP hD hS 0 rfl rfl rfl [0, 1] rfl rfl [some 0, some 1] rfl rfl (w2 := (wX6_makesRoom k h0 h1 z0 z1 z2 z3 z4 z5 z6 z7 z8 z9 z10 z11 z12 z13 z14 z15 z16 z17 z18 q91)) rfl rfl rfl hl.1 (rest := []) (Nat.le_of_ble_eq_true rfl) rfl dX6_makesRoom_91 ⟨Nat.zero_le _, Nat.zero_le _⟩ (fun H locs hP hD hS => ?_)
      refine lv_aload_n hx hb dX6_makesRoom_94 rfl (lv_at hl 0 rfl) ?_
      refine kget C inX6 hP 0 rfl rfl 0 (by decide) mw_687 rfl dX6_makesRoom_95 ?_
      refine lv_bipush (v := (10 : Int32)) hx hb dX6_makesRoom_98 (by decide) ?_
      refine lv_dup2_11 hx hb dX6_makesRoom_100 rfl rfl ?_
      refine kiald C hP 1 rfl (by unfold vp_in; decide) dX6_makesRoom_101 (j := 10) (by decide) ?_
      refine lv_iconst (v := (1 : Int32)) hx hb dX6_makesRoom_102 (by decide) ?_
      refine lv_iadd hx hb dX6_makesRoom_103 ?_
      obtain ⟨v_page_104, hn104, hf⟩ := nm_some hf
      refine kiast C hP hD hS 1 rfl (by unfold vp_in; decide) dX6_makesRoom_104 (j := 10) (by decide) (g := v_page_104) hn104 (w2 := (wX6_makesRoom k h0 h1 z0 z1 z2 z3 z4 z5 z6 z7 z8 z9 z10 z11 z12 z13 z14 z15 z16 z17 z18 v_page_104)) rfl (fun H locs hP hD hS => ?_)
      refine lv_goto (tgt := 0) hx hb dX6_makesRoom_105 (by decide) ?_
      exact ih v_page_104 _ _ _ _ hf hP hD hS (lv_sub hl [0, 1, 2] rfl) hk
set_option maxHeartbeats 4000000 in
set_option maxRecDepth 100000 in
theorem kX6_makesRoom {l : Launch} {D : va_G} {k : Nat → ClassId} (h0 h1 : Nat) (z0 z1 z2 z3 z4 z5 z6 z7 z8 z9 z10 z11 z12 z13 z14 z15 z16 z17 z18 : Value) (v_page : Nat → Int32) (x1 : Int32) (x2 : Int32) (q : (Nat → Int32)) (hf : fX6_makesRoom v_page x1 x2 = some q) : KMv l yX6_makesRoom cX6_makesRoom 5 ({ frames := 3, cells := 0, slots := 0, locals := 68 } : Room) D k [.ref h0, .int x1, .int x2] (wX6_makesRoom k h0 h1 z0 z1 z2 z3 z4 z5 z6 z7 z8 z9 z10 z11 z12 z13 z14 z15 z16 z17 z18 v_page) (wX6_makesRoom k h0 h1 z0 z1 z2 z3 z4 z5 z6 z7 z8 z9 z10 z11 z12 z13 z14 z15 z16 z17 z18 q) := by
  refine kent_v (by decide) (Nat.le_of_ble_eq_true rfl) ?_
  intro p e s m below meth c A Q ls C hP hD hS hl hret
  obtain ⟨hx, hb, -⟩ := id C
  have hl : lv_has ls 5 [(0, .ref h0), (1, .int x1), (2, .int x2)] := hl
  unfold fX6_makesRoom at hf
  generalize ([.ref h0, .int x1, .int x2] : List Value).toArray = args at *
  obtain ⟨ex0, hv, hf⟩ := bd_some hf
  refine wX6_makesRoom_0 C h0 h1 z0 z1 z2 z3 z4 z5 z6 z7 z8 z9 z10 z11 z12 z13 z14 z15 z16 z17 z18 x1 x2 FU v_page ex0 _ _ _ hv hP hD hS (lv_sub hl [0, 1, 2] rfl) (fun H locs ls hP hD hS hl => ?_)
  obtain rfl := Option.some.inj hf
  exact hret _ _ _ _ dX6_makesRoom_108 hP hS
set_option maxHeartbeats 4000000 in
set_option maxRecDepth 100000 in
theorem kX6_isBorn {l : Launch} {D : va_G} {k : Nat → ClassId} (h0 h1 : Nat) (z0 z1 z2 z3 z4 z5 z6 z7 z8 z9 z10 z11 z12 z13 z14 z15 z16 z17 z18 : Value) (v_page : Nat → Int32) (x1 : Int32) (q : (Nat → Int32)) (hf : fX6_isBorn v_page x1 = some q) : KMv l yX6_isBorn cX6_isBorn 3 ({ frames := 4, cells := 0, slots := 0, locals := 92 } : Room) D k [.ref h0, .int x1] (wX6_isBorn k h0 h1 z0 z1 z2 z3 z4 z5 z6 z7 z8 z9 z10 z11 z12 z13 z14 z15 z16 z17 z18 v_page) (wX6_isBorn k h0 h1 z0 z1 z2 z3 z4 z5 z6 z7 z8 z9 z10 z11 z12 z13 z14 z15 z16 z17 z18 q) := by
  refine kent_v (by decide) (Nat.le_of_ble_eq_true rfl) ?_
  intro p e s m below meth c A Q ls C hP hD hS hl hret
  obtain ⟨hx, hb, -⟩ := id C
  have hl : lv_has ls 3 [(0, .ref h0), (1, .int x1)] := hl
  unfold fX6_isBorn at hf
  generalize ([.ref h0, .int x1] : List Value).toArray = args at *
  refine lv_aload_n hx hb dX6_isBorn_0 rfl (lv_at hl 0 rfl) ?_
  refine lv_iload_n hx hb dX6_isBorn_1 rfl (lv_at hl 1 rfl) ?_
  refine lv_iconst (v := (1 : Int32)) hx hb dX6_isBorn_2 (by decide) ?_
  obtain ⟨q3, hq3, hf⟩ := bd_some hf
  refine kcVi C (kX6_ofLetter (l := l) (D := D) (k := k) h0 h1 z0 z1 z2 z3 z4 z5 z6 z7 z8 z9 z10 z11 z12 z13 z14 z15 z16 z17 z18 v_page x1 (1 : Int32) q3 hq3) mt_X6_ofLetter mw_839 ⟨rfl, rfl, Nat.le_of_ble_eq_true rfl, Nat.le_of_ble_eq_true rfl⟩ hP hD hS 0 rfl rfl rfl [0, 1] rfl rfl [some 0, some 1] rfl rfl (w2 := (wX6_isBorn k h0 h1 z0 z1 z2 z3 z4 z5 z6 z7 z8 z9 z10 z11 z12 z13 z14 z15 z16 z17 z18 v_page)) rfl rfl rfl hl.1 (rest := []) (Nat.le_of_ble_eq_true rfl) rfl dX6_isBorn_3 ⟨Nat.zero_le _, Nat.zero_le _⟩ (fun H locs hP hD hS => ?_)
  refine lv_istore_n (lv' := [(2, .int q3), (0, .ref h0), (1, .int x1)]) hx hb dX6_isBorn_6 rfl hl (by decide) rfl (fun ls hl => ?_)
  refine lv_aload_n hx hb dX6_isBorn_7 rfl (lv_at hl 1 rfl) ?_
  refine lv_iload_n hx hb dX6_isBorn_8 rfl (lv_at hl 0 rfl) ?_
  refine lv_aload_n hx hb dX6_isBorn_9 rfl (lv_at hl 1 rfl) ?_
  refine lv_iload_n hx hb dX6_isBorn_10 rfl (lv_at hl 2 rfl) ?_
  refine lv_iconst (v := (3 : Int32)) hx hb dX6_isBorn_11 (by decide) ?_
  obtain ⟨q12, hq12, hf⟩ := bd_some hf
  refine kcVi C (kX6_ofLetter (l := l) (D := D) (k := k) h0 h1 z0 z1 z2 z3 z4 z5 z6 z7 z8 z9 z10 z11 z12 z13 z14 z15 z16 z17 z18 v_page x1 (3 : Int32) q12 hq12) mt_X6_ofLetter mw_839 ⟨rfl, rfl, Nat.le_of_ble_eq_true rfl, Nat.le_of_ble_eq_true rfl⟩ hP hD hS 0 rfl rfl rfl [0, 1] rfl rfl [some 0, some 1] rfl rfl (w2 := (wX6_isBorn k h0 h1 z0 z1 z2 z3 z4 z5 z6 z7 z8 z9 z10 z11 z12 z13 z14 z15 z16 z17 z18 v_page)) rfl rfl rfl hl.1 (rest := [.int q3, .ref h0]) (Nat.le_of_ble_eq_true rfl) rfl dX6_isBorn_12 ⟨Nat.zero_le _, Nat.zero_le _⟩ (fun H locs hP hD hS => ?_)
  obtain ⟨q15, hq15, hf⟩ := bd_some hf
  refine kcVi C (kX6_roomless (l := l) (D := D) (k := k) h0 h1 z0 z1 z2 z3 z4 z5 z6 z7 z8 z9 z10 z11 z12 z13 z14 z15 z16 z17 z18 v_page q3 q12 q15 hq15) mt_X6_roomless mw_930 ⟨rfl, rfl, Nat.le_of_ble_eq_true rfl, Nat.le_of_ble_eq_true rfl⟩ hP hD hS 0 rfl rfl rfl [0, 1] rfl rfl [some 0, some 1] rfl rfl (w2 := (wX6_isBorn k h0 h1 z0 z1 z2 z3 z4 z5 z6 z7 z8 z9 z10 z11 z12 z13 z14 z15 z16 z17 z18 v_page)) rfl rfl rfl hl.1 (rest := []) (Nat.le_of_ble_eq_true rfl) rfl dX6_isBorn_15 ⟨Nat.zero_le _, Nat.zero_le _⟩ (fun H locs hP hD hS => ?_)
  refine lv_if_le (tgt := 35) hx hb dX6_isBorn_18 (by decide) (fun hc => ?_) (fun hc => ?_)
  · rw [if_pos hc] at hf
    refine lv_aload_n hx hb dX6_isBorn_35 rfl (lv_at hl 1 rfl) ?_
    refine lv_iload_n hx hb dX6_isBorn_36 rfl (lv_at hl 0 rfl) ?_
    refine lv_aload_n hx hb dX6_isBorn_37 rfl (lv_at hl 1 rfl) ?_
    refine lv_iload_n hx hb dX6_isBorn_38 rfl (lv_at hl 2 rfl) ?_
    refine lv_iconst (v := (3 : Int32)) hx hb dX6_isBorn_39 (by decide) ?_
    obtain ⟨q40, hq40, hf⟩ := bd_some hf
    refine kcVi C (kX6_ofLetter (l := l) (D := D) (k := k) h0 h1 z0 z1 z2 z3 z4 z5 z6 z7 z8 z9 z10 z11 z12 z13 z14 z15 z16 z17 z18 v_page x1 (3 : Int32) q40 hq40) mt_X6_ofLetter mw_839 ⟨rfl, rfl, Nat.le_of_ble_eq_true rfl, Nat.le_of_ble_eq_true rfl⟩ hP hD hS 0 rfl rfl rfl [0, 1] rfl rfl [some 0, some 1] rfl rfl (w2 := (wX6_isBorn k h0 h1 z0 z1 z2 z3 z4 z5 z6 z7 z8 z9 z10 z11 z12 z13 z14 z15 z16 z17 z18 v_page)) rfl rfl rfl hl.1 (rest := [.int q3, .ref h0]) (Nat.le_of_ble_eq_true rfl) rfl dX6_isBorn_40 ⟨Nat.zero_le _, Nat.zero_le _⟩ (fun H locs hP hD hS => ?_)
    obtain ⟨q43, hq43, hf⟩ := bd_some hf
    refine kcVv C (kX6_makesRoom (l := l) (D := D) (k := k) h0 h1 z0 z1 z2 z3 z4 z5 z6 z7 z8 z9 z10 z11 z12 z13 z14 z15 z16 z17 z18 v_page q3 q40 q43 hq43) mt_X6_makesRoom mw_956 ⟨rfl, rfl, Nat.le_of_ble_eq_true rfl, Nat.le_of_ble_eq_true rfl⟩ hP hD hS 0 rfl rfl rfl [0, 1] rfl rfl [some 0, some 1] rfl rfl (w2 := (wX6_isBorn k h0 h1 z0 z1 z2 z3 z4 z5 z6 z7 z8 z9 z10 z11 z12 z13 z14 z15 z16 z17 z18 q43)) rfl rfl rfl hl.1 (rest := []) (Nat.le_of_ble_eq_true rfl) rfl dX6_isBorn_43 ⟨Nat.zero_le _, Nat.zero_le _⟩ (fun H locs hP hD hS => ?_)
    refine lv_aload_n hx hb dX6_isBorn_46 rfl (lv_at hl 1 rfl) ?_
    refine lv_iload_n hx hb dX6_isBorn_47 rfl (lv_at hl 0 rfl) ?_
    refine lv_iload_n hx hb dX6_isBorn_48 rfl (lv_at hl 2 rfl) ?_
    refine lv_aload_n hx hb dX6_isBorn_49 rfl (lv_at hl 1 rfl) ?_
    refine lv_iload_n hx hb dX6_isBorn_50 rfl (lv_at hl 2 rfl) ?_
    refine lv_iconst (v := (4 : Int32)) hx hb dX6_isBorn_51 (by decide) ?_
    obtain ⟨q52, hq52, hf⟩ := bd_some hf
    refine kcVi C (kX6_ofLetter (l := l) (D := D) (k := k) h0 h1 z0 z1 z2 z3 z4 z5 z6 z7 z8 z9 z10 z11 z12 z13 z14 z15 z16 z17 z18 q43 x1 (4 : Int32) q52 hq52) mt_X6_ofLetter mw_839 ⟨rfl, rfl, Nat.le_of_ble_eq_true rfl, Nat.le_of_ble_eq_true rfl⟩ hP hD hS 0 rfl rfl rfl [0, 1] rfl rfl [some 0, some 1] rfl rfl (w2 := (wX6_isBorn k h0 h1 z0 z1 z2 z3 z4 z5 z6 z7 z8 z9 z10 z11 z12 z13 z14 z15 z16 z17 z18 q43)) rfl rfl rfl hl.1 (rest := [.int x1, .int q3, .ref h0]) (Nat.le_of_ble_eq_true rfl) rfl dX6_isBorn_52 ⟨Nat.zero_le _, Nat.zero_le _⟩ (fun H locs hP hD hS => ?_)
    refine lv_iconst (v := (0 : Int32)) hx hb dX6_isBorn_55 (by decide) ?_
    obtain ⟨q56, hq56, hf⟩ := bd_some hf
    refine kcVv C (kX6_comes (l := l) (D := D) (k := k) h0 h1 z0 z1 z2 z3 z4 z5 z6 z7 z8 z9 z10 z11 z12 z13 z14 z15 z16 z17 z18 q43 q3 x1 q52 (0 : Int32) q56 hq56) mt_X6_comes mw_968 ⟨rfl, rfl, Nat.le_of_ble_eq_true rfl, Nat.le_of_ble_eq_true rfl⟩ hP hD hS 0 rfl rfl rfl [0, 1] rfl rfl [some 0, some 1] rfl rfl (w2 := (wX6_isBorn k h0 h1 z0 z1 z2 z3 z4 z5 z6 z7 z8 z9 z10 z11 z12 z13 z14 z15 z16 z17 z18 q56)) rfl rfl rfl hl.1 (rest := []) (Nat.le_of_ble_eq_true rfl) rfl dX6_isBorn_56 ⟨Nat.zero_le _, Nat.zero_le _⟩ (fun H locs hP hD hS => ?_)
    obtain rfl := Option.some.inj hf
    exact hret _ _ _ _ dX6_isBorn_59 hP hS
  · rw [if_neg hc] at hf
    refine lv_aload_n hx hb dX6_isBorn_21 rfl (lv_at hl 1 rfl) ?_
    refine kget C inX6 hP 0 rfl rfl 0 (by decide) mw_687 rfl dX6_isBorn_22 ?_
    refine lv_bipush (v := (13 : Int32)) hx hb dX6_isBorn_25 (by decide) ?_
    refine lv_dup2_11 hx hb dX6_isBorn_27 rfl rfl ?_
    refine kiald C hP 1 rfl (by unfold vp_in; decide) dX6_isBorn_28 (j := 13) (by decide) ?_
    refine lv_iconst (v := (1 : Int32)) hx hb dX6_isBorn_29 (by decide) ?_
    refine lv_iadd hx hb dX6_isBorn_30 ?_
    obtain ⟨v_page_31, hn31, hf⟩ := nm_some hf
    refine kiast C hP hD hS 1 rfl (by unfold vp_in; decide) dX6_isBorn_31 (j := 13) (by decide) (g := v_page_31) hn31 (w2 := (wX6_isBorn k h0 h1 z0 z1 z2 z3 z4 z5 z6 z7 z8 z9 z10 z11 z12 z13 z14 z15 z16 z17 z18 v_page_31)) rfl (fun H locs hP hD hS => ?_)
    refine lv_goto (tgt := 59) hx hb dX6_isBorn_32 (by decide) ?_
    obtain rfl := Option.some.inj hf
    exact hret _ _ _ _ dX6_isBorn_59 hP hS
set_option maxHeartbeats 4000000 in
set_option maxRecDepth 100000 in
theorem kX6_lastOf {l : Launch} {D : va_G} {k : Nat → ClassId} (h0 h1 : Nat) (z0 z1 z2 z3 z4 z5 z6 z7 z8 z9 z10 z11 z12 z13 z14 z15 z16 z17 z18 : Value) (v_page : Nat → Int32) (x1 : Int32) (x2 : Int32) (q : Int32) (hf : fX6_lastOf v_page x1 x2 = some q) : KMi l yX6_lastOf cX6_lastOf 3 (some .int) ({ frames := 0, cells := 0, slots := 0, locals := 0 } : Room) D k [.ref h0, .int x1, .int x2] (wX6_lastOf k h0 h1 z0 z1 z2 z3 z4 z5 z6 z7 z8 z9 z10 z11 z12 z13 z14 z15 z16 z17 z18 v_page) q (wX6_lastOf k h0 h1 z0 z1 z2 z3 z4 z5 z6 z7 z8 z9 z10 z11 z12 z13 z14 z15 z16 z17 z18 v_page) := by
  refine kent_i (by decide) (Nat.le_of_ble_eq_true rfl) ?_
  intro p e s m below meth c A Q ls C hP hD hS hl hret
  obtain ⟨hx, hb, -⟩ := id C
  have hl : lv_has ls 3 [(0, .ref h0), (1, .int x1), (2, .int x2)] := hl
  unfold fX6_lastOf at hf
  generalize ([.ref h0, .int x1, .int x2] : List Value).toArray = args at *
  refine lv_aload_n hx hb dX6_lastOf_0 rfl (lv_at hl 0 rfl) ?_
  refine kget C inX6 hP 0 rfl rfl 0 (by decide) mw_687 rfl dX6_lastOf_1 ?_
  refine lv_sipush (v := (767 : Int32)) hx hb dX6_lastOf_4 (by decide) ?_
  refine lv_bipush (v := (8 : Int32)) hx hb dX6_lastOf_7 (by decide) ?_
  refine lv_iload_n hx hb dX6_lastOf_9 rfl (lv_at hl 1 rfl) ?_
  refine lv_imul hx hb dX6_lastOf_10 ?_
  refine lv_iadd hx hb dX6_lastOf_11 ?_
  refine lv_iload_n hx hb dX6_lastOf_12 rfl (lv_at hl 2 rfl) ?_
  refine lv_iadd hx hb dX6_lastOf_13 ?_
  obtain ⟨hin, hf⟩ := gd_some hf
  refine kiald C hP 1 rfl hin dX6_lastOf_14 (j := (((767 : Int32) + ((8 : Int32) * x1)) + x2).toNatClampNeg) rfl ?_
  refine lv_iconst (v := (1 : Int32)) hx hb dX6_lastOf_15 (by decide) ?_
  refine lv_isub hx hb dX6_lastOf_16 ?_
  obtain rfl := Option.some.inj hf
  exact hret _ _ _ _ dX6_lastOf_17 hP hS
set_option maxHeartbeats 4000000 in
set_option maxRecDepth 100000 in
theorem kX6_isWaiting {l : Launch} {D : va_G} {k : Nat → ClassId} (h0 h1 : Nat) (z0 z1 z2 z3 z4 z5 z6 z7 z8 z9 z10 z11 z12 z13 z14 z15 z16 z17 z18 : Value) (v_page : Nat → Int32) (x1 : Int32) (x2 : Int32) (x3 : Int32) (q : Int32) (hf : fX6_isWaiting v_page x1 x2 x3 = some q) : KMi l yX6_isWaiting cX6_isWaiting 7 (some .boolean) ({ frames := 2, cells := 0, slots := 0, locals := 44 } : Room) D k [.ref h0, .int x1, .int x2, .int x3] (wX6_isWaiting k h0 h1 z0 z1 z2 z3 z4 z5 z6 z7 z8 z9 z10 z11 z12 z13 z14 z15 z16 z17 z18 v_page) q (wX6_isWaiting k h0 h1 z0 z1 z2 z3 z4 z5 z6 z7 z8 z9 z10 z11 z12 z13 z14 z15 z16 z17 z18 v_page) := by
  refine kent_z (by decide) (Nat.le_of_ble_eq_true rfl) ?_
  intro p e s m below meth c A Q ls C hP hD hS hl hret
  obtain ⟨hx, hb, -⟩ := id C
  have hl : lv_has ls 7 [(0, .ref h0), (1, .int x1), (2, .int x2), (3, .int x3)] := hl
  unfold fX6_isWaiting at hf
  generalize ([.ref h0, .int x1, .int x2, .int x3] : List Value).toArray = args at *
  refine lv_aload_n hx hb dX6_isWaiting_0 rfl (lv_at hl 0 rfl) ?_
  refine lv_iload_n hx hb dX6_isWaiting_1 rfl (lv_at hl 3 rfl) ?_
  refine lv_iconst (v := (2 : Int32)) hx hb dX6_isWaiting_2 (by decide) ?_
  obtain ⟨q3, hq3, hf⟩ := bd_some hf
  refine kcVi C (kX6_ofLetter (l := l) (D := D) (k := k) h0 h1 z0 z1 z2 z3 z4 z5 z6 z7 z8 z9 z10 z11 z12 z13 z14 z15 z16 z17 z18 v_page x3 (2 : Int32) q3 hq3) mt_X6_ofLetter mw_839 ⟨rfl, rfl, Nat.le_of_ble_eq_true rfl, Nat.le_of_ble_eq_true rfl⟩ hP hD hS 0 rfl rfl rfl [0, 1] rfl rfl [some 0, some 1] rfl rfl (w2 := (wX6_isWaiting k h0 h1 z0 z1 z2 z3 z4 z5 z6 z7 z8 z9 z10 z11 z12 z13 z14 z15 z16 z17 z18 v_page)) rfl rfl rfl hl.1 (rest := []) (Nat.le_of_ble_eq_true rfl) rfl dX6_isWaiting_3 ⟨Nat.zero_le _, Nat.zero_le _⟩ (fun H locs hP hD hS => ?_)
  refine lv_istore (lv' := [(4, .int q3), (0, .ref h0), (1, .int x1), (2, .int x2), (3, .int x3)]) hx hb dX6_isWaiting_6 hl (by decide) rfl (fun ls hl => ?_)
  refine lv_aload_n hx hb dX6_isWaiting_8 rfl (lv_at hl 1 rfl) ?_
  refine lv_iload_n hx hb dX6_isWaiting_9 rfl (lv_at hl 2 rfl) ?_
  refine lv_iload_n hx hb dX6_isWaiting_10 rfl (lv_at hl 4 rfl) ?_
  obtain ⟨q11, hq11, hf⟩ := bd_some hf
  refine kcVi C (kX6_tokensOf (l := l) (D := D) (k := k) h0 h1 z0 z1 z2 z3 z4 z5 z6 z7 z8 z9 z10 z11 z12 z13 z14 z15 z16 z17 z18 v_page x1 x3 q11 hq11) mt_X6_tokensOf mw_876 ⟨rfl, rfl, Nat.le_of_ble_eq_true rfl, Nat.le_of_ble_eq_true rfl⟩ hP hD hS 0 rfl rfl rfl [0, 1] rfl rfl [some 0, some 1] rfl rfl (w2 := (wX6_isWaiting k h0 h1 z0 z1 z2 z3 z4 z5 z6 z7 z8 z9 z10 z11 z12 z13 z14 z15 z16 z17 z18 v_page)) rfl rfl rfl hl.1 (rest := []) (Nat.le_of_ble_eq_true rfl) rfl dX6_isWaiting_11 ⟨Nat.zero_le _, Nat.zero_le _⟩ (fun H locs hP hD hS => ?_)
  refine lv_iconst (v := (1 : Int32)) hx hb dX6_isWaiting_14 (by decide) ?_
  obtain ⟨v23, hv23, hf⟩ := bd_some hf
  have hj23 : ∀ (H : Heap) (locs : List Loc) (ls : Array Slot), va_P D vwCl (wX6_isWaiting k h0 h1 z0 z1 z2 z3 z4 z5 z6 z7 z8 z9 z10 z11 z12 z13 z14 z15 z16 z17 z18 v_page) H → va_D A (wX6_isWaiting k h0 h1 z0 z1 z2 z3 z4 z5 z6 z7 z8 z9 z10 z11 z12 z13 z14 z15 z16 z17 z18 v_page) → va_S A s.heap H locs → lv_has ls 7 [(0, .ref h0), (1, .int x1), (2, .int x2), (4, .int q3)] → W p l e ({ frames := 2, cells := 0, slots := 0, locals := 44 } : Room) s m args below meth c H locs 0 0 Q (F0 m 23 ls [.int v23]) := by
    intro H locs ls hP hD hS hl
    refine lv_istore (lv' := [(5, .int v23), (0, .ref h0), (1, .int x1), (2, .int x2), (4, .int q3)]) hx hb dX6_isWaiting_23 hl (by decide) rfl (fun ls hl => ?_)
    refine lv_aload_n hx hb dX6_isWaiting_25 rfl (lv_at hl 1 rfl) ?_
    refine kget C inX6 hP 0 rfl rfl 0 (by decide) mw_687 rfl dX6_isWaiting_26 ?_
    refine lv_iconst (v := (5 : Int32)) hx hb dX6_isWaiting_29 (by decide) ?_
    refine kiald C hP 1 rfl (by unfold vp_in; decide) dX6_isWaiting_30 (j := 5) (by decide) ?_
    by_cases hc0 : (v_page 5) = (0 : Int32)
    · rw [if_pos hc0] at hf
      refine lv_tableIn (tgt := 56) hx hb dX6_isWaiting_31 (by rw [hc0]; decide) (by rw [hc0]; decide) (by rw [hc0]; first | done | rfl) (by decide) ?_
      refine lv_iconst (v := (0 : Int32)) hx hb dX6_isWaiting_56 (by decide) ?_
      obtain rfl := Option.some.inj hf
      exact hret _ _ _ _ dX6_isWaiting_57 (by decide) hP hS
    · rw [if_neg hc0] at hf
      by_cases hc1 : (v_page 5) = (1 : Int32)
      · rw [if_pos hc1] at hf
        refine lv_tableIn (tgt := 58) hx hb dX6_isWaiting_31 (by rw [hc1]; decide) (by rw [hc1]; decide) (by rw [hc1]; first | done | rfl) (by decide) ?_
        refine lv_iload hx hb dX6_isWaiting_58 (lv_at hl 0 rfl) ?_
        obtain ⟨h01, hf⟩ := tf_some hf
        obtain rfl := Option.some.inj hf
        exact hret _ _ _ _ dX6_isWaiting_60 h01 hP hS
      · rw [if_neg hc1] at hf
        by_cases hc2 : (v_page 5) = (2 : Int32)
        · rw [if_pos hc2] at hf
          refine lv_tableIn (tgt := 61) hx hb dX6_isWaiting_31 (by rw [hc2]; decide) (by rw [hc2]; decide) (by rw [hc2]; first | done | rfl) (by decide) ?_
          refine lv_iload_n hx hb dX6_isWaiting_61 rfl (lv_at hl 2 rfl) ?_
          refine lv_iload hx hb dX6_isWaiting_62 (lv_at hl 4 rfl) ?_
          obtain ⟨v78, hv78, hf⟩ := bd_some hf
          have hj78 : ∀ (H : Heap) (locs : List Loc) (ls : Array Slot), va_P D vwCl (wX6_isWaiting k h0 h1 z0 z1 z2 z3 z4 z5 z6 z7 z8 z9 z10 z11 z12 z13 z14 z15 z16 z17 z18 v_page) H → va_D A (wX6_isWaiting k h0 h1 z0 z1 z2 z3 z4 z5 z6 z7 z8 z9 z10 z11 z12 z13 z14 z15 z16 z17 z18 v_page) → va_S A s.heap H locs → lv_has ls 7 [(0, .ref h0), (2, .int x2), (4, .int q3), (5, .int v23)] → W p l e ({ frames := 2, cells := 0, slots := 0, locals := 44 } : Room) s m args below meth c H locs 0 0 Q (F0 m 78 ls [.int v78]) := by
            intro H locs ls hP hD hS hl
            refine lv_istore (lv' := [(6, .int v78), (0, .ref h0), (2, .int x2), (4, .int q3), (5, .int v23)]) hx hb dX6_isWaiting_78 hl (by decide) rfl (fun ls hl => ?_)
            refine lv_iload hx hb dX6_isWaiting_80 (lv_at hl 4 rfl) ?_
            refine lv_if_eq (tgt := 119) hx hb dX6_isWaiting_82 (by decide) (fun hc => ?_) (fun hc => ?_)
            · rw [if_pos hc] at hf
              refine lv_iconst (v := (0 : Int32)) hx hb dX6_isWaiting_119 (by decide) ?_
              obtain rfl := Option.some.inj hf
              exact hret _ _ _ _ dX6_isWaiting_120 (by decide) hP hS
            · rw [if_neg hc] at hf
              refine lv_aload_n hx hb dX6_isWaiting_85 rfl (lv_at hl 1 rfl) ?_
              refine lv_iload_n hx hb dX6_isWaiting_86 rfl (lv_at hl 2 rfl) ?_
              refine lv_iload hx hb dX6_isWaiting_87 (lv_at hl 3 rfl) ?_
              obtain ⟨q89, hq89, hf⟩ := bd_some hf
              refine kcVi C (kX6_lastOf (l := l) (D := D) (k := k) h0 h1 z0 z1 z2 z3 z4 z5 z6 z7 z8 z9 z10 z11 z12 z13 z14 z15 z16 z17 z18 v_page x2 q3 q89 hq89) mt_X6_lastOf mw_901 ⟨rfl, rfl, Nat.le_of_ble_eq_true rfl, Nat.le_of_ble_eq_true rfl⟩ hP hD hS 0 rfl rfl rfl [0, 1] rfl rfl [some 0, some 1] rfl rfl (w2 := (wX6_isWaiting k h0 h1 z0 z1 z2 z3 z4 z5 z6 z7 z8 z9 z10 z11 z12 z13 z14 z15 z16 z17 z18 v_page)) rfl rfl rfl hl.1 (rest := []) (Nat.le_of_ble_eq_true rfl) rfl dX6_isWaiting_89 ⟨Nat.zero_le _, Nat.zero_le _⟩ (fun H locs hP hD hS => ?_)
              refine lv_if_lt (tgt := 115) hx hb dX6_isWaiting_92 (by decide) (fun hc => ?_) (fun hc => ?_)
              · rw [if_pos hc] at hf
                refine lv_iconst (v := (1 : Int32)) hx hb dX6_isWaiting_115 (by decide) ?_
                refine lv_goto (tgt := 120) hx hb dX6_isWaiting_116 (by decide) ?_
                obtain rfl := Option.some.inj hf
                exact hret _ _ _ _ dX6_isWaiting_120 (by decide) hP hS
              · rw [if_neg hc] at hf
                refine lv_aload_n hx hb dX6_isWaiting_95 rfl (lv_at hl 1 rfl) ?_
                refine lv_iload_n hx hb dX6_isWaiting_96 rfl (lv_at hl 2 rfl) ?_
                refine lv_iload hx hb dX6_isWaiting_97 (lv_at hl 3 rfl) ?_
                obtain ⟨q99, hq99, hf⟩ := bd_some hf
                refine kcVi C (kX6_lastOf (l := l) (D := D) (k := k) h0 h1 z0 z1 z2 z3 z4 z5 z6 z7 z8 z9 z10 z11 z12 z13 z14 z15 z16 z17 z18 v_page x2 q3 q99 hq99) mt_X6_lastOf mw_901 ⟨rfl, rfl, Nat.le_of_ble_eq_true rfl, Nat.le_of_ble_eq_true rfl⟩ hP hD hS 0 rfl rfl rfl [0, 1] rfl rfl [some 0, some 1] rfl rfl (w2 := (wX6_isWaiting k h0 h1 z0 z1 z2 z3 z4 z5 z6 z7 z8 z9 z10 z11 z12 z13 z14 z15 z16 z17 z18 v_page)) rfl rfl rfl hl.1 (rest := []) (Nat.le_of_ble_eq_true rfl) rfl dX6_isWaiting_99 ⟨Nat.zero_le _, Nat.zero_le _⟩ (fun H locs hP hD hS => ?_)
                refine lv_iload hx hb dX6_isWaiting_102 (lv_at hl 0 rfl) ?_
                refine lv_aload_n hx hb dX6_isWaiting_104 rfl (lv_at hl 1 rfl) ?_
                refine kget C inX6 hP 0 rfl rfl 0 (by decide) mw_687 rfl dX6_isWaiting_105 ?_
                refine lv_bipush (v := (7 : Int32)) hx hb dX6_isWaiting_108 (by decide) ?_
                refine kiald C hP 1 rfl (by unfold vp_in; decide) dX6_isWaiting_110 (j := 7) (by decide) ?_
                refine lv_iadd hx hb dX6_isWaiting_111 ?_
                refine lv_icmp_gt (tgt := 119) hx hb dX6_isWaiting_112 (by decide) (fun hc => ?_) (fun hc => ?_)
                · rw [if_pos hc] at hf
                  refine lv_iconst (v := (0 : Int32)) hx hb dX6_isWaiting_119 (by decide) ?_
                  obtain rfl := Option.some.inj hf
                  exact hret _ _ _ _ dX6_isWaiting_120 (by decide) hP hS
                · rw [if_neg hc] at hf
                  refine lv_iconst (v := (1 : Int32)) hx hb dX6_isWaiting_115 (by decide) ?_
                  refine lv_goto (tgt := 120) hx hb dX6_isWaiting_116 (by decide) ?_
                  obtain rfl := Option.some.inj hf
                  exact hret _ _ _ _ dX6_isWaiting_120 (by decide) hP hS
          clear hf
          have hf := hv78
          refine lv_icmp_ne (tgt := 71) hx hb dX6_isWaiting_64 (by decide) (fun hc => ?_) (fun hc => ?_)
          · rw [if_neg hc] at hf
            refine lv_aload_n hx hb dX6_isWaiting_71 rfl (lv_at hl 1 rfl) ?_
            refine lv_iload_n hx hb dX6_isWaiting_72 rfl (lv_at hl 2 rfl) ?_
            refine lv_iload hx hb dX6_isWaiting_73 (lv_at hl 4 rfl) ?_
            obtain ⟨q75, hq75, hf⟩ := bd_some hf
            refine kcVi C (kX6_lastOf (l := l) (D := D) (k := k) h0 h1 z0 z1 z2 z3 z4 z5 z6 z7 z8 z9 z10 z11 z12 z13 z14 z15 z16 z17 z18 v_page x1 q3 q75 hq75) mt_X6_lastOf mw_901 ⟨rfl, rfl, Nat.le_of_ble_eq_true rfl, Nat.le_of_ble_eq_true rfl⟩ hP hD hS 0 rfl rfl rfl [0, 1] rfl rfl [some 0, some 1] rfl rfl (w2 := (wX6_isWaiting k h0 h1 z0 z1 z2 z3 z4 z5 z6 z7 z8 z9 z10 z11 z12 z13 z14 z15 z16 z17 z18 v_page)) rfl rfl rfl hl.1 (rest := []) (Nat.le_of_ble_eq_true rfl) rfl dX6_isWaiting_75 ⟨Nat.zero_le _, Nat.zero_le _⟩ (fun H locs hP hD hS => ?_)
            obtain rfl := Option.some.inj hf
            exact hj78 _ _ _ hP hD hS (lv_sub hl [1, 3, 4, 0] rfl)
          · rw [if_pos hc] at hf
            refine lv_iconst (v := (-1 : Int32)) hx hb dX6_isWaiting_67 (by decide) ?_
            refine lv_goto (tgt := 78) hx hb dX6_isWaiting_68 (by decide) ?_
            obtain rfl := Option.some.inj hf
            exact hj78 _ _ _ hP hD hS (lv_sub hl [1, 3, 4, 0] rfl)
        · rw [if_neg hc2] at hf
          have hd : W p l e ({ frames := 2, cells := 0, slots := 0, locals := 44 } : Room) s m args below meth c H locs 0 0 Q (F0 m 121 ls []) := by
            refine lv_iconst (v := (1 : Int32)) hx hb dX6_isWaiting_121 (by decide) ?_
            obtain rfl := Option.some.inj hf
            exact hret _ _ _ _ dX6_isWaiting_122 (by decide) hP hS
          exact lv_tableOut (tgt := 121) hx hb dX6_isWaiting_31 (by have := lv_neT hc0 (show ((0 : Int32)).toInt = 0 from rfl); have := lv_neT hc1 (show ((1 : Int32)).toInt = 1 from rfl); have := lv_neT hc2 (show ((2 : Int32)).toInt = 2 from rfl); omega) (by decide) hd
  clear hf
  have hf := hv23
  refine lv_icmp_ne (tgt := 22) hx hb dX6_isWaiting_15 (by decide) (fun hc => ?_) (fun hc => ?_)
  · rw [if_neg hc] at hf
    refine lv_iconst (v := (0 : Int32)) hx hb dX6_isWaiting_22 (by decide) ?_
    obtain rfl := Option.some.inj hf
    exact hj23 _ _ _ hP hD hS (lv_sub hl [1, 2, 3, 0] rfl)
  · rw [if_pos hc] at hf
    refine lv_iconst (v := (1 : Int32)) hx hb dX6_isWaiting_18 (by decide) ?_
    refine lv_goto (tgt := 23) hx hb dX6_isWaiting_19 (by decide) ?_
    obtain rfl := Option.some.inj hf
    exact hj23 _ _ _ hP hD hS (lv_sub hl [1, 2, 3, 0] rfl)
set_option maxHeartbeats 4000000 in
set_option maxRecDepth 100000 in
theorem kX6_reason {l : Launch} {D : va_G} {k : Nat → ClassId} (h0 h1 : Nat) (z0 z1 z2 z3 z4 z5 z6 z7 z8 z9 z10 z11 z12 z13 z14 z15 z16 z17 z18 : Value) (v_page : Nat → Int32) (x1 : Int32) (x2 : Int32) (x3 : Int32) (x4 : Int32) (q : Int32) (hf : fX6_reason v_page x1 x2 x3 x4 = some q) : KMi l yX6_reason cX6_reason 6 (some .int) ({ frames := 4, cells := 0, slots := 0, locals := 90 } : Room) D k [.ref h0, .int x1, .int x2, .int x3, .int x4] (wX6_reason k h0 h1 z0 z1 z2 z3 z4 z5 z6 z7 z8 z9 z10 z11 z12 z13 z14 z15 z16 z17 z18 v_page) q (wX6_reason k h0 h1 z0 z1 z2 z3 z4 z5 z6 z7 z8 z9 z10 z11 z12 z13 z14 z15 z16 z17 z18 v_page) := by
  refine kent_i (by decide) (Nat.le_of_ble_eq_true rfl) ?_
  intro p e s m below meth c A Q ls C hP hD hS hl hret
  obtain ⟨hx, hb, -⟩ := id C
  have hl : lv_has ls 6 [(0, .ref h0), (1, .int x1), (2, .int x2), (3, .int x3), (4, .int x4)] := hl
  unfold fX6_reason at hf
  generalize ([.ref h0, .int x1, .int x2, .int x3, .int x4] : List Value).toArray = args at *
  refine lv_aload_n hx hb dX6_reason_0 rfl (lv_at hl 0 rfl) ?_
  refine lv_iload_n hx hb dX6_reason_1 rfl (lv_at hl 3 rfl) ?_
  refine lv_iconst (v := (2 : Int32)) hx hb dX6_reason_2 (by decide) ?_
  obtain ⟨q3, hq3, hf⟩ := bd_some hf
  refine kcVi C (kX6_ofLetter (l := l) (D := D) (k := k) h0 h1 z0 z1 z2 z3 z4 z5 z6 z7 z8 z9 z10 z11 z12 z13 z14 z15 z16 z17 z18 v_page x3 (2 : Int32) q3 hq3) mt_X6_ofLetter mw_839 ⟨rfl, rfl, Nat.le_of_ble_eq_true rfl, Nat.le_of_ble_eq_true rfl⟩ hP hD hS 0 rfl rfl rfl [0, 1] rfl rfl [some 0, some 1] rfl rfl (w2 := (wX6_reason k h0 h1 z0 z1 z2 z3 z4 z5 z6 z7 z8 z9 z10 z11 z12 z13 z14 z15 z16 z17 z18 v_page)) rfl rfl rfl hl.1 (rest := []) (Nat.le_of_ble_eq_true rfl) rfl dX6_reason_3 ⟨Nat.zero_le _, Nat.zero_le _⟩ (fun H locs hP hD hS => ?_)
  refine lv_iload_n hx hb dX6_reason_6 rfl (lv_at hl 2 rfl) ?_
  obtain ⟨v15, hv15, hf⟩ := bd_some hf
  have hj15 : ∀ (H : Heap) (locs : List Loc) (ls : Array Slot), va_P D vwCl (wX6_reason k h0 h1 z0 z1 z2 z3 z4 z5 z6 z7 z8 z9 z10 z11 z12 z13 z14 z15 z16 z17 z18 v_page) H → va_D A (wX6_reason k h0 h1 z0 z1 z2 z3 z4 z5 z6 z7 z8 z9 z10 z11 z12 z13 z14 z15 z16 z17 z18 v_page) → va_S A s.heap H locs → lv_has ls 6 [(0, .ref h0), (1, .int x1), (2, .int x2), (3, .int x3), (4, .int x4)] → W p l e ({ frames := 4, cells := 0, slots := 0, locals := 90 } : Room) s m args below meth c H locs 0 0 Q (F0 m 15 ls [.int v15]) := by
    intro H locs ls hP hD hS hl
    refine lv_istore (lv' := [(5, .int v15), (0, .ref h0), (1, .int x1), (2, .int x2), (3, .int x3), (4, .int x4)]) hx hb dX6_reason_15 hl (by decide) rfl (fun ls hl => ?_)
    refine lv_aload_n hx hb dX6_reason_17 rfl (lv_at hl 1 rfl) ?_
    refine lv_iload_n hx hb dX6_reason_18 rfl (lv_at hl 3 rfl) ?_
    refine lv_iload_n hx hb dX6_reason_19 rfl (lv_at hl 4 rfl) ?_
    obtain ⟨q20, hq20, hf⟩ := bd_some hf
    refine kcVi C (kX6_hasCopy (l := l) (D := D) (k := k) h0 h1 z0 z1 z2 z3 z4 z5 z6 z7 z8 z9 z10 z11 z12 z13 z14 z15 z16 z17 z18 v_page x2 x3 q20 hq20) mt_X6_hasCopy mw_819 ⟨rfl, rfl, Nat.le_of_ble_eq_true rfl, Nat.le_of_ble_eq_true rfl⟩ hP hD hS 0 rfl rfl rfl [0, 1] rfl rfl [some 0, some 1] rfl rfl (w2 := (wX6_reason k h0 h1 z0 z1 z2 z3 z4 z5 z6 z7 z8 z9 z10 z11 z12 z13 z14 z15 z16 z17 z18 v_page)) rfl rfl rfl hl.1 (rest := []) (Nat.le_of_ble_eq_true rfl) rfl dX6_reason_20 ⟨Nat.zero_le _, Nat.zero_le _⟩ (fun H locs hP hD hS => ?_)
    refine lv_if_eq (tgt := 28) hx hb dX6_reason_23 (by decide) (fun hc => ?_) (fun hc => ?_)
    · rw [if_pos hc] at hf
      refine lv_iload hx hb dX6_reason_28 (lv_at hl 0 rfl) ?_
      obtain ⟨u45, hv45, hf⟩ := lp_some hf
      have hr45 : ∀ t, u45 = .inl t → ∀ (H : Heap) (locs : List Loc) (ls : Array Slot) (pc : Nat), decode cX6_reason pc = .ok (.ireturn, 1) → va_P D vwCl (wX6_reason k h0 h1 z0 z1 z2 z3 z4 z5 z6 z7 z8 z9 z10 z11 z12 z13 z14 z15 z16 z17 z18 v_page) H → va_S A s.heap H locs → W p l e ({ frames := 4, cells := 0, slots := 0, locals := 90 } : Room) s m args below meth c H locs 0 0 Q (F0 m pc ls [.int t]) := by
        intro t ht H locs ls pc hdg hP hS
        subst ht
        obtain rfl := Option.some.inj hf
        exact hret _ _ _ _ hdg hP hS
      have hj45 : ∀ v45, u45 = .inr v45 → ∀ (H : Heap) (locs : List Loc) (ls : Array Slot), va_P D vwCl (wX6_reason k h0 h1 z0 z1 z2 z3 z4 z5 z6 z7 z8 z9 z10 z11 z12 z13 z14 z15 z16 z17 z18 v_page) H → va_D A (wX6_reason k h0 h1 z0 z1 z2 z3 z4 z5 z6 z7 z8 z9 z10 z11 z12 z13 z14 z15 z16 z17 z18 v_page) → va_S A s.heap H locs → lv_has ls 6 [(0, .ref h0), (2, .int x2), (3, .int x3), (4, .int x4), (5, .int v15)] → W p l e ({ frames := 4, cells := 0, slots := 0, locals := 90 } : Room) s m args below meth c H locs 0 0 Q (F0 m 45 ls []) := by
        intro v45 ht H locs ls hP hD hS hl
        subst ht
        refine lv_aload_n hx hb dX6_reason_45 rfl (lv_at hl 0 rfl) ?_
        refine lv_iload_n hx hb dX6_reason_46 rfl (lv_at hl 2 rfl) ?_
        refine lv_iconst (v := (3 : Int32)) hx hb dX6_reason_47 (by decide) ?_
        obtain ⟨q48, hq48, hf⟩ := bd_some hf
        refine kcVi C (kX6_ofLetter (l := l) (D := D) (k := k) h0 h1 z0 z1 z2 z3 z4 z5 z6 z7 z8 z9 z10 z11 z12 z13 z14 z15 z16 z17 z18 v_page x3 (3 : Int32) q48 hq48) mt_X6_ofLetter mw_839 ⟨rfl, rfl, Nat.le_of_ble_eq_true rfl, Nat.le_of_ble_eq_true rfl⟩ hP hD hS 0 rfl rfl rfl [0, 1] rfl rfl [some 0, some 1] rfl rfl (w2 := (wX6_reason k h0 h1 z0 z1 z2 z3 z4 z5 z6 z7 z8 z9 z10 z11 z12 z13 z14 z15 z16 z17 z18 v_page)) rfl rfl rfl hl.1 (rest := []) (Nat.le_of_ble_eq_true rfl) rfl dX6_reason_48 ⟨Nat.zero_le _, Nat.zero_le _⟩ (fun H locs hP hD hS => ?_)
        refine lv_iload hx hb dX6_reason_51 (lv_at hl 3 rfl) ?_
        refine lv_icmp_le (tgt := 58) hx hb dX6_reason_53 (by decide) (fun hc => ?_) (fun hc => ?_)
        · rw [if_pos hc] at hf
          refine lv_iload hx hb dX6_reason_58 (lv_at hl 4 rfl) ?_
          refine lv_if_ne (tgt := 81) hx hb dX6_reason_60 (by decide) (fun hc => ?_) (fun hc => ?_)
          · rw [if_neg hc] at hf
            refine lv_iconst (v := (0 : Int32)) hx hb dX6_reason_81 (by decide) ?_
            obtain rfl := Option.some.inj hf
            exact hret _ _ _ _ dX6_reason_82 hP hS
          · rw [if_pos hc] at hf
            refine lv_aload_n hx hb dX6_reason_63 rfl (lv_at hl 0 rfl) ?_
            refine lv_iload_n hx hb dX6_reason_64 rfl (lv_at hl 1 rfl) ?_
            refine lv_aload_n hx hb dX6_reason_65 rfl (lv_at hl 0 rfl) ?_
            refine lv_iload_n hx hb dX6_reason_66 rfl (lv_at hl 2 rfl) ?_
            refine lv_iconst (v := (3 : Int32)) hx hb dX6_reason_67 (by decide) ?_
            obtain ⟨q68, hq68, hf⟩ := bd_some hf
            refine kcVi C (kX6_ofLetter (l := l) (D := D) (k := k) h0 h1 z0 z1 z2 z3 z4 z5 z6 z7 z8 z9 z10 z11 z12 z13 z14 z15 z16 z17 z18 v_page x3 (3 : Int32) q68 hq68) mt_X6_ofLetter mw_839 ⟨rfl, rfl, Nat.le_of_ble_eq_true rfl, Nat.le_of_ble_eq_true rfl⟩ hP hD hS 0 rfl rfl rfl [0, 1] rfl rfl [some 0, some 1] rfl rfl (w2 := (wX6_reason k h0 h1 z0 z1 z2 z3 z4 z5 z6 z7 z8 z9 z10 z11 z12 z13 z14 z15 z16 z17 z18 v_page)) rfl rfl rfl hl.1 (rest := [.int x2, .ref h0]) (Nat.le_of_ble_eq_true rfl) rfl dX6_reason_68 ⟨Nat.zero_le _, Nat.zero_le _⟩ (fun H locs hP hD hS => ?_)
            obtain ⟨q71, hq71, hf⟩ := bd_some hf
            refine kcVi C (kX6_roomless (l := l) (D := D) (k := k) h0 h1 z0 z1 z2 z3 z4 z5 z6 z7 z8 z9 z10 z11 z12 z13 z14 z15 z16 z17 z18 v_page x2 q68 q71 hq71) mt_X6_roomless mw_930 ⟨rfl, rfl, Nat.le_of_ble_eq_true rfl, Nat.le_of_ble_eq_true rfl⟩ hP hD hS 0 rfl rfl rfl [0, 1] rfl rfl [some 0, some 1] rfl rfl (w2 := (wX6_reason k h0 h1 z0 z1 z2 z3 z4 z5 z6 z7 z8 z9 z10 z11 z12 z13 z14 z15 z16 z17 z18 v_page)) rfl rfl rfl hl.1 (rest := []) (Nat.le_of_ble_eq_true rfl) rfl dX6_reason_71 ⟨Nat.zero_le _, Nat.zero_le _⟩ (fun H locs hP hD hS => ?_)
            refine lv_if_le (tgt := 81) hx hb dX6_reason_74 (by decide) (fun hc => ?_) (fun hc => ?_)
            · rw [if_pos hc] at hf
              refine lv_iconst (v := (0 : Int32)) hx hb dX6_reason_81 (by decide) ?_
              obtain rfl := Option.some.inj hf
              exact hret _ _ _ _ dX6_reason_82 hP hS
            · rw [if_neg hc] at hf
              refine lv_iconst (v := (4 : Int32)) hx hb dX6_reason_77 (by decide) ?_
              refine lv_goto (tgt := 82) hx hb dX6_reason_78 (by decide) ?_
              obtain rfl := Option.some.inj hf
              exact hret _ _ _ _ dX6_reason_82 hP hS
        · rw [if_neg hc] at hf
          refine lv_iconst (v := (3 : Int32)) hx hb dX6_reason_56 (by decide) ?_
          obtain rfl := Option.some.inj hf
          exact hret _ _ _ _ dX6_reason_57 hP hS
      clear hf
      have hf := hv45
      refine lv_if_ne (tgt := 45) hx hb dX6_reason_30 (by decide) (fun hc => ?_) (fun hc => ?_)
      · rw [if_neg hc] at hf
        obtain rfl := Option.some.inj hf
        exact hj45 _ rfl _ _ _ hP hD hS (lv_sub hl [1, 3, 4, 5, 0] rfl)
      · rw [if_pos hc] at hf
        refine lv_aload_n hx hb dX6_reason_33 rfl (lv_at hl 1 rfl) ?_
        refine lv_iload_n hx hb dX6_reason_34 rfl (lv_at hl 2 rfl) ?_
        refine lv_iload_n hx hb dX6_reason_35 rfl (lv_at hl 3 rfl) ?_
        refine lv_iload_n hx hb dX6_reason_36 rfl (lv_at hl 4 rfl) ?_
        obtain ⟨q37, hq37, hf⟩ := bd_some hf
        refine kcVi C (kX6_isWaiting (l := l) (D := D) (k := k) h0 h1 z0 z1 z2 z3 z4 z5 z6 z7 z8 z9 z10 z11 z12 z13 z14 z15 z16 z17 z18 v_page x1 x2 x3 q37 hq37) mt_X6_isWaiting mw_926 ⟨rfl, rfl, Nat.le_of_ble_eq_true rfl, Nat.le_of_ble_eq_true rfl⟩ hP hD hS 0 rfl rfl rfl [0, 1] rfl rfl [some 0, some 1] rfl rfl (w2 := (wX6_reason k h0 h1 z0 z1 z2 z3 z4 z5 z6 z7 z8 z9 z10 z11 z12 z13 z14 z15 z16 z17 z18 v_page)) rfl rfl rfl hl.1 (rest := []) (Nat.le_of_ble_eq_true rfl) rfl dX6_reason_37 ⟨Nat.zero_le _, Nat.zero_le _⟩ (fun H locs hP hD hS => ?_)
        refine lv_if_eq (tgt := 45) hx hb dX6_reason_40 (by decide) (fun hc => ?_) (fun hc => ?_)
        · rw [if_pos hc] at hf
          obtain rfl := Option.some.inj hf
          exact hj45 _ rfl _ _ _ hP hD hS (lv_sub hl [1, 3, 4, 5, 0] rfl)
        · rw [if_neg hc] at hf
          refine lv_iconst (v := (2 : Int32)) hx hb dX6_reason_43 (by decide) ?_
          obtain rfl := Option.some.inj hf
          exact hr45 _ rfl _ _ _ _ dX6_reason_44 hP hS
    · rw [if_neg hc] at hf
      refine lv_iconst (v := (1 : Int32)) hx hb dX6_reason_26 (by decide) ?_
      obtain rfl := Option.some.inj hf
      exact hret _ _ _ _ dX6_reason_27 hP hS
  clear hf
  have hf := hv15
  refine lv_icmp_ne (tgt := 14) hx hb dX6_reason_7 (by decide) (fun hc => ?_) (fun hc => ?_)
  · rw [if_neg hc] at hf
    refine lv_iconst (v := (0 : Int32)) hx hb dX6_reason_14 (by decide) ?_
    obtain rfl := Option.some.inj hf
    exact hj15 _ _ _ hP hD hS (lv_sub hl [0, 1, 2, 3, 4] rfl)
  · rw [if_pos hc] at hf
    refine lv_iconst (v := (1 : Int32)) hx hb dX6_reason_10 (by decide) ?_
    refine lv_goto (tgt := 15) hx hb dX6_reason_11 (by decide) ?_
    obtain rfl := Option.some.inj hf
    exact hj15 _ _ _ hP hD hS (lv_sub hl [0, 1, 2, 3, 4] rfl)
set_option maxHeartbeats 4000000 in
set_option maxRecDepth 100000 in
theorem kX6_notes {l : Launch} {D : va_G} {k : Nat → ClassId} (h0 h1 : Nat) (z0 z1 z2 z3 z4 z5 z6 z7 z8 z9 z10 z11 z12 z13 z14 z15 z16 z17 z18 : Value) (v_page : Nat → Int32) (x1 : Int32) (x2 : Int32) (q : (Nat → Int32)) (hf : fX6_notes v_page x1 x2 = some q) : KMv l yX6_notes cX6_notes 3 ({ frames := 0, cells := 0, slots := 0, locals := 0 } : Room) D k [.ref h0, .int x1, .int x2] (wX6_notes k h0 h1 z0 z1 z2 z3 z4 z5 z6 z7 z8 z9 z10 z11 z12 z13 z14 z15 z16 z17 z18 v_page) (wX6_notes k h0 h1 z0 z1 z2 z3 z4 z5 z6 z7 z8 z9 z10 z11 z12 z13 z14 z15 z16 z17 z18 q) := by
  refine kent_v (by decide) (Nat.le_of_ble_eq_true rfl) ?_
  intro p e s m below meth c A Q ls C hP hD hS hl hret
  obtain ⟨hx, hb, -⟩ := id C
  have hl : lv_has ls 3 [(0, .ref h0), (1, .int x1), (2, .int x2)] := hl
  unfold fX6_notes at hf
  generalize ([.ref h0, .int x1, .int x2] : List Value).toArray = args at *
  refine lv_aload_n hx hb dX6_notes_0 rfl (lv_at hl 0 rfl) ?_
  refine kget C inX6 hP 0 rfl rfl 0 (by decide) mw_687 rfl dX6_notes_1 ?_
  refine lv_sipush (v := (639 : Int32)) hx hb dX6_notes_4 (by decide) ?_
  refine lv_bipush (v := (16 : Int32)) hx hb dX6_notes_7 (by decide) ?_
  refine lv_iload_n hx hb dX6_notes_9 rfl (lv_at hl 1 rfl) ?_
  refine lv_imul hx hb dX6_notes_10 ?_
  refine lv_iadd hx hb dX6_notes_11 ?_
  refine lv_iload_n hx hb dX6_notes_12 rfl (lv_at hl 2 rfl) ?_
  refine lv_iadd hx hb dX6_notes_13 ?_
  refine lv_iconst (v := (1 : Int32)) hx hb dX6_notes_14 (by decide) ?_
  obtain ⟨hin, hf⟩ := gd_some hf
  obtain ⟨v_page_15, hn15, hf⟩ := nm_some hf
  refine kiast C hP hD hS 1 rfl hin dX6_notes_15 (j := (((639 : Int32) + ((16 : Int32) * x1)) + x2).toNatClampNeg) rfl (g := v_page_15) hn15 (w2 := (wX6_notes k h0 h1 z0 z1 z2 z3 z4 z5 z6 z7 z8 z9 z10 z11 z12 z13 z14 z15 z16 z17 z18 v_page_15)) rfl (fun H locs hP hD hS => ?_)
  obtain rfl := Option.some.inj hf
  exact hret _ _ _ _ dX6_notes_16 hP hS
set_option maxHeartbeats 4000000 in
set_option maxRecDepth 100000 in
theorem kX6_hands {l : Launch} {D : va_G} {k : Nat → ClassId} (h0 h1 : Nat) (z0 z1 z2 z3 z4 z5 z6 z7 z8 z9 z10 z11 z12 z13 z14 z15 z16 z17 z18 : Value) (v_page : Nat → Int32) (x1 : Int32) (x2 : Int32) (x3 : Int32) (q : (Nat → Int32)) (hf : fX6_hands v_page x1 x2 x3 = some q) : KMv l yX6_hands cX6_hands 6 ({ frames := 4, cells := 0, slots := 0, locals := 92 } : Room) D k [.ref h0, .int x1, .int x2, .int x3] (wX6_hands k h0 h1 z0 z1 z2 z3 z4 z5 z6 z7 z8 z9 z10 z11 z12 z13 z14 z15 z16 z17 z18 v_page) (wX6_hands k h0 h1 z0 z1 z2 z3 z4 z5 z6 z7 z8 z9 z10 z11 z12 z13 z14 z15 z16 z17 z18 q) := by
  refine kent_v (by decide) (Nat.le_of_ble_eq_true rfl) ?_
  intro p e s m below meth c A Q ls C hP hD hS hl hret
  obtain ⟨hx, hb, -⟩ := id C
  have hl : lv_has ls 6 [(0, .ref h0), (1, .int x1), (2, .int x2), (3, .int x3)] := hl
  unfold fX6_hands at hf
  generalize ([.ref h0, .int x1, .int x2, .int x3] : List Value).toArray = args at *
  refine lv_aload_n hx hb dX6_hands_0 rfl (lv_at hl 0 rfl) ?_
  refine kget C inX6 hP 0 rfl rfl 0 (by decide) mw_687 rfl dX6_hands_1 ?_
  refine lv_bipush (v := (8 : Int32)) hx hb dX6_hands_4 (by decide) ?_
  refine lv_dup2_11 hx hb dX6_hands_6 rfl rfl ?_
  refine kiald C hP 1 rfl (by unfold vp_in; decide) dX6_hands_7 (j := 8) (by decide) ?_
  refine lv_iconst (v := (1 : Int32)) hx hb dX6_hands_8 (by decide) ?_
  refine lv_iadd hx hb dX6_hands_9 ?_
  obtain ⟨v_page_10, hn10, hf⟩ := nm_some hf
  refine kiast C hP hD hS 1 rfl (by unfold vp_in; decide) dX6_hands_10 (j := 8) (by decide) (g := v_page_10) hn10 (w2 := (wX6_hands k h0 h1 z0 z1 z2 z3 z4 z5 z6 z7 z8 z9 z10 z11 z12 z13 z14 z15 z16 z17 z18 v_page_10)) rfl (fun H locs hP hD hS => ?_)
  refine lv_aload_n hx hb dX6_hands_11 rfl (lv_at hl 0 rfl) ?_
  refine lv_iload_n hx hb dX6_hands_12 rfl (lv_at hl 1 rfl) ?_
  refine lv_iload_n hx hb dX6_hands_13 rfl (lv_at hl 3 rfl) ?_
  obtain ⟨q14, hq14, hf⟩ := bd_some hf
  refine kcVi C (kX6_tokensOf (l := l) (D := D) (k := k) h0 h1 z0 z1 z2 z3 z4 z5 z6 z7 z8 z9 z10 z11 z12 z13 z14 z15 z16 z17 z18 v_page_10 x1 x3 q14 hq14) mt_X6_tokensOf mw_876 ⟨rfl, rfl, Nat.le_of_ble_eq_true rfl, Nat.le_of_ble_eq_true rfl⟩ hP hD hS 0 rfl rfl rfl [0, 1] rfl rfl [some 0, some 1] rfl rfl (w2 := (wX6_hands k h0 h1 z0 z1 z2 z3 z4 z5 z6 z7 z8 z9 z10 z11 z12 z13 z14 z15 z16 z17 z18 v_page_10)) rfl rfl rfl hl.1 (rest := []) (Nat.le_of_ble_eq_true rfl) rfl dX6_hands_14 ⟨Nat.zero_le _, Nat.zero_le _⟩ (fun H locs hP hD hS => ?_)
  refine lv_istore (lv' := [(4, .int q14), (0, .ref h0), (1, .int x1), (2, .int x2), (3, .int x3)]) hx hb dX6_hands_17 hl (by decide) rfl (fun ls hl => ?_)
  refine lv_aload_n hx hb dX6_hands_19 rfl (lv_at hl 1 rfl) ?_
  refine lv_iload_n hx hb dX6_hands_20 rfl (lv_at hl 2 rfl) ?_
  refine lv_iload_n hx hb dX6_hands_21 rfl (lv_at hl 4 rfl) ?_
  obtain ⟨q22, hq22, hf⟩ := bd_some hf
  refine kcVi C (kX6_hopsOf (l := l) (D := D) (k := k) h0 h1 z0 z1 z2 z3 z4 z5 z6 z7 z8 z9 z10 z11 z12 z13 z14 z15 z16 z17 z18 v_page_10 x1 x3 q22 hq22) mt_X6_hopsOf mw_889 ⟨rfl, rfl, Nat.le_of_ble_eq_true rfl, Nat.le_of_ble_eq_true rfl⟩ hP hD hS 0 rfl rfl rfl [0, 1] rfl rfl [some 0, some 1] rfl rfl (w2 := (wX6_hands k h0 h1 z0 z1 z2 z3 z4 z5 z6 z7 z8 z9 z10 z11 z12 z13 z14 z15 z16 z17 z18 v_page_10)) rfl rfl rfl hl.1 (rest := []) (Nat.le_of_ble_eq_true rfl) rfl dX6_hands_22 ⟨Nat.zero_le _, Nat.zero_le _⟩ (fun H locs hP hD hS => ?_)
  refine lv_iconst (v := (1 : Int32)) hx hb dX6_hands_25 (by decide) ?_
  refine lv_iadd hx hb dX6_hands_26 ?_
  refine lv_istore (lv' := [(5, .int (q22 + (1 : Int32))), (4, .int q14), (0, .ref h0), (1, .int x1), (2, .int x2), (3, .int x3)]) hx hb dX6_hands_27 hl (by decide) rfl (fun ls hl => ?_)
  refine lv_aload_n hx hb dX6_hands_29 rfl (lv_at hl 2 rfl) ?_
  refine lv_iload_n hx hb dX6_hands_30 rfl (lv_at hl 5 rfl) ?_
  refine lv_iconst (v := (2 : Int32)) hx hb dX6_hands_31 (by decide) ?_
  obtain ⟨q32, hq32, hf⟩ := bd_some hf
  refine kcVi C (kX6_ofLetter (l := l) (D := D) (k := k) h0 h1 z0 z1 z2 z3 z4 z5 z6 z7 z8 z9 z10 z11 z12 z13 z14 z15 z16 z17 z18 v_page_10 x3 (2 : Int32) q32 hq32) mt_X6_ofLetter mw_839 ⟨rfl, rfl, Nat.le_of_ble_eq_true rfl, Nat.le_of_ble_eq_true rfl⟩ hP hD hS 0 rfl rfl rfl [0, 1] rfl rfl [some 0, some 1] rfl rfl (w2 := (wX6_hands k h0 h1 z0 z1 z2 z3 z4 z5 z6 z7 z8 z9 z10 z11 z12 z13 z14 z15 z16 z17 z18 v_page_10)) rfl rfl rfl hl.1 (rest := []) (Nat.le_of_ble_eq_true rfl) rfl dX6_hands_32 ⟨Nat.zero_le _, Nat.zero_le _⟩ (fun H locs hP hD hS => ?_)
  refine lv_iload_n hx hb dX6_hands_35 rfl (lv_at hl 4 rfl) ?_
  refine lv_icmp_ne (tgt := 142) hx hb dX6_hands_36 (by decide) (fun hc => ?_) (fun hc => ?_)
  · rw [if_neg hc] at hf
    refine lv_aload_n hx hb dX6_hands_142 rfl (lv_at hl 2 rfl) ?_
    refine lv_iload_n hx hb dX6_hands_143 rfl (lv_at hl 4 rfl) ?_
    refine lv_aload_n hx hb dX6_hands_144 rfl (lv_at hl 2 rfl) ?_
    refine lv_iload_n hx hb dX6_hands_145 rfl (lv_at hl 5 rfl) ?_
    refine lv_iconst (v := (3 : Int32)) hx hb dX6_hands_146 (by decide) ?_
    obtain ⟨q147, hq147, hf⟩ := bd_some hf
    refine kcVi C (kX6_ofLetter (l := l) (D := D) (k := k) h0 h1 z0 z1 z2 z3 z4 z5 z6 z7 z8 z9 z10 z11 z12 z13 z14 z15 z16 z17 z18 v_page_10 x3 (3 : Int32) q147 hq147) mt_X6_ofLetter mw_839 ⟨rfl, rfl, Nat.le_of_ble_eq_true rfl, Nat.le_of_ble_eq_true rfl⟩ hP hD hS 0 rfl rfl rfl [0, 1] rfl rfl [some 0, some 1] rfl rfl (w2 := (wX6_hands k h0 h1 z0 z1 z2 z3 z4 z5 z6 z7 z8 z9 z10 z11 z12 z13 z14 z15 z16 z17 z18 v_page_10)) rfl rfl rfl hl.1 (rest := [.int x2, .ref h0]) (Nat.le_of_ble_eq_true rfl) rfl dX6_hands_147 ⟨Nat.zero_le _, Nat.zero_le _⟩ (fun H locs hP hD hS => ?_)
    obtain ⟨q150, hq150, hf⟩ := bd_some hf
    refine kcVv C (kX6_makesRoom (l := l) (D := D) (k := k) h0 h1 z0 z1 z2 z3 z4 z5 z6 z7 z8 z9 z10 z11 z12 z13 z14 z15 z16 z17 z18 v_page_10 x2 q147 q150 hq150) mt_X6_makesRoom mw_956 ⟨rfl, rfl, Nat.le_of_ble_eq_true rfl, Nat.le_of_ble_eq_true rfl⟩ hP hD hS 0 rfl rfl rfl [0, 1] rfl rfl [some 0, some 1] rfl rfl (w2 := (wX6_hands k h0 h1 z0 z1 z2 z3 z4 z5 z6 z7 z8 z9 z10 z11 z12 z13 z14 z15 z16 z17 z18 q150)) rfl rfl rfl hl.1 (rest := []) (Nat.le_of_ble_eq_true rfl) rfl dX6_hands_150 ⟨Nat.zero_le _, Nat.zero_le _⟩ (fun H locs hP hD hS => ?_)
    refine lv_iload hx hb dX6_hands_153 (lv_at hl 1 rfl) ?_
    refine lv_iconst (v := (1 : Int32)) hx hb dX6_hands_155 (by decide) ?_
    refine lv_icmp_le (tgt := 192) hx hb dX6_hands_156 (by decide) (fun hc => ?_) (fun hc => ?_)
    · rw [if_pos hc] at hf
      refine lv_aload_n hx hb dX6_hands_192 rfl (lv_at hl 2 rfl) ?_
      refine lv_iload_n hx hb dX6_hands_193 rfl (lv_at hl 4 rfl) ?_
      refine lv_iload_n hx hb dX6_hands_194 rfl (lv_at hl 5 rfl) ?_
      refine lv_iconst (v := (1 : Int32)) hx hb dX6_hands_195 (by decide) ?_
      refine lv_iload hx hb dX6_hands_196 (lv_at hl 0 rfl) ?_
      obtain ⟨q198, hq198, hf⟩ := bd_some hf
      refine kcVv C (kX6_comes (l := l) (D := D) (k := k) h0 h1 z0 z1 z2 z3 z4 z5 z6 z7 z8 z9 z10 z11 z12 z13 z14 z15 z16 z17 z18 q150 x2 x3 (1 : Int32) (q22 + (1 : Int32)) q198 hq198) mt_X6_comes mw_968 ⟨rfl, rfl, Nat.le_of_ble_eq_true rfl, Nat.le_of_ble_eq_true rfl⟩ hP hD hS 0 rfl rfl rfl [0, 1] rfl rfl [some 0, some 1] rfl rfl (w2 := (wX6_hands k h0 h1 z0 z1 z2 z3 z4 z5 z6 z7 z8 z9 z10 z11 z12 z13 z14 z15 z16 z17 z18 q198)) rfl rfl rfl hl.1 (rest := []) (Nat.le_of_ble_eq_true rfl) rfl dX6_hands_198 ⟨Nat.zero_le _, Nat.zero_le _⟩ (fun H locs hP hD hS => ?_)
      refine lv_aload_n hx hb dX6_hands_201 rfl (lv_at hl 2 rfl) ?_
      refine kget C inX6 hP 0 rfl rfl 0 (by decide) mw_687 rfl dX6_hands_202 ?_
      refine lv_iconst (v := (5 : Int32)) hx hb dX6_hands_205 (by decide) ?_
      refine kiald C hP 1 rfl (by unfold vp_in; decide) dX6_hands_206 (j := 5) (by decide) ?_
      refine lv_iconst (v := (2 : Int32)) hx hb dX6_hands_207 (by decide) ?_
      refine lv_icmp_ne (tgt := 217) hx hb dX6_hands_208 (by decide) (fun hc => ?_) (fun hc => ?_)
      · rw [if_neg hc] at hf
        obtain rfl := Option.some.inj hf
        exact hret _ _ _ _ dX6_hands_217 hP hS
      · rw [if_pos hc] at hf
        refine lv_aload_n hx hb dX6_hands_211 rfl (lv_at hl 2 rfl) ?_
        refine lv_iload_n hx hb dX6_hands_212 rfl (lv_at hl 3 rfl) ?_
        refine lv_iload_n hx hb dX6_hands_213 rfl (lv_at hl 5 rfl) ?_
        obtain ⟨q214, hq214, hf⟩ := bd_some hf
        refine kcVv C (kX6_goes (l := l) (D := D) (k := k) h0 h1 z0 z1 z2 z3 z4 z5 z6 z7 z8 z9 z10 z11 z12 z13 z14 z15 z16 z17 z18 q198 x1 x3 q214 hq214) mt_X6_goes mw_948 ⟨rfl, rfl, Nat.le_of_ble_eq_true rfl, Nat.le_of_ble_eq_true rfl⟩ hP hD hS 0 rfl rfl rfl [0, 1] rfl rfl [some 0, some 1] rfl rfl (w2 := (wX6_hands k h0 h1 z0 z1 z2 z3 z4 z5 z6 z7 z8 z9 z10 z11 z12 z13 z14 z15 z16 z17 z18 q214)) rfl rfl rfl hl.1 (rest := []) (Nat.le_of_ble_eq_true rfl) rfl dX6_hands_214 ⟨Nat.zero_le _, Nat.zero_le _⟩ (fun H locs hP hD hS => ?_)
        obtain rfl := Option.some.inj hf
        exact hret _ _ _ _ dX6_hands_217 hP hS
    · rw [if_neg hc] at hf
      refine lv_aload_n hx hb dX6_hands_159 rfl (lv_at hl 2 rfl) ?_
      refine lv_iload_n hx hb dX6_hands_160 rfl (lv_at hl 4 rfl) ?_
      refine lv_iload_n hx hb dX6_hands_161 rfl (lv_at hl 5 rfl) ?_
      refine lv_iload hx hb dX6_hands_162 (lv_at hl 1 rfl) ?_
      refine lv_iconst (v := (2 : Int32)) hx hb dX6_hands_164 (by decide) ?_
      refine lv_idiv hx hb dX6_hands_165 (by decide) ?_
      refine lv_iload hx hb dX6_hands_166 (lv_at hl 0 rfl) ?_
      obtain ⟨q168, hq168, hf⟩ := bd_some hf
      refine kcVv C (kX6_comes (l := l) (D := D) (k := k) h0 h1 z0 z1 z2 z3 z4 z5 z6 z7 z8 z9 z10 z11 z12 z13 z14 z15 z16 z17 z18 q150 x2 x3 (q14 / (2 : Int32)) (q22 + (1 : Int32)) q168 hq168) mt_X6_comes mw_968 ⟨rfl, rfl, Nat.le_of_ble_eq_true rfl, Nat.le_of_ble_eq_true rfl⟩ hP hD hS 0 rfl rfl rfl [0, 1] rfl rfl [some 0, some 1] rfl rfl (w2 := (wX6_hands k h0 h1 z0 z1 z2 z3 z4 z5 z6 z7 z8 z9 z10 z11 z12 z13 z14 z15 z16 z17 z18 q168)) rfl rfl rfl hl.1 (rest := []) (Nat.le_of_ble_eq_true rfl) rfl dX6_hands_168 ⟨Nat.zero_le _, Nat.zero_le _⟩ (fun H locs hP hD hS => ?_)
      refine lv_aload_n hx hb dX6_hands_171 rfl (lv_at hl 2 rfl) ?_
      refine kget C inX6 hP 0 rfl rfl 0 (by decide) mw_687 rfl dX6_hands_172 ?_
      refine lv_aload_n hx hb dX6_hands_175 rfl (lv_at hl 2 rfl) ?_
      refine lv_iload_n hx hb dX6_hands_176 rfl (lv_at hl 3 rfl) ?_
      refine lv_iload_n hx hb dX6_hands_177 rfl (lv_at hl 5 rfl) ?_
      obtain ⟨q178, hq178, hf⟩ := bd_some hf
      refine kcVi C (kX6_copyAt (l := l) (D := D) (k := k) h0 x1 x3 q178 hq178) mt_X6_copyAt mw_823 ⟨rfl, rfl, Nat.le_of_ble_eq_true rfl, Nat.le_of_ble_eq_true rfl⟩ hP hD hS 0 rfl rfl rfl [] rfl rfl [none, none] rfl rfl (w2 := (wX6_hands k h0 h1 z0 z1 z2 z3 z4 z5 z6 z7 z8 z9 z10 z11 z12 z13 z14 z15 z16 z17 z18 q168)) rfl rfl rfl hl.1 (rest := [.ref h1]) (Nat.le_of_ble_eq_true rfl) rfl dX6_hands_178 ⟨Nat.zero_le _, Nat.zero_le _⟩ (fun H locs hP hD hS => ?_)
      refine lv_iload hx hb dX6_hands_181 (lv_at hl 1 rfl) ?_
      refine lv_iload hx hb dX6_hands_183 (lv_at hl 1 rfl) ?_
      refine lv_iconst (v := (2 : Int32)) hx hb dX6_hands_185 (by decide) ?_
      refine lv_idiv hx hb dX6_hands_186 (by decide) ?_
      refine lv_isub hx hb dX6_hands_187 ?_
      obtain ⟨hin, hf⟩ := gd_some hf
      obtain ⟨v_page_188, hn188, hf⟩ := nm_some hf
      refine kiast C hP hD hS 1 rfl hin dX6_hands_188 (j := q178.toNatClampNeg) rfl (g := v_page_188) hn188 (w2 := (wX6_hands k h0 h1 z0 z1 z2 z3 z4 z5 z6 z7 z8 z9 z10 z11 z12 z13 z14 z15 z16 z17 z18 v_page_188)) rfl (fun H locs hP hD hS => ?_)
      refine lv_goto (tgt := 217) hx hb dX6_hands_189 (by decide) ?_
      obtain rfl := Option.some.inj hf
      exact hret _ _ _ _ dX6_hands_217 hP hS
  · rw [if_pos hc] at hf
    refine lv_aload_n hx hb dX6_hands_39 rfl (lv_at hl 2 rfl) ?_
    refine lv_iload_n hx hb dX6_hands_40 rfl (lv_at hl 5 rfl) ?_
    refine lv_bipush (v := (6 : Int32)) hx hb dX6_hands_41 (by decide) ?_
    obtain ⟨q43, hq43, hf⟩ := bd_some hf
    refine kcVi C (kX6_ofLetter (l := l) (D := D) (k := k) h0 h1 z0 z1 z2 z3 z4 z5 z6 z7 z8 z9 z10 z11 z12 z13 z14 z15 z16 z17 z18 v_page_10 x3 (6 : Int32) q43 hq43) mt_X6_ofLetter mw_839 ⟨rfl, rfl, Nat.le_of_ble_eq_true rfl, Nat.le_of_ble_eq_true rfl⟩ hP hD hS 0 rfl rfl rfl [0, 1] rfl rfl [some 0, some 1] rfl rfl (w2 := (wX6_hands k h0 h1 z0 z1 z2 z3 z4 z5 z6 z7 z8 z9 z10 z11 z12 z13 z14 z15 z16 z17 z18 v_page_10)) rfl rfl rfl hl.1 (rest := []) (Nat.le_of_ble_eq_true rfl) rfl dX6_hands_43 ⟨Nat.zero_le _, Nat.zero_le _⟩ (fun H locs hP hD hS => ?_)
    refine lv_bipush (v := (-4 : Int32)) hx hb dX6_hands_46 (by decide) ?_
    obtain ⟨v123, hv123, hf⟩ := bd_some hf
    have hj123 : ∀ (H : Heap) (locs : List Loc) (ls : Array Slot), va_P D vwCl (wX6_hands k h0 h1 z0 z1 z2 z3 z4 z5 z6 z7 z8 z9 z10 z11 z12 z13 z14 z15 z16 z17 z18 v123) H → va_D A (wX6_hands k h0 h1 z0 z1 z2 z3 z4 z5 z6 z7 z8 z9 z10 z11 z12 z13 z14 z15 z16 z17 z18 v123) → va_S A s.heap H locs → lv_has ls 6 [(0, .ref h0), (1, .int x1), (2, .int x2), (3, .int x3)] → W p l e ({ frames := 4, cells := 0, slots := 0, locals := 92 } : Room) s m args below meth c H locs 0 0 Q (F0 m 123 ls []) := by
      intro H locs ls hP hD hS hl
      refine lv_aload_n hx hb dX6_hands_123 rfl (lv_at hl 0 rfl) ?_
      refine lv_iload_n hx hb dX6_hands_124 rfl (lv_at hl 1 rfl) ?_
      refine lv_iload_n hx hb dX6_hands_125 rfl (lv_at hl 3 rfl) ?_
      obtain ⟨q126, hq126, hf⟩ := bd_some hf
      refine kcVv C (kX6_goes (l := l) (D := D) (k := k) h0 h1 z0 z1 z2 z3 z4 z5 z6 z7 z8 z9 z10 z11 z12 z13 z14 z15 z16 z17 z18 v123 x1 x3 q126 hq126) mt_X6_goes mw_948 ⟨rfl, rfl, Nat.le_of_ble_eq_true rfl, Nat.le_of_ble_eq_true rfl⟩ hP hD hS 0 rfl rfl rfl [0, 1] rfl rfl [some 0, some 1] rfl rfl (w2 := (wX6_hands k h0 h1 z0 z1 z2 z3 z4 z5 z6 z7 z8 z9 z10 z11 z12 z13 z14 z15 z16 z17 z18 q126)) rfl rfl rfl hl.1 (rest := []) (Nat.le_of_ble_eq_true rfl) rfl dX6_hands_126 ⟨Nat.zero_le _, Nat.zero_le _⟩ (fun H locs hP hD hS => ?_)
      refine lv_aload_n hx hb dX6_hands_129 rfl (lv_at hl 0 rfl) ?_
      refine lv_iload_n hx hb dX6_hands_130 rfl (lv_at hl 1 rfl) ?_
      refine lv_iload_n hx hb dX6_hands_131 rfl (lv_at hl 3 rfl) ?_
      obtain ⟨q132, hq132, hf⟩ := bd_some hf
      refine kcVv C (kX6_notes (l := l) (D := D) (k := k) h0 h1 z0 z1 z2 z3 z4 z5 z6 z7 z8 z9 z10 z11 z12 z13 z14 z15 z16 z17 z18 q126 x1 x3 q132 hq132) mt_X6_notes mw_980 ⟨rfl, rfl, Nat.le_of_ble_eq_true rfl, Nat.le_of_ble_eq_true rfl⟩ hP hD hS 0 rfl rfl rfl [0, 1] rfl rfl [some 0, some 1] rfl rfl (w2 := (wX6_hands k h0 h1 z0 z1 z2 z3 z4 z5 z6 z7 z8 z9 z10 z11 z12 z13 z14 z15 z16 z17 z18 q132)) rfl rfl rfl hl.1 (rest := []) (Nat.le_of_ble_eq_true rfl) rfl dX6_hands_132 ⟨Nat.zero_le _, Nat.zero_le _⟩ (fun H locs hP hD hS => ?_)
      refine lv_aload_n hx hb dX6_hands_135 rfl (lv_at hl 0 rfl) ?_
      refine lv_iload_n hx hb dX6_hands_136 rfl (lv_at hl 2 rfl) ?_
      refine lv_iload_n hx hb dX6_hands_137 rfl (lv_at hl 3 rfl) ?_
      obtain ⟨q138, hq138, hf⟩ := bd_some hf
      refine kcVv C (kX6_notes (l := l) (D := D) (k := k) h0 h1 z0 z1 z2 z3 z4 z5 z6 z7 z8 z9 z10 z11 z12 z13 z14 z15 z16 z17 z18 q132 x2 x3 q138 hq138) mt_X6_notes mw_980 ⟨rfl, rfl, Nat.le_of_ble_eq_true rfl, Nat.le_of_ble_eq_true rfl⟩ hP hD hS 0 rfl rfl rfl [0, 1] rfl rfl [some 0, some 1] rfl rfl (w2 := (wX6_hands k h0 h1 z0 z1 z2 z3 z4 z5 z6 z7 z8 z9 z10 z11 z12 z13 z14 z15 z16 z17 z18 q138)) rfl rfl rfl hl.1 (rest := []) (Nat.le_of_ble_eq_true rfl) rfl dX6_hands_138 ⟨Nat.zero_le _, Nat.zero_le _⟩ (fun H locs hP hD hS => ?_)
      obtain rfl := Option.some.inj hf
      exact hret _ _ _ _ dX6_hands_141 hP hS
    clear hf
    have hf := hv123
    refine lv_icmp_ne (tgt := 123) hx hb dX6_hands_48 (by decide) (fun hc => ?_) (fun hc => ?_)
    · rw [if_neg hc] at hf
      obtain rfl := Option.some.inj hf
      exact hj123 _ _ _ hP hD hS (lv_sub hl [2, 3, 4, 5] rfl)
    · rw [if_pos hc] at hf
      refine lv_aload_n hx hb dX6_hands_51 rfl (lv_at hl 2 rfl) ?_
      refine kget C inX6 hP 0 rfl rfl 0 (by decide) mw_687 rfl dX6_hands_52 ?_
      refine lv_bipush (v := (127 : Int32)) hx hb dX6_hands_55 (by decide) ?_
      refine lv_bipush (v := (8 : Int32)) hx hb dX6_hands_57 (by decide) ?_
      refine lv_iload_n hx hb dX6_hands_59 rfl (lv_at hl 5 rfl) ?_
      refine lv_imul hx hb dX6_hands_60 ?_
      refine lv_iadd hx hb dX6_hands_61 ?_
      refine lv_bipush (v := (6 : Int32)) hx hb dX6_hands_62 (by decide) ?_
      refine lv_iadd hx hb dX6_hands_64 ?_
      refine lv_aload_n hx hb dX6_hands_65 rfl (lv_at hl 2 rfl) ?_
      refine kget C inX6 hP 0 rfl rfl 0 (by decide) mw_687 rfl dX6_hands_66 ?_
      refine lv_iconst (v := (3 : Int32)) hx hb dX6_hands_69 (by decide) ?_
      refine kiald C hP 1 rfl (by unfold vp_in; decide) dX6_hands_70 (j := 3) (by decide) ?_
      obtain ⟨hin, hf⟩ := gd_some hf
      obtain ⟨v_page_71, hn71, hf⟩ := nm_some hf
      refine kiast C hP hD hS 1 rfl hin dX6_hands_71 (j := (((127 : Int32) + ((8 : Int32) * x3)) + (6 : Int32)).toNatClampNeg) rfl (g := v_page_71) hn71 (w2 := (wX6_hands k h0 h1 z0 z1 z2 z3 z4 z5 z6 z7 z8 z9 z10 z11 z12 z13 z14 z15 z16 z17 z18 v_page_71)) rfl (fun H locs hP hD hS => ?_)
      refine lv_aload_n hx hb dX6_hands_72 rfl (lv_at hl 2 rfl) ?_
      refine kget C inX6 hP 0 rfl rfl 0 (by decide) mw_687 rfl dX6_hands_73 ?_
      refine lv_bipush (v := (127 : Int32)) hx hb dX6_hands_76 (by decide) ?_
      refine lv_bipush (v := (8 : Int32)) hx hb dX6_hands_78 (by decide) ?_
      refine lv_iload_n hx hb dX6_hands_80 rfl (lv_at hl 5 rfl) ?_
      refine lv_imul hx hb dX6_hands_81 ?_
      refine lv_iadd hx hb dX6_hands_82 ?_
      refine lv_bipush (v := (7 : Int32)) hx hb dX6_hands_83 (by decide) ?_
      refine lv_iadd hx hb dX6_hands_85 ?_
      refine lv_iload hx hb dX6_hands_86 (lv_at hl 0 rfl) ?_
      obtain ⟨hin, hf⟩ := gd_some hf
      obtain ⟨v_page_88, hn88, hf⟩ := nm_some hf
      refine kiast C hP hD hS 1 rfl hin dX6_hands_88 (j := (((127 : Int32) + ((8 : Int32) * x3)) + (7 : Int32)).toNatClampNeg) rfl (g := v_page_88) hn88 (w2 := (wX6_hands k h0 h1 z0 z1 z2 z3 z4 z5 z6 z7 z8 z9 z10 z11 z12 z13 z14 z15 z16 z17 z18 v_page_88)) rfl (fun H locs hP hD hS => ?_)
      refine lv_aload_n hx hb dX6_hands_89 rfl (lv_at hl 2 rfl) ?_
      refine kget C inX6 hP 0 rfl rfl 0 (by decide) mw_687 rfl dX6_hands_90 ?_
      refine lv_bipush (v := (9 : Int32)) hx hb dX6_hands_93 (by decide) ?_
      refine lv_dup2_11 hx hb dX6_hands_95 rfl rfl ?_
      refine kiald C hP 1 rfl (by unfold vp_in; decide) dX6_hands_96 (j := 9) (by decide) ?_
      refine lv_iconst (v := (1 : Int32)) hx hb dX6_hands_97 (by decide) ?_
      refine lv_iadd hx hb dX6_hands_98 ?_
      obtain ⟨v_page_99, hn99, hf⟩ := nm_some hf
      refine kiast C hP hD hS 1 rfl (by unfold vp_in; decide) dX6_hands_99 (j := 9) (by decide) (g := v_page_99) hn99 (w2 := (wX6_hands k h0 h1 z0 z1 z2 z3 z4 z5 z6 z7 z8 z9 z10 z11 z12 z13 z14 z15 z16 z17 z18 v_page_99)) rfl (fun H locs hP hD hS => ?_)
      refine lv_aload_n hx hb dX6_hands_100 rfl (lv_at hl 2 rfl) ?_
      refine kget C inX6 hP 0 rfl rfl 0 (by decide) mw_687 rfl dX6_hands_101 ?_
      refine lv_bipush (v := (15 : Int32)) hx hb dX6_hands_104 (by decide) ?_
      refine lv_dup2_11 hx hb dX6_hands_106 rfl rfl ?_
      refine kiald C hP 1 rfl (by unfold vp_in; decide) dX6_hands_107 (j := 15) (by decide) ?_
      refine lv_aload_n hx hb dX6_hands_108 rfl (lv_at hl 2 rfl) ?_
      refine kget C inX6 hP 0 rfl rfl 0 (by decide) mw_687 rfl dX6_hands_109 ?_
      refine lv_iconst (v := (3 : Int32)) hx hb dX6_hands_112 (by decide) ?_
      refine kiald C hP 1 rfl (by unfold vp_in; decide) dX6_hands_113 (j := 3) (by decide) ?_
      refine lv_aload_n hx hb dX6_hands_114 rfl (lv_at hl 2 rfl) ?_
      refine lv_iload_n hx hb dX6_hands_115 rfl (lv_at hl 5 rfl) ?_
      refine lv_iconst (v := (0 : Int32)) hx hb dX6_hands_116 (by decide) ?_
      obtain ⟨q117, hq117, hf⟩ := bd_some hf
      refine kcVi C (kX6_ofLetter (l := l) (D := D) (k := k) h0 h1 z0 z1 z2 z3 z4 z5 z6 z7 z8 z9 z10 z11 z12 z13 z14 z15 z16 z17 z18 v_page_99 x3 (0 : Int32) q117 hq117) mt_X6_ofLetter mw_839 ⟨rfl, rfl, Nat.le_of_ble_eq_true rfl, Nat.le_of_ble_eq_true rfl⟩ hP hD hS 0 rfl rfl rfl [0, 1] rfl rfl [some 0, some 1] rfl rfl (w2 := (wX6_hands k h0 h1 z0 z1 z2 z3 z4 z5 z6 z7 z8 z9 z10 z11 z12 z13 z14 z15 z16 z17 z18 v_page_99)) rfl rfl rfl hl.1 (rest := [.int (v_page_99 3), .int (v_page_99 15), .int (15 : Int32), .ref h1]) (Nat.le_of_ble_eq_true rfl) rfl dX6_hands_117 ⟨Nat.zero_le _, Nat.zero_le _⟩ (fun H locs hP hD hS => ?_)
      refine lv_isub hx hb dX6_hands_120 ?_
      refine lv_iadd hx hb dX6_hands_121 ?_
      obtain ⟨v_page_122, hn122, hf⟩ := nm_some hf
      refine kiast C hP hD hS 1 rfl (by unfold vp_in; decide) dX6_hands_122 (j := 15) (by decide) (g := v_page_122) hn122 (w2 := (wX6_hands k h0 h1 z0 z1 z2 z3 z4 z5 z6 z7 z8 z9 z10 z11 z12 z13 z14 z15 z16 z17 z18 v_page_122)) rfl (fun H locs hP hD hS => ?_)
      obtain rfl := Option.some.inj hf
      exact hj123 _ _ _ hP hD hS (lv_sub hl [2, 3, 4, 5] rfl)
set_option maxHeartbeats 4000000 in
set_option maxRecDepth 100000 in
theorem wX6_nextOf_6 {p : Program} {l : Launch} {e : Env} {s : State} {m : MethodId} {args : Array Value} {below : List Frame} {meth : Method} {c : Code} {A : Nat → Prop} {Q : State → Prop} {D : va_G} {k : Nat → ClassId} (C : Cx p s m args c cX6_nextOf 7 RX6 A D k) (h0 h1 h2 : Nat) (z0 z1 z2 z3 z4 z5 z6 z7 z8 z9 z10 z11 z12 z13 z14 z15 z16 z17 : Value) (v_page : Nat → Int32) (v_isLeft : Nat → Int32) (y1 : Int32) (y2 : Int32) : ∀ (f : Nat) (y3 : Int32) (y4 : Int32) (ex : (Int32)) (H : Heap) (locs : List Loc) (ls : Array Slot), fX6_nextOf_6 v_page v_isLeft y1 y2 f y3 y4 = some ex → va_P D vwCl (wX6_nextOf k h0 h1 h2 z0 z1 z2 z3 z4 z5 z6 z7 z8 z9 z10 z11 z12 z13 z14 z15 z16 z17 v_page v_isLeft) H → va_D A (wX6_nextOf k h0 h1 h2 z0 z1 z2 z3 z4 z5 z6 z7 z8 z9 z10 z11 z12 z13 z14 z15 z16 z17 v_page v_isLeft) → va_S A s.heap H locs → lv_has ls 7 [(0, .ref h0), (1, .int y1), (2, .int y2), (3, .int y3), (4, .int y4)] → (∀ (H : Heap) (locs : List Loc) (ls : Array Slot), va_P D vwCl (wX6_nextOf k h0 h1 h2 z0 z1 z2 z3 z4 z5 z6 z7 z8 z9 z10 z11 z12 z13 z14 z15 z16 z17 v_page v_isLeft) H → va_D A (wX6_nextOf k h0 h1 h2 z0 z1 z2 z3 z4 z5 z6 z7 z8 z9 z10 z11 z12 z13 z14 z15 z16 z17 v_page v_isLeft) → va_S A s.heap H locs → lv_has ls 7 [(3, .int ex)] → W p l e ({ frames := 2, cells := 0, slots := 0, locals := 44 } : Room) s m args below meth c H locs 0 0 Q (F0 m 120 ls [])) → W p l e ({ frames := 2, cells := 0, slots := 0, locals := 44 } : Room) s m args below meth c H locs 0 0 Q (F0 m 6 ls []) := by
  obtain ⟨hx, hb, -⟩ := id C
  intro f
  induction f with
  | zero =>
    intro y3 y4 ex H locs ls hf hP hD hS hl hk
    cases hf
  | succ f ih =>
    intro y3 y4 ex H locs ls hf hP hD hS hl hk
    rw [fX6_nextOf_6] at hf
    refine lv_iload hx hb dX6_nextOf_6 (lv_at hl 4 rfl) ?_
    refine lv_aload_n hx hb dX6_nextOf_8 rfl (lv_at hl 0 rfl) ?_
    refine kget C inX6 hP 0 rfl rfl 0 (by decide) mw_687 rfl dX6_nextOf_9 ?_
    refine lv_iconst (v := (2 : Int32)) hx hb dX6_nextOf_12 (by decide) ?_
    refine kiald C hP 1 rfl (by unfold vp_in; decide) dX6_nextOf_13 (j := 2) (by decide) ?_
    refine lv_icmp_ge (tgt := 120) hx hb dX6_nextOf_14 (by decide) (fun hc => ?_) (fun hc => ?_)
    · rw [if_pos hc] at hf
      obtain rfl := Option.some.inj hf
      exact hk _ _ _ hP hD hS (lv_sub hl [3] rfl)
    · rw [if_neg hc] at hf
      refine lv_aload_n hx hb dX6_nextOf_17 rfl (lv_at hl 0 rfl) ?_
      refine kget C inX6 hP 0 rfl rfl 15 (by decide) mw_702 rfl dX6_nextOf_18 ?_
      refine lv_iload hx hb dX6_nextOf_21 (lv_at hl 4 rfl) ?_
      obtain ⟨hin, hf⟩ := gd_some hf
      refine kzald C hP 2 rfl hin dX6_nextOf_23 (j := y4.toNatClampNeg) rfl ?_
      refine lv_if_eq (tgt := 114) hx hb dX6_nextOf_24 (by decide) (fun hc => ?_) (fun hc => ?_)
      · rw [if_pos hc] at hf
        refine lv_iinc (v := (y4 + (1 : Int32))) (lv' := [(4, .int (y4 + (1 : Int32))), (0, .ref h0), (1, .int y1), (2, .int y2), (3, .int y3)]) hx hb dX6_nextOf_114 hl (k := 4) rfl rfl (by decide) rfl (fun ls hl => ?_)
        refine lv_goto (tgt := 6) hx hb dX6_nextOf_117 (by decide) ?_
        exact ih y3 (y4 + (1 : Int32)) _ _ _ _ hf hP hD hS (lv_sub hl [1, 2, 3, 4, 0] rfl) hk
      · rw [if_neg hc] at hf
        refine lv_aload_n hx hb dX6_nextOf_27 rfl (lv_at hl 0 rfl) ?_
        refine lv_iload hx hb dX6_nextOf_28 (lv_at hl 4 rfl) ?_
        refine lv_iconst (v := (2 : Int32)) hx hb dX6_nextOf_30 (by decide) ?_
        obtain ⟨q31, hq31, hf⟩ := bd_some hf
        refine kcVi C (kX6_ofLetter (l := l) (D := D) (k := k) h0 h1 z0 z1 z2 z3 z4 z5 z6 z7 z8 z9 z10 z11 z12 z13 (.ref h2) z14 z15 z16 z17 v_page y4 (2 : Int32) q31 hq31) mt_X6_ofLetter mw_839 ⟨rfl, rfl, Nat.le_of_ble_eq_true rfl, Nat.le_of_ble_eq_true rfl⟩ hP hD hS 0 rfl rfl rfl [0, 1] rfl rfl [some 0, some 1, none] rfl rfl (w2 := (wX6_nextOf k h0 h1 h2 z0 z1 z2 z3 z4 z5 z6 z7 z8 z9 z10 z11 z12 z13 z14 z15 z16 z17 v_page v_isLeft)) rfl rfl rfl hl.1 (rest := []) (Nat.le_of_ble_eq_true rfl) rfl dX6_nextOf_31 ⟨Nat.zero_le _, Nat.zero_le _⟩ (fun H locs hP hD hS => ?_)
        refine lv_iload_n hx hb dX6_nextOf_34 rfl (lv_at hl 2 rfl) ?_
        obtain ⟨v43, hv43, hf⟩ := bd_some hf
        have hj43 : ∀ (H : Heap) (locs : List Loc) (ls : Array Slot), va_P D vwCl (wX6_nextOf k h0 h1 h2 z0 z1 z2 z3 z4 z5 z6 z7 z8 z9 z10 z11 z12 z13 z14 z15 z16 z17 v_page v_isLeft) H → va_D A (wX6_nextOf k h0 h1 h2 z0 z1 z2 z3 z4 z5 z6 z7 z8 z9 z10 z11 z12 z13 z14 z15 z16 z17 v_page v_isLeft) → va_S A s.heap H locs → lv_has ls 7 [(0, .ref h0), (1, .int y1), (2, .int y2), (3, .int y3), (4, .int y4)] → W p l e ({ frames := 2, cells := 0, slots := 0, locals := 44 } : Room) s m args below meth c H locs 0 0 Q (F0 m 43 ls [.int v43]) := by
          intro H locs ls hP hD hS hl
          refine lv_istore (lv' := [(5, .int v43), (0, .ref h0), (1, .int y1), (2, .int y2), (3, .int y3), (4, .int y4)]) hx hb dX6_nextOf_43 hl (by decide) rfl (fun ls hl => ?_)
          refine lv_iload_n hx hb dX6_nextOf_45 rfl (lv_at hl 4 rfl) ?_
          refine lv_bipush (v := (-4 : Int32)) hx hb dX6_nextOf_46 (by decide) ?_
          obtain ⟨v66, hv66, hf⟩ := bd_some hf
          have hj66 : ∀ (H : Heap) (locs : List Loc) (ls : Array Slot), va_P D vwCl (wX6_nextOf k h0 h1 h2 z0 z1 z2 z3 z4 z5 z6 z7 z8 z9 z10 z11 z12 z13 z14 z15 z16 z17 v_page v_isLeft) H → va_D A (wX6_nextOf k h0 h1 h2 z0 z1 z2 z3 z4 z5 z6 z7 z8 z9 z10 z11 z12 z13 z14 z15 z16 z17 v_page v_isLeft) → va_S A s.heap H locs → lv_has ls 7 [(0, .ref h0), (1, .int y1), (2, .int y2), (3, .int y3), (4, .int y4), (5, .int v43)] → W p l e ({ frames := 2, cells := 0, slots := 0, locals := 44 } : Room) s m args below meth c H locs 0 0 Q (F0 m 66 ls [.int v66]) := by
            intro H locs ls hP hD hS hl
            refine lv_istore (lv' := [(6, .int v66), (0, .ref h0), (1, .int y1), (2, .int y2), (3, .int y3), (4, .int y4), (5, .int v43)]) hx hb dX6_nextOf_66 hl (by decide) rfl (fun ls hl => ?_)
            refine lv_iload_n hx hb dX6_nextOf_68 rfl (lv_at hl 4 rfl) ?_
            refine lv_bipush (v := (-4 : Int32)) hx hb dX6_nextOf_69 (by decide) ?_
            refine lv_icmp_eq (tgt := 107) hx hb dX6_nextOf_71 (by decide) (fun hc => ?_) (fun hc => ?_)
            · rw [if_pos hc] at hf
              refine lv_iload hx hb dX6_nextOf_107 (lv_at hl 5 rfl) ?_
              refine lv_goto (tgt := 113) hx hb dX6_nextOf_109 (by decide) ?_
              refine lv_istore_n (lv' := [(3, .int y4), (6, .int v66), (0, .ref h0), (1, .int y1), (2, .int y2), (4, .int y4), (5, .int v43)]) hx hb dX6_nextOf_113 rfl hl (by decide) rfl (fun ls hl => ?_)
              refine lv_iinc (v := (y4 + (1 : Int32))) (lv' := [(4, .int (y4 + (1 : Int32))), (3, .int y4), (6, .int v66), (0, .ref h0), (1, .int y1), (2, .int y2), (5, .int v43)]) hx hb dX6_nextOf_114 hl (k := 5) rfl rfl (by decide) rfl (fun ls hl => ?_)
              refine lv_goto (tgt := 6) hx hb dX6_nextOf_117 (by decide) ?_
              exact ih y4 (y4 + (1 : Int32)) _ _ _ _ hf hP hD hS (lv_sub hl [3, 4, 5, 1, 0] rfl) hk
            · rw [if_neg hc] at hf
              refine lv_iload hx hb dX6_nextOf_74 (lv_at hl 6 rfl) ?_
              refine lv_if_eq (tgt := 84) hx hb dX6_nextOf_76 (by decide) (fun hc => ?_) (fun hc => ?_)
              · rw [if_pos hc] at hf
                refine lv_iload hx hb dX6_nextOf_84 (lv_at hl 6 rfl) ?_
                refine lv_iload hx hb dX6_nextOf_86 (lv_at hl 0 rfl) ?_
                refine lv_icmp_ne (tgt := 112) hx hb dX6_nextOf_88 (by decide) (fun hc => ?_) (fun hc => ?_)
                · rw [if_neg hc] at hf
                  refine lv_iload_n hx hb dX6_nextOf_112 rfl (lv_at hl 4 rfl) ?_
                  refine lv_istore_n (lv' := [(3, .int y3), (6, .int v66), (0, .ref h0), (1, .int y1), (2, .int y2), (4, .int y4), (5, .int v43)]) hx hb dX6_nextOf_113 rfl hl (by decide) rfl (fun ls hl => ?_)
                  refine lv_iinc (v := (y4 + (1 : Int32))) (lv' := [(4, .int (y4 + (1 : Int32))), (3, .int y3), (6, .int v66), (0, .ref h0), (1, .int y1), (2, .int y2), (5, .int v43)]) hx hb dX6_nextOf_114 hl (k := 5) rfl rfl (by decide) rfl (fun ls hl => ?_)
                  refine lv_goto (tgt := 6) hx hb dX6_nextOf_117 (by decide) ?_
                  exact ih y3 (y4 + (1 : Int32)) _ _ _ _ hf hP hD hS (lv_sub hl [3, 4, 5, 1, 0] rfl) hk
                · rw [if_pos hc] at hf
                  refine lv_aload_n hx hb dX6_nextOf_91 rfl (lv_at hl 1 rfl) ?_
                  refine lv_iload_n hx hb dX6_nextOf_92 rfl (lv_at hl 2 rfl) ?_
                  refine lv_iload hx hb dX6_nextOf_93 (lv_at hl 5 rfl) ?_
                  obtain ⟨q95, hq95, hf⟩ := bd_some hf
                  refine kcVi C (kX6_hopsOf (l := l) (D := D) (k := k) h0 h1 z0 z1 z2 z3 z4 z5 z6 z7 z8 z9 z10 z11 z12 z13 (.ref h2) z14 z15 z16 z17 v_page y1 y4 q95 hq95) mt_X6_hopsOf mw_889 ⟨rfl, rfl, Nat.le_of_ble_eq_true rfl, Nat.le_of_ble_eq_true rfl⟩ hP hD hS 0 rfl rfl rfl [0, 1] rfl rfl [some 0, some 1, none] rfl rfl (w2 := (wX6_nextOf k h0 h1 h2 z0 z1 z2 z3 z4 z5 z6 z7 z8 z9 z10 z11 z12 z13 z14 z15 z16 z17 v_page v_isLeft)) rfl rfl rfl hl.1 (rest := []) (Nat.le_of_ble_eq_true rfl) rfl dX6_nextOf_95 ⟨Nat.zero_le _, Nat.zero_le _⟩ (fun H locs hP hD hS => ?_)
                  refine lv_aload_n hx hb dX6_nextOf_98 rfl (lv_at hl 1 rfl) ?_
                  refine lv_iload_n hx hb dX6_nextOf_99 rfl (lv_at hl 2 rfl) ?_
                  refine lv_iload_n hx hb dX6_nextOf_100 rfl (lv_at hl 4 rfl) ?_
                  obtain ⟨q101, hq101, hf⟩ := bd_some hf
                  refine kcVi C (kX6_hopsOf (l := l) (D := D) (k := k) h0 h1 z0 z1 z2 z3 z4 z5 z6 z7 z8 z9 z10 z11 z12 z13 (.ref h2) z14 z15 z16 z17 v_page y1 y3 q101 hq101) mt_X6_hopsOf mw_889 ⟨rfl, rfl, Nat.le_of_ble_eq_true rfl, Nat.le_of_ble_eq_true rfl⟩ hP hD hS 0 rfl rfl rfl [0, 1] rfl rfl [some 0, some 1, none] rfl rfl (w2 := (wX6_nextOf k h0 h1 h2 z0 z1 z2 z3 z4 z5 z6 z7 z8 z9 z10 z11 z12 z13 z14 z15 z16 z17 v_page v_isLeft)) rfl rfl rfl hl.1 (rest := [.int q95]) (Nat.le_of_ble_eq_true rfl) rfl dX6_nextOf_101 ⟨Nat.zero_le _, Nat.zero_le _⟩ (fun H locs hP hD hS => ?_)
                  refine lv_icmp_ge (tgt := 112) hx hb dX6_nextOf_104 (by decide) (fun hc => ?_) (fun hc => ?_)
                  · rw [if_pos hc] at hf
                    refine lv_iload_n hx hb dX6_nextOf_112 rfl (lv_at hl 4 rfl) ?_
                    refine lv_istore_n (lv' := [(3, .int y3), (6, .int v66), (0, .ref h0), (1, .int y1), (2, .int y2), (4, .int y4), (5, .int v43)]) hx hb dX6_nextOf_113 rfl hl (by decide) rfl (fun ls hl => ?_)
                    refine lv_iinc (v := (y4 + (1 : Int32))) (lv' := [(4, .int (y4 + (1 : Int32))), (3, .int y3), (6, .int v66), (0, .ref h0), (1, .int y1), (2, .int y2), (5, .int v43)]) hx hb dX6_nextOf_114 hl (k := 5) rfl rfl (by decide) rfl (fun ls hl => ?_)
                    refine lv_goto (tgt := 6) hx hb dX6_nextOf_117 (by decide) ?_
                    exact ih y3 (y4 + (1 : Int32)) _ _ _ _ hf hP hD hS (lv_sub hl [3, 4, 5, 1, 0] rfl) hk
                  · rw [if_neg hc] at hf
                    refine lv_iload hx hb dX6_nextOf_107 (lv_at hl 5 rfl) ?_
                    refine lv_goto (tgt := 113) hx hb dX6_nextOf_109 (by decide) ?_
                    refine lv_istore_n (lv' := [(3, .int y4), (6, .int v66), (0, .ref h0), (1, .int y1), (2, .int y2), (4, .int y4), (5, .int v43)]) hx hb dX6_nextOf_113 rfl hl (by decide) rfl (fun ls hl => ?_)
                    refine lv_iinc (v := (y4 + (1 : Int32))) (lv' := [(4, .int (y4 + (1 : Int32))), (3, .int y4), (6, .int v66), (0, .ref h0), (1, .int y1), (2, .int y2), (5, .int v43)]) hx hb dX6_nextOf_114 hl (k := 5) rfl rfl (by decide) rfl (fun ls hl => ?_)
                    refine lv_goto (tgt := 6) hx hb dX6_nextOf_117 (by decide) ?_
                    exact ih y4 (y4 + (1 : Int32)) _ _ _ _ hf hP hD hS (lv_sub hl [3, 4, 5, 1, 0] rfl) hk
              · rw [if_neg hc] at hf
                refine lv_iload hx hb dX6_nextOf_79 (lv_at hl 0 rfl) ?_
                refine lv_if_eq (tgt := 107) hx hb dX6_nextOf_81 (by decide) (fun hc => ?_) (fun hc => ?_)
                · rw [if_pos hc] at hf
                  refine lv_iload hx hb dX6_nextOf_107 (lv_at hl 5 rfl) ?_
                  refine lv_goto (tgt := 113) hx hb dX6_nextOf_109 (by decide) ?_
                  refine lv_istore_n (lv' := [(3, .int y4), (6, .int v66), (0, .ref h0), (1, .int y1), (2, .int y2), (4, .int y4), (5, .int v43)]) hx hb dX6_nextOf_113 rfl hl (by decide) rfl (fun ls hl => ?_)
                  refine lv_iinc (v := (y4 + (1 : Int32))) (lv' := [(4, .int (y4 + (1 : Int32))), (3, .int y4), (6, .int v66), (0, .ref h0), (1, .int y1), (2, .int y2), (5, .int v43)]) hx hb dX6_nextOf_114 hl (k := 5) rfl rfl (by decide) rfl (fun ls hl => ?_)
                  refine lv_goto (tgt := 6) hx hb dX6_nextOf_117 (by decide) ?_
                  exact ih y4 (y4 + (1 : Int32)) _ _ _ _ hf hP hD hS (lv_sub hl [3, 4, 5, 1, 0] rfl) hk
                · rw [if_neg hc] at hf
                  refine lv_iload hx hb dX6_nextOf_84 (lv_at hl 6 rfl) ?_
                  refine lv_iload hx hb dX6_nextOf_86 (lv_at hl 0 rfl) ?_
                  refine lv_icmp_ne (tgt := 112) hx hb dX6_nextOf_88 (by decide) (fun hc => ?_) (fun hc => ?_)
                  · rw [if_neg hc] at hf
                    refine lv_iload_n hx hb dX6_nextOf_112 rfl (lv_at hl 4 rfl) ?_
                    refine lv_istore_n (lv' := [(3, .int y3), (6, .int v66), (0, .ref h0), (1, .int y1), (2, .int y2), (4, .int y4), (5, .int v43)]) hx hb dX6_nextOf_113 rfl hl (by decide) rfl (fun ls hl => ?_)
                    refine lv_iinc (v := (y4 + (1 : Int32))) (lv' := [(4, .int (y4 + (1 : Int32))), (3, .int y3), (6, .int v66), (0, .ref h0), (1, .int y1), (2, .int y2), (5, .int v43)]) hx hb dX6_nextOf_114 hl (k := 5) rfl rfl (by decide) rfl (fun ls hl => ?_)
                    refine lv_goto (tgt := 6) hx hb dX6_nextOf_117 (by decide) ?_
                    exact ih y3 (y4 + (1 : Int32)) _ _ _ _ hf hP hD hS (lv_sub hl [3, 4, 5, 1, 0] rfl) hk
                  · rw [if_pos hc] at hf
                    refine lv_aload_n hx hb dX6_nextOf_91 rfl (lv_at hl 1 rfl) ?_
                    refine lv_iload_n hx hb dX6_nextOf_92 rfl (lv_at hl 2 rfl) ?_
                    refine lv_iload hx hb dX6_nextOf_93 (lv_at hl 5 rfl) ?_
                    obtain ⟨q95, hq95, hf⟩ := bd_some hf
                    refine kcVi C (kX6_hopsOf (l := l) (D := D) (k := k) h0 h1 z0 z1 z2 z3 z4 z5 z6 z7 z8 z9 z10 z11 z12 z13 (.ref h2) z14 z15 z16 z17 v_page y1 y4 q95 hq95) mt_X6_hopsOf mw_889 ⟨rfl, rfl, Nat.le_of_ble_eq_true rfl, Nat.le_of_ble_eq_true rfl⟩ hP hD hS 0 rfl rfl rfl [0, 1] rfl rfl [some 0, some 1, none] rfl rfl (w2 := (wX6_nextOf k h0 h1 h2 z0 z1 z2 z3 z4 z5 z6 z7 z8 z9 z10 z11 z12 z13 z14 z15 z16 z17 v_page v_isLeft)) rfl rfl rfl hl.1 (rest := []) (Nat.le_of_ble_eq_true rfl) rfl dX6_nextOf_95 ⟨Nat.zero_le _, Nat.zero_le _⟩ (fun H locs hP hD hS => ?_)
                    refine lv_aload_n hx hb dX6_nextOf_98 rfl (lv_at hl 1 rfl) ?_
                    refine lv_iload_n hx hb dX6_nextOf_99 rfl (lv_at hl 2 rfl) ?_
                    refine lv_iload_n hx hb dX6_nextOf_100 rfl (lv_at hl 4 rfl) ?_
                    obtain ⟨q101, hq101, hf⟩ := bd_some hf
                    refine kcVi C (kX6_hopsOf (l := l) (D := D) (k := k) h0 h1 z0 z1 z2 z3 z4 z5 z6 z7 z8 z9 z10 z11 z12 z13 (.ref h2) z14 z15 z16 z17 v_page y1 y3 q101 hq101) mt_X6_hopsOf mw_889 ⟨rfl, rfl, Nat.le_of_ble_eq_true rfl, Nat.le_of_ble_eq_true rfl⟩ hP hD hS 0 rfl rfl rfl [0, 1] rfl rfl [some 0, some 1, none] rfl rfl (w2 := (wX6_nextOf k h0 h1 h2 z0 z1 z2 z3 z4 z5 z6 z7 z8 z9 z10 z11 z12 z13 z14 z15 z16 z17 v_page v_isLeft)) rfl rfl rfl hl.1 (rest := [.int q95]) (Nat.le_of_ble_eq_true rfl) rfl dX6_nextOf_101 ⟨Nat.zero_le _, Nat.zero_le _⟩ (fun H locs hP hD hS => ?_)
                    refine lv_icmp_ge (tgt := 112) hx hb dX6_nextOf_104 (by decide) (fun hc => ?_) (fun hc => ?_)
                    · rw [if_pos hc] at hf
                      refine lv_iload_n hx hb dX6_nextOf_112 rfl (lv_at hl 4 rfl) ?_
                      refine lv_istore_n (lv' := [(3, .int y3), (6, .int v66), (0, .ref h0), (1, .int y1), (2, .int y2), (4, .int y4), (5, .int v43)]) hx hb dX6_nextOf_113 rfl hl (by decide) rfl (fun ls hl => ?_)
                      refine lv_iinc (v := (y4 + (1 : Int32))) (lv' := [(4, .int (y4 + (1 : Int32))), (3, .int y3), (6, .int v66), (0, .ref h0), (1, .int y1), (2, .int y2), (5, .int v43)]) hx hb dX6_nextOf_114 hl (k := 5) rfl rfl (by decide) rfl (fun ls hl => ?_)
                      refine lv_goto (tgt := 6) hx hb dX6_nextOf_117 (by decide) ?_
                      exact ih y3 (y4 + (1 : Int32)) _ _ _ _ hf hP hD hS (lv_sub hl [3, 4, 5, 1, 0] rfl) hk
                    · rw [if_neg hc] at hf
                      refine lv_iload hx hb dX6_nextOf_107 (lv_at hl 5 rfl) ?_
                      refine lv_goto (tgt := 113) hx hb dX6_nextOf_109 (by decide) ?_
                      refine lv_istore_n (lv' := [(3, .int y4), (6, .int v66), (0, .ref h0), (1, .int y1), (2, .int y2), (4, .int y4), (5, .int v43)]) hx hb dX6_nextOf_113 rfl hl (by decide) rfl (fun ls hl => ?_)
                      refine lv_iinc (v := (y4 + (1 : Int32))) (lv' := [(4, .int (y4 + (1 : Int32))), (3, .int y4), (6, .int v66), (0, .ref h0), (1, .int y1), (2, .int y2), (5, .int v43)]) hx hb dX6_nextOf_114 hl (k := 5) rfl rfl (by decide) rfl (fun ls hl => ?_)
                      refine lv_goto (tgt := 6) hx hb dX6_nextOf_117 (by decide) ?_
                      exact ih y4 (y4 + (1 : Int32)) _ _ _ _ hf hP hD hS (lv_sub hl [3, 4, 5, 1, 0] rfl) hk
          clear hf
          have hf := hv66
          refine lv_icmp_eq (tgt := 65) hx hb dX6_nextOf_48 (by decide) (fun hc => ?_) (fun hc => ?_)
          · rw [if_pos hc] at hf
            refine lv_iconst (v := (0 : Int32)) hx hb dX6_nextOf_65 (by decide) ?_
            obtain rfl := Option.some.inj hf
            exact hj66 _ _ _ hP hD hS (lv_sub hl [1, 2, 3, 4, 5, 0] rfl)
          · rw [if_neg hc] at hf
            refine lv_aload_n hx hb dX6_nextOf_51 rfl (lv_at hl 1 rfl) ?_
            refine lv_iload_n hx hb dX6_nextOf_52 rfl (lv_at hl 4 rfl) ?_
            refine lv_iconst (v := (2 : Int32)) hx hb dX6_nextOf_53 (by decide) ?_
            obtain ⟨q54, hq54, hf⟩ := bd_some hf
            refine kcVi C (kX6_ofLetter (l := l) (D := D) (k := k) h0 h1 z0 z1 z2 z3 z4 z5 z6 z7 z8 z9 z10 z11 z12 z13 (.ref h2) z14 z15 z16 z17 v_page y3 (2 : Int32) q54 hq54) mt_X6_ofLetter mw_839 ⟨rfl, rfl, Nat.le_of_ble_eq_true rfl, Nat.le_of_ble_eq_true rfl⟩ hP hD hS 0 rfl rfl rfl [0, 1] rfl rfl [some 0, some 1, none] rfl rfl (w2 := (wX6_nextOf k h0 h1 h2 z0 z1 z2 z3 z4 z5 z6 z7 z8 z9 z10 z11 z12 z13 z14 z15 z16 z17 v_page v_isLeft)) rfl rfl rfl hl.1 (rest := []) (Nat.le_of_ble_eq_true rfl) rfl dX6_nextOf_54 ⟨Nat.zero_le _, Nat.zero_le _⟩ (fun H locs hP hD hS => ?_)
            refine lv_iload_n hx hb dX6_nextOf_57 rfl (lv_at hl 3 rfl) ?_
            refine lv_icmp_ne (tgt := 65) hx hb dX6_nextOf_58 (by decide) (fun hc => ?_) (fun hc => ?_)
            · rw [if_neg hc] at hf
              refine lv_iconst (v := (0 : Int32)) hx hb dX6_nextOf_65 (by decide) ?_
              obtain rfl := Option.some.inj hf
              exact hj66 _ _ _ hP hD hS (lv_sub hl [1, 2, 3, 4, 5, 0] rfl)
            · rw [if_pos hc] at hf
              refine lv_iconst (v := (1 : Int32)) hx hb dX6_nextOf_61 (by decide) ?_
              refine lv_goto (tgt := 66) hx hb dX6_nextOf_62 (by decide) ?_
              obtain rfl := Option.some.inj hf
              exact hj66 _ _ _ hP hD hS (lv_sub hl [1, 2, 3, 4, 5, 0] rfl)
        clear hf
        have hf := hv43
        refine lv_icmp_ne (tgt := 42) hx hb dX6_nextOf_35 (by decide) (fun hc => ?_) (fun hc => ?_)
        · rw [if_neg hc] at hf
          refine lv_iconst (v := (0 : Int32)) hx hb dX6_nextOf_42 (by decide) ?_
          obtain rfl := Option.some.inj hf
          exact hj43 _ _ _ hP hD hS (lv_sub hl [0, 1, 2, 3, 4] rfl)
        · rw [if_pos hc] at hf
          refine lv_iconst (v := (1 : Int32)) hx hb dX6_nextOf_38 (by decide) ?_
          refine lv_goto (tgt := 43) hx hb dX6_nextOf_39 (by decide) ?_
          obtain rfl := Option.some.inj hf
          exact hj43 _ _ _ hP hD hS (lv_sub hl [0, 1, 2, 3, 4] rfl)
set_option maxHeartbeats 4000000 in
set_option maxRecDepth 100000 in
theorem kX6_nextOf {l : Launch} {D : va_G} {k : Nat → ClassId} (h0 h1 h2 : Nat) (z0 z1 z2 z3 z4 z5 z6 z7 z8 z9 z10 z11 z12 z13 z14 z15 z16 z17 : Value) (v_page : Nat → Int32) (v_isLeft : Nat → Int32) (x1 : Int32) (x2 : Int32) (q : Int32) (hf : fX6_nextOf v_page v_isLeft x1 x2 = some q) : KMi l yX6_nextOf cX6_nextOf 7 (some .int) ({ frames := 2, cells := 0, slots := 0, locals := 44 } : Room) D k [.ref h0, .int x1, .int x2] (wX6_nextOf k h0 h1 h2 z0 z1 z2 z3 z4 z5 z6 z7 z8 z9 z10 z11 z12 z13 z14 z15 z16 z17 v_page v_isLeft) q (wX6_nextOf k h0 h1 h2 z0 z1 z2 z3 z4 z5 z6 z7 z8 z9 z10 z11 z12 z13 z14 z15 z16 z17 v_page v_isLeft) := by
  refine kent_i (by decide) (Nat.le_of_ble_eq_true rfl) ?_
  intro p e s m below meth c A Q ls C hP hD hS hl hret
  obtain ⟨hx, hb, -⟩ := id C
  have hl : lv_has ls 7 [(0, .ref h0), (1, .int x1), (2, .int x2)] := hl
  unfold fX6_nextOf at hf
  generalize ([.ref h0, .int x1, .int x2] : List Value).toArray = args at *
  refine lv_bipush (v := (-4 : Int32)) hx hb dX6_nextOf_0 (by decide) ?_
  refine lv_istore_n (lv' := [(3, .int (-4 : Int32)), (0, .ref h0), (1, .int x1), (2, .int x2)]) hx hb dX6_nextOf_2 rfl hl (by decide) rfl (fun ls hl => ?_)
  refine lv_iconst (v := (0 : Int32)) hx hb dX6_nextOf_3 (by decide) ?_
  refine lv_istore (lv' := [(4, .int (0 : Int32)), (3, .int (-4 : Int32)), (0, .ref h0), (1, .int x1), (2, .int x2)]) hx hb dX6_nextOf_4 hl (by decide) rfl (fun ls hl => ?_)
  obtain ⟨ex6, hv, hf⟩ := bd_some hf
  refine wX6_nextOf_6 C h0 h1 h2 z0 z1 z2 z3 z4 z5 z6 z7 z8 z9 z10 z11 z12 z13 z14 z15 z16 z17 v_page v_isLeft x1 x2 FU (-4 : Int32) (0 : Int32) ex6 _ _ _ hv hP hD hS (lv_sub hl [2, 3, 4, 1, 0] rfl) (fun H locs ls hP hD hS hl => ?_)
  refine lv_iload_n hx hb dX6_nextOf_120 rfl (lv_at hl 0 rfl) ?_
  obtain rfl := Option.some.inj hf
  exact hret _ _ _ _ dX6_nextOf_121 hP hS
