set_option maxHeartbeats 4000000 in
set_option maxRecDepth 100000 in
theorem kX5_feed {l : Launch} {D : va_G} {k : Nat → ClassId} (h0 h1 h2 : Nat) (z0 z1 z2 z3 z4 : Value) (v_tape_length : Int32) (v_tape_bytes : Nat → Int32) (x1 : Int32) (q : Int32 × Int32 × (Nat → Int32)) (hf : fX5_feed v_tape_length v_tape_bytes x1 = some q) : KMi l yX5_feed cX5_feed 2 (some .int) ({ frames := 0, cells := 0, slots := 0, locals := 0 } : Room) D k [.ref h0, .int x1] (wX5_feed k h0 h1 h2 z0 z1 z2 z3 z4 v_tape_length v_tape_bytes) q.1 (wX5_feed k h0 h1 h2 z0 z1 z2 z3 z4 q.2.1 q.2.2) := by
  refine kent_i (by decide) (Nat.le_of_ble_eq_true rfl) ?_
  intro p e s m below meth c A Q ls C hP hD hS hl hret
  obtain ⟨hx, hb, -⟩ := id C
  have hl : lv_has ls 2 [(0, .ref h0), (1, .int x1)] := hl
  unfold fX5_feed at hf
  generalize ([.ref h0, .int x1] : List Value).toArray = args at *
  refine lv_iload_n hx hb dX5_feed_0 rfl (lv_at hl 1 rfl) ?_
  refine lv_if_lt (tgt := 10) hx hb dX5_feed_1 (by decide) (fun hc => ?_) (fun hc => ?_)
  · rw [if_pos hc] at hf
    refine lv_iconst (v := (-1 : Int32)) hx hb dX5_feed_10 (by decide) ?_
    obtain rfl := Option.some.inj hf
    exact hret _ _ _ _ dX5_feed_11 hP hS
  · rw [if_neg hc] at hf
    refine lv_iload_n hx hb dX5_feed_4 rfl (lv_at hl 1 rfl) ?_
    refine lv_bipush (v := (127 : Int32)) hx hb dX5_feed_5 (by decide) ?_
    refine lv_icmp_le (tgt := 12) hx hb dX5_feed_7 (by decide) (fun hc => ?_) (fun hc => ?_)
    · rw [if_pos hc] at hf
      refine lv_aload_n hx hb dX5_feed_12 rfl (lv_at hl 0 rfl) ?_
      refine kget C inX5 hP 0 rfl rfl 0 (by decide) mw_215 rfl dX5_feed_13 ?_
      refine kget C inX3 hP 1 rfl rfl 1 (by decide) mw_32 rfl dX5_feed_16 ?_
      refine lv_sipush (v := (300 : Int32)) hx hb dX5_feed_19 (by decide) ?_
      refine lv_icmp_lt (tgt := 28) hx hb dX5_feed_22 (by decide) (fun hc => ?_) (fun hc => ?_)
      · rw [if_pos hc] at hf
        refine lv_aload_n hx hb dX5_feed_28 rfl (lv_at hl 0 rfl) ?_
        refine kget C inX5 hP 0 rfl rfl 0 (by decide) mw_215 rfl dX5_feed_29 ?_
        refine kget C inX3 hP 1 rfl rfl 0 (by decide) mw_30 rfl dX5_feed_32 ?_
        refine lv_aload_n hx hb dX5_feed_35 rfl (lv_at hl 0 rfl) ?_
        refine kget C inX5 hP 0 rfl rfl 0 (by decide) mw_215 rfl dX5_feed_36 ?_
        refine kget C inX3 hP 1 rfl rfl 1 (by decide) mw_32 rfl dX5_feed_39 ?_
        refine lv_iload_n hx hb dX5_feed_42 rfl (lv_at hl 1 rfl) ?_
        refine lv_i2b (v := (x1.toInt8.toInt32)) hx hb dX5_feed_43 rfl ?_
        obtain ⟨hin, hf⟩ := gd_some hf
        obtain ⟨v_tape_bytes_44, hn44, hf⟩ := nm_some hf
        refine kbast C hP hD hS 2 rfl hin dX5_feed_44 (j := v_tape_length.toNatClampNeg) rfl (g := v_tape_bytes_44) hn44 (w2 := (wX5_feed k h0 h1 h2 z0 z1 z2 z3 z4 v_tape_length v_tape_bytes_44)) rfl (fun H locs hP hD hS => ?_)
        refine lv_aload_n hx hb dX5_feed_45 rfl (lv_at hl 0 rfl) ?_
        refine kget C inX5 hP 0 rfl rfl 0 (by decide) mw_215 rfl dX5_feed_46 ?_
        refine lv_dup hx hb dX5_feed_49 rfl ?_
        refine kget C inX3 hP 1 rfl rfl 1 (by decide) mw_32 rfl dX5_feed_50 ?_
        refine lv_iconst (v := (1 : Int32)) hx hb dX5_feed_53 (by decide) ?_
        refine lv_iadd hx hb dX5_feed_54 ?_
        refine kput C inX3 tyX3_ok nmX3 hP hD hS 1 rfl rfl 1 (by decide) mw_32 rfl rfl rfl (Nat.le_of_ble_eq_true rfl) dX5_feed_55 (w2 := (wX5_feed k h0 h1 h2 z0 z1 z2 z3 z4 (v_tape_length + (1 : Int32)) v_tape_bytes_44)) rfl (fun H locs hP hD hS => ?_)
        refine lv_aload_n hx hb dX5_feed_58 rfl (lv_at hl 0 rfl) ?_
        refine kget C inX5 hP 0 rfl rfl 0 (by decide) mw_215 rfl dX5_feed_59 ?_
        refine kget C inX3 hP 1 rfl rfl 1 (by decide) mw_32 rfl dX5_feed_62 ?_
        obtain rfl := Option.some.inj hf
        exact hret _ _ _ _ dX5_feed_65 hP hS
      · rw [if_neg hc] at hf
        refine lv_bipush (v := (-3 : Int32)) hx hb dX5_feed_25 (by decide) ?_
        obtain rfl := Option.some.inj hf
        exact hret _ _ _ _ dX5_feed_27 hP hS
    · rw [if_neg hc] at hf
      refine lv_iconst (v := (-1 : Int32)) hx hb dX5_feed_10 (by decide) ?_
      obtain rfl := Option.some.inj hf
      exact hret _ _ _ _ dX5_feed_11 hP hS
set_option maxHeartbeats 4000000 in
set_option maxRecDepth 100000 in
theorem kX5_end {l : Launch} {D : va_G} {k : Nat → ClassId} (h0 h1 : Nat) (z0 z1 z2 z3 z4 z5 : Value) (v_tape_length : Int32) (x1 : Int32) (q : Int32 × Int32) (hf : fX5_end v_tape_length x1 = some q) : KMi l yX5_end cX5_end 3 (some .int) ({ frames := 0, cells := 0, slots := 0, locals := 0 } : Room) D k [.ref h0, .int x1] (wX5_end k h0 h1 z0 z1 z2 z3 z4 z5 v_tape_length) q.1 (wX5_end k h0 h1 z0 z1 z2 z3 z4 z5 q.2) := by
  refine kent_i (by decide) (Nat.le_of_ble_eq_true rfl) ?_
  intro p e s m below meth c A Q ls C hP hD hS hl hret
  obtain ⟨hx, hb, -⟩ := id C
  have hl : lv_has ls 3 [(0, .ref h0), (1, .int x1)] := hl
  unfold fX5_end at hf
  generalize ([.ref h0, .int x1] : List Value).toArray = args at *
  refine lv_iload_n hx hb dX5_end_0 rfl (lv_at hl 1 rfl) ?_
  refine lv_if_lt (tgt := 15) hx hb dX5_end_1 (by decide) (fun hc => ?_) (fun hc => ?_)
  · rw [if_pos hc] at hf
    refine lv_iconst (v := (-1 : Int32)) hx hb dX5_end_15 (by decide) ?_
    obtain rfl := Option.some.inj hf
    exact hret _ _ _ _ dX5_end_16 hP hS
  · rw [if_neg hc] at hf
    refine lv_iload_n hx hb dX5_end_4 rfl (lv_at hl 1 rfl) ?_
    refine lv_aload_n hx hb dX5_end_5 rfl (lv_at hl 0 rfl) ?_
    refine kget C inX5 hP 0 rfl rfl 0 (by decide) mw_215 rfl dX5_end_6 ?_
    refine kget C inX3 hP 1 rfl rfl 1 (by decide) mw_32 rfl dX5_end_9 ?_
    refine lv_icmp_le (tgt := 17) hx hb dX5_end_12 (by decide) (fun hc => ?_) (fun hc => ?_)
    · rw [if_pos hc] at hf
      refine lv_aload_n hx hb dX5_end_17 rfl (lv_at hl 0 rfl) ?_
      refine kget C inX5 hP 0 rfl rfl 0 (by decide) mw_215 rfl dX5_end_18 ?_
      refine kget C inX3 hP 1 rfl rfl 1 (by decide) mw_32 rfl dX5_end_21 ?_
      refine lv_istore_n (lv' := [(2, .int v_tape_length), (0, .ref h0), (1, .int x1)]) hx hb dX5_end_24 rfl hl (by decide) rfl (fun ls hl => ?_)
      refine lv_aload_n hx hb dX5_end_25 rfl (lv_at hl 1 rfl) ?_
      refine kget C inX5 hP 0 rfl rfl 0 (by decide) mw_215 rfl dX5_end_26 ?_
      refine lv_iload_n hx hb dX5_end_29 rfl (lv_at hl 2 rfl) ?_
      refine kput C inX3 tyX3_ok nmX3 hP hD hS 1 rfl rfl 1 (by decide) mw_32 rfl rfl rfl (Nat.le_of_ble_eq_true rfl) dX5_end_30 (w2 := (wX5_end k h0 h1 z0 z1 z2 z3 z4 z5 x1)) rfl (fun H locs hP hD hS => ?_)
      refine lv_iload_n hx hb dX5_end_33 rfl (lv_at hl 0 rfl) ?_
      obtain rfl := Option.some.inj hf
      exact hret _ _ _ _ dX5_end_34 hP hS
    · rw [if_neg hc] at hf
      refine lv_iconst (v := (-1 : Int32)) hx hb dX5_end_15 (by decide) ?_
      obtain rfl := Option.some.inj hf
      exact hret _ _ _ _ dX5_end_16 hP hS
set_option maxHeartbeats 4000000 in
set_option maxRecDepth 100000 in
theorem kX5_fault {l : Launch} {D : va_G} {k : Nat → ClassId} (h0 h1 : Nat) (z0 z1 z2 z3 z4 z5 z6 z7 z8 z9 z10 z11 : Value) (v_reader_fault : Int32) (q : Int32) (hf : fX5_fault v_reader_fault = some q) : KMi l yX5_fault cX5_fault 1 (some .int) ({ frames := 0, cells := 0, slots := 0, locals := 0 } : Room) D k [.ref h0] (wX5_fault k h0 h1 z0 z1 z2 z3 z4 z5 z6 z7 z8 z9 z10 z11 v_reader_fault) q (wX5_fault k h0 h1 z0 z1 z2 z3 z4 z5 z6 z7 z8 z9 z10 z11 v_reader_fault) := by
  refine kent_i (by decide) (Nat.le_of_ble_eq_true rfl) ?_
  intro p e s m below meth c A Q ls C hP hD hS hl hret
  obtain ⟨hx, hb, -⟩ := id C
  have hl : lv_has ls 1 [(0, .ref h0)] := hl
  unfold fX5_fault at hf
  generalize ([.ref h0] : List Value).toArray = args at *
  refine lv_aload_n hx hb dX5_fault_0 rfl (lv_at hl 0 rfl) ?_
  refine kget C inX5 hP 0 rfl rfl 1 (by decide) mw_216 rfl dX5_fault_1 ?_
  refine kget C inX2 hP 1 rfl rfl 1 (by decide) mw_89 rfl dX5_fault_4 ?_
  obtain rfl := Option.some.inj hf
  exact hret _ _ _ _ dX5_fault_7 hP hS
set_option maxHeartbeats 4000000 in
set_option maxRecDepth 100000 in
theorem wX5_imagesKept_4 {p : Program} {l : Launch} {e : Env} {s : State} {m : MethodId} {args : Array Value} {below : List Frame} {meth : Method} {c : Code} {A : Nat → Prop} {Q : State → Prop} {D : va_G} {k : Nat → ClassId} (C : Cx p s m args c cX5_imagesKept 3 RX5 A D k) (h0 h1 : Nat) (z0 z1 z2 z3 z4 : Value) (v_kept : Nat → Int32) : ∀ (f : Nat) (y1 : Int32) (y2 : Int32) (ex : (Int32)) (H : Heap) (locs : List Loc) (ls : Array Slot), fX5_imagesKept_4 v_kept f y1 y2 = some ex → va_P D vwCl (wX5_imagesKept k h0 h1 z0 z1 z2 z3 z4 v_kept) H → va_D A (wX5_imagesKept k h0 h1 z0 z1 z2 z3 z4 v_kept) → va_S A s.heap H locs → lv_has ls 3 [(0, .ref h0), (1, .int y1), (2, .int y2)] → (∀ (H : Heap) (locs : List Loc) (ls : Array Slot), va_P D vwCl (wX5_imagesKept k h0 h1 z0 z1 z2 z3 z4 v_kept) H → va_D A (wX5_imagesKept k h0 h1 z0 z1 z2 z3 z4 v_kept) → va_S A s.heap H locs → lv_has ls 3 [(1, .int ex)] → W p l e ({ frames := 0, cells := 0, slots := 0, locals := 0 } : Room) s m args below meth c H locs 0 0 Q (F0 m 27 ls [])) → W p l e ({ frames := 0, cells := 0, slots := 0, locals := 0 } : Room) s m args below meth c H locs 0 0 Q (F0 m 4 ls []) := by
  obtain ⟨hx, hb, -⟩ := id C
  intro f
  induction f with
  | zero =>
    intro y1 y2 ex H locs ls hf hP hD hS hl hk
    cases hf
  | succ f ih =>
    intro y1 y2 ex H locs ls hf hP hD hS hl hk
    rw [fX5_imagesKept_4] at hf
    refine lv_iload_n hx hb dX5_imagesKept_4 rfl (lv_at hl 2 rfl) ?_
    refine lv_iconst (v := (2 : Int32)) hx hb dX5_imagesKept_5 (by decide) ?_
    refine lv_icmp_ge (tgt := 27) hx hb dX5_imagesKept_6 (by decide) (fun hc => ?_) (fun hc => ?_)
    · rw [if_pos hc] at hf
      obtain rfl := Option.some.inj hf
      exact hk _ _ _ hP hD hS (lv_sub hl [1] rfl)
    · rw [if_neg hc] at hf
      refine lv_aload_n hx hb dX5_imagesKept_9 rfl (lv_at hl 0 rfl) ?_
      refine kget C inX5 hP 0 rfl rfl 5 (by decide) mw_220 rfl dX5_imagesKept_10 ?_
      refine lv_iload_n hx hb dX5_imagesKept_13 rfl (lv_at hl 2 rfl) ?_
      obtain ⟨hin, hf⟩ := gd_some hf
      refine kzald C hP 1 rfl hin dX5_imagesKept_14 (j := y2.toNatClampNeg) rfl ?_
      refine lv_if_eq (tgt := 21) hx hb dX5_imagesKept_15 (by decide) (fun hc => ?_) (fun hc => ?_)
      · rw [if_pos hc] at hf
        refine lv_iinc (v := (y2 + (1 : Int32))) (lv' := [(2, .int (y2 + (1 : Int32))), (0, .ref h0), (1, .int y1)]) hx hb dX5_imagesKept_21 hl (k := 2) rfl rfl (by decide) rfl (fun ls hl => ?_)
        refine lv_goto (tgt := 4) hx hb dX5_imagesKept_24 (by decide) ?_
        exact ih y1 (y2 + (1 : Int32)) _ _ _ _ hf hP hD hS (lv_sub hl [1, 2, 0] rfl) hk
      · rw [if_neg hc] at hf
        refine lv_iinc (v := (y1 + (1 : Int32))) (lv' := [(1, .int (y1 + (1 : Int32))), (0, .ref h0), (2, .int y2)]) hx hb dX5_imagesKept_18 hl (k := 1) rfl rfl (by decide) rfl (fun ls hl => ?_)
        refine lv_iinc (v := (y2 + (1 : Int32))) (lv' := [(2, .int (y2 + (1 : Int32))), (1, .int (y1 + (1 : Int32))), (0, .ref h0)]) hx hb dX5_imagesKept_21 hl (k := 2) rfl rfl (by decide) rfl (fun ls hl => ?_)
        refine lv_goto (tgt := 4) hx hb dX5_imagesKept_24 (by decide) ?_
        exact ih (y1 + (1 : Int32)) (y2 + (1 : Int32)) _ _ _ _ hf hP hD hS (lv_sub hl [2, 1, 0] rfl) hk
set_option maxHeartbeats 4000000 in
set_option maxRecDepth 100000 in
theorem kX5_imagesKept {l : Launch} {D : va_G} {k : Nat → ClassId} (h0 h1 : Nat) (z0 z1 z2 z3 z4 : Value) (v_kept : Nat → Int32) (q : Int32) (hf : fX5_imagesKept v_kept = some q) : KMi l yX5_imagesKept cX5_imagesKept 3 (some .int) ({ frames := 0, cells := 0, slots := 0, locals := 0 } : Room) D k [.ref h0] (wX5_imagesKept k h0 h1 z0 z1 z2 z3 z4 v_kept) q (wX5_imagesKept k h0 h1 z0 z1 z2 z3 z4 v_kept) := by
  refine kent_i (by decide) (Nat.le_of_ble_eq_true rfl) ?_
  intro p e s m below meth c A Q ls C hP hD hS hl hret
  obtain ⟨hx, hb, -⟩ := id C
  have hl : lv_has ls 3 [(0, .ref h0)] := hl
  unfold fX5_imagesKept at hf
  generalize ([.ref h0] : List Value).toArray = args at *
  refine lv_iconst (v := (0 : Int32)) hx hb dX5_imagesKept_0 (by decide) ?_
  refine lv_istore_n (lv' := [(1, .int (0 : Int32)), (0, .ref h0)]) hx hb dX5_imagesKept_1 rfl hl (by decide) rfl (fun ls hl => ?_)
  refine lv_iconst (v := (0 : Int32)) hx hb dX5_imagesKept_2 (by decide) ?_
  refine lv_istore_n (lv' := [(2, .int (0 : Int32)), (1, .int (0 : Int32)), (0, .ref h0)]) hx hb dX5_imagesKept_3 rfl hl (by decide) rfl (fun ls hl => ?_)
  obtain ⟨ex4, hv, hf⟩ := bd_some hf
  refine wX5_imagesKept_4 C h0 h1 z0 z1 z2 z3 z4 v_kept FU (0 : Int32) (0 : Int32) ex4 _ _ _ hv hP hD hS (lv_sub hl [2, 1, 0] rfl) (fun H locs ls hP hD hS hl => ?_)
  refine lv_iload_n hx hb dX5_imagesKept_27 rfl (lv_at hl 0 rfl) ?_
  obtain rfl := Option.some.inj hf
  exact hret _ _ _ _ dX5_imagesKept_28 hP hS
set_option maxHeartbeats 4000000 in
set_option maxRecDepth 100000 in
theorem kX5_rule {l : Launch} {D : va_G} {k : Nat → ClassId} (h0 h1 h2 h3 h4 h5 h6 h7 : Nat) (z0 z1 z2 z3 z4 z5 z6 z7 z8 z9 z10 z11 z12 z13 : Value) (v_tape_length : Int32) (v_clock : Int32) (v_nodes : Int32) (v_meetings : Int32) (v_letters : Int32) (v_rules : Nat → Int32) (v_counts : Nat → Int32) (v_tokens : Nat → Int32) (v_kept : Nat → Int32) (x1 : Int32) (q : Int32) (hf : fX5_rule v_tape_length v_clock v_nodes v_meetings v_letters v_rules v_counts v_tokens v_kept x1 = some q) : KMi l yX5_rule cX5_rule 2 (some .int) ({ frames := 3, cells := 0, slots := 0, locals := 67 } : Room) D k [.ref h0, .int x1] (wX5_rule k h0 h1 h2 h3 h4 h5 h6 h7 z0 z1 z2 z3 z4 z5 z6 z7 z8 z9 z10 z11 z12 z13 v_tape_length v_clock v_nodes v_meetings v_letters v_rules v_counts v_tokens v_kept) q (wX5_rule k h0 h1 h2 h3 h4 h5 h6 h7 z0 z1 z2 z3 z4 z5 z6 z7 z8 z9 z10 z11 z12 z13 v_tape_length v_clock v_nodes v_meetings v_letters v_rules v_counts v_tokens v_kept) := by
  refine kent_i (by decide) (Nat.le_of_ble_eq_true rfl) ?_
  intro p e s m below meth c A Q ls C hP hD hS hl hret
  obtain ⟨hx, hb, -⟩ := id C
  have hl : lv_has ls 2 [(0, .ref h0), (1, .int x1)] := hl
  unfold fX5_rule at hf
  generalize ([.ref h0, .int x1] : List Value).toArray = args at *
  refine lv_iload_n hx hb dX5_rule_0 rfl (lv_at hl 1 rfl) ?_
  by_cases hc0 : x1 = (0 : Int32)
  · rw [if_pos hc0] at hf
    refine lv_tableIn (tgt := 92) hx hb dX5_rule_1 (by rw [hc0]; decide) (by rw [hc0]; decide) (by rw [hc0]; first | done | rfl) (by decide) ?_
    refine lv_aload_n hx hb dX5_rule_92 rfl (lv_at hl 0 rfl) ?_
    refine kget C inX5 hP 0 rfl rfl 2 (by decide) mw_217 rfl dX5_rule_93 ?_
    refine kget C inX4 hP 2 rfl rfl 0 (by decide) mw_131 rfl dX5_rule_96 ?_
    refine kget C inX0 hP 3 rfl rfl 3 (by decide) mw_61 rfl dX5_rule_99 ?_
    obtain rfl := Option.some.inj hf
    exact hret _ _ _ _ dX5_rule_102 hP hS
  · rw [if_neg hc0] at hf
    by_cases hc1 : x1 = (1 : Int32)
    · rw [if_pos hc1] at hf
      refine lv_tableIn (tgt := 103) hx hb dX5_rule_1 (by rw [hc1]; decide) (by rw [hc1]; decide) (by rw [hc1]; first | done | rfl) (by decide) ?_
      refine lv_aload_n hx hb dX5_rule_103 rfl (lv_at hl 0 rfl) ?_
      refine kget C inX5 hP 0 rfl rfl 2 (by decide) mw_217 rfl dX5_rule_104 ?_
      refine kget C inX4 hP 2 rfl rfl 0 (by decide) mw_131 rfl dX5_rule_107 ?_
      refine kget C inX0 hP 3 rfl rfl 4 (by decide) mw_66 rfl dX5_rule_110 ?_
      obtain rfl := Option.some.inj hf
      exact hret _ _ _ _ dX5_rule_113 hP hS
    · rw [if_neg hc1] at hf
      by_cases hc2 : x1 = (2 : Int32)
      · rw [if_pos hc2] at hf
        refine lv_tableIn (tgt := 114) hx hb dX5_rule_1 (by rw [hc2]; decide) (by rw [hc2]; decide) (by rw [hc2]; first | done | rfl) (by decide) ?_
        refine lv_aload_n hx hb dX5_rule_114 rfl (lv_at hl 0 rfl) ?_
        refine kget C inX5 hP 0 rfl rfl 2 (by decide) mw_217 rfl dX5_rule_115 ?_
        refine kget C inX4 hP 2 rfl rfl 0 (by decide) mw_131 rfl dX5_rule_118 ?_
        refine kget C inX0 hP 3 rfl rfl 5 (by decide) mw_70 rfl dX5_rule_121 ?_
        obtain rfl := Option.some.inj hf
        exact hret _ _ _ _ dX5_rule_124 hP hS
      · rw [if_neg hc2] at hf
        by_cases hc3 : x1 = (3 : Int32)
        · rw [if_pos hc3] at hf
          refine lv_tableIn (tgt := 125) hx hb dX5_rule_1 (by rw [hc3]; decide) (by rw [hc3]; decide) (by rw [hc3]; first | done | rfl) (by decide) ?_
          refine lv_aload_n hx hb dX5_rule_125 rfl (lv_at hl 0 rfl) ?_
          refine kget C inX5 hP 0 rfl rfl 2 (by decide) mw_217 rfl dX5_rule_126 ?_
          refine kget C inX4 hP 2 rfl rfl 11 (by decide) mw_162 rfl dX5_rule_129 ?_
          obtain rfl := Option.some.inj hf
          exact hret _ _ _ _ dX5_rule_132 hP hS
        · rw [if_neg hc3] at hf
          by_cases hc8 : x1 = (8 : Int32)
          · rw [if_pos hc8] at hf
            refine lv_tableIn (tgt := 133) hx hb dX5_rule_1 (by rw [hc8]; decide) (by rw [hc8]; decide) (by rw [hc8]; first | done | rfl) (by decide) ?_
            refine lv_aload_n hx hb dX5_rule_133 rfl (lv_at hl 0 rfl) ?_
            refine kget C inX5 hP 0 rfl rfl 2 (by decide) mw_217 rfl dX5_rule_134 ?_
            obtain ⟨q137, hq137, hf⟩ := bd_some hf
            refine kcVi C (kX4_copiesInAll (l := l) (D := D) (k := k) h2 h3 h6 (.ref h4) (.ref h5) z4 z5 z6 z7 z8 z9 z10 (.int v_clock) z11 z12 z13 (.int v_meetings) v_nodes v_letters v_tokens q137 hq137) mt_X4_copiesInAll mw_404 ⟨rfl, rfl, Nat.le_of_ble_eq_true rfl, Nat.le_of_ble_eq_true rfl⟩ hP hD hS 2 rfl rfl rfl [2, 3, 6] rfl rfl [none, none, some 0, some 1, none, none, some 2, none] rfl rfl (w2 := (wX5_rule k h0 h1 h2 h3 h4 h5 h6 h7 z0 z1 z2 z3 z4 z5 z6 z7 z8 z9 z10 z11 z12 z13 v_tape_length v_clock v_nodes v_meetings v_letters v_rules v_counts v_tokens v_kept)) rfl rfl rfl hl.1 (rest := []) (Nat.le_of_ble_eq_true rfl) rfl dX5_rule_137 ⟨Nat.zero_le _, Nat.zero_le _⟩ (fun H locs hP hD hS => ?_)
            obtain rfl := Option.some.inj hf
            exact hret _ _ _ _ dX5_rule_140 hP hS
          · rw [if_neg hc8] at hf
            by_cases hc17 : x1 = (17 : Int32)
            · rw [if_pos hc17] at hf
              refine lv_tableIn (tgt := 141) hx hb dX5_rule_1 (by rw [hc17]; decide) (by rw [hc17]; decide) (by rw [hc17]; first | done | rfl) (by decide) ?_
              refine lv_aload_n hx hb dX5_rule_141 rfl (lv_at hl 0 rfl) ?_
              refine kget C inX5 hP 0 rfl rfl 0 (by decide) mw_215 rfl dX5_rule_142 ?_
              refine kget C inX3 hP 1 rfl rfl 1 (by decide) mw_32 rfl dX5_rule_145 ?_
              obtain rfl := Option.some.inj hf
              exact hret _ _ _ _ dX5_rule_148 hP hS
            · rw [if_neg hc17] at hf
              by_cases hc18 : x1 = (18 : Int32)
              · rw [if_pos hc18] at hf
                refine lv_tableIn (tgt := 149) hx hb dX5_rule_1 (by rw [hc18]; decide) (by rw [hc18]; decide) (by rw [hc18]; first | done | rfl) (by decide) ?_
                refine lv_aload_n hx hb dX5_rule_149 rfl (lv_at hl 0 rfl) ?_
                obtain ⟨q150, hq150, hf⟩ := bd_some hf
                refine kcVi C (kX5_imagesKept (l := l) (D := D) (k := k) h0 h7 (.ref h1) z0 (.ref h2) z1 z2 v_kept q150 hq150) mt_X5_imagesKept mw_416 ⟨rfl, rfl, Nat.le_of_ble_eq_true rfl, Nat.le_of_ble_eq_true rfl⟩ hP hD hS 0 rfl rfl rfl [0, 7] rfl rfl [some 0, none, none, none, none, none, none, some 1] rfl rfl (w2 := (wX5_rule k h0 h1 h2 h3 h4 h5 h6 h7 z0 z1 z2 z3 z4 z5 z6 z7 z8 z9 z10 z11 z12 z13 v_tape_length v_clock v_nodes v_meetings v_letters v_rules v_counts v_tokens v_kept)) rfl rfl rfl hl.1 (rest := []) (Nat.le_of_ble_eq_true rfl) rfl dX5_rule_150 ⟨Nat.zero_le _, Nat.zero_le _⟩ (fun H locs hP hD hS => ?_)
                obtain rfl := Option.some.inj hf
                exact hret _ _ _ _ dX5_rule_153 hP hS
              · rw [if_neg hc18] at hf
                have hd : W p l e ({ frames := 3, cells := 0, slots := 0, locals := 67 } : Room) s m args below meth c s.heap [] 0 0 Q (F0 m 154 ls []) := by
                  refine lv_iload_n hx hb dX5_rule_154 rfl (lv_at hl 1 rfl) ?_
                  refine lv_iconst (v := (4 : Int32)) hx hb dX5_rule_155 (by decide) ?_
                  obtain ⟨u177, hv177, hf⟩ := lp_some hf
                  have hr177 : ∀ t, u177 = .inl t → ∀ (H : Heap) (locs : List Loc) (ls : Array Slot) (pc : Nat), decode cX5_rule pc = .ok (.ireturn, 1) → va_P D vwCl (wX5_rule k h0 h1 h2 h3 h4 h5 h6 h7 z0 z1 z2 z3 z4 z5 z6 z7 z8 z9 z10 z11 z12 z13 v_tape_length v_clock v_nodes v_meetings v_letters v_rules v_counts v_tokens v_kept) H → va_S A s.heap H locs → W p l e ({ frames := 3, cells := 0, slots := 0, locals := 67 } : Room) s m args below meth c H locs 0 0 Q (F0 m pc ls [.int t]) := by
                    intro t ht H locs ls pc hdg hP hS
                    subst ht
                    obtain rfl := Option.some.inj hf
                    exact hret _ _ _ _ hdg hP hS
                  have hj177 : ∀ v177, u177 = .inr v177 → ∀ (H : Heap) (locs : List Loc) (ls : Array Slot), va_P D vwCl (wX5_rule k h0 h1 h2 h3 h4 h5 h6 h7 z0 z1 z2 z3 z4 z5 z6 z7 z8 z9 z10 z11 z12 z13 v_tape_length v_clock v_nodes v_meetings v_letters v_rules v_counts v_tokens v_kept) H → va_D A (wX5_rule k h0 h1 h2 h3 h4 h5 h6 h7 z0 z1 z2 z3 z4 z5 z6 z7 z8 z9 z10 z11 z12 z13 v_tape_length v_clock v_nodes v_meetings v_letters v_rules v_counts v_tokens v_kept) → va_S A s.heap H locs → lv_has ls 2 [(0, .ref h0), (1, .int x1)] → W p l e ({ frames := 3, cells := 0, slots := 0, locals := 67 } : Room) s m args below meth c H locs 0 0 Q (F0 m 177 ls []) := by
                    intro v177 ht H locs ls hP hD hS hl
                    subst ht
                    refine lv_iload_n hx hb dX5_rule_177 rfl (lv_at hl 1 rfl) ?_
                    refine lv_bipush (v := (9 : Int32)) hx hb dX5_rule_178 (by decide) ?_
                    refine lv_icmp_lt (tgt := 202) hx hb dX5_rule_180 (by decide) (fun hc => ?_) (fun hc => ?_)
                    · rw [if_pos hc] at hf
                      refine lv_iconst (v := (-1 : Int32)) hx hb dX5_rule_202 (by decide) ?_
                      obtain rfl := Option.some.inj hf
                      exact hret _ _ _ _ dX5_rule_203 hP hS
                    · rw [if_neg hc] at hf
                      refine lv_iload_n hx hb dX5_rule_183 rfl (lv_at hl 1 rfl) ?_
                      refine lv_bipush (v := (16 : Int32)) hx hb dX5_rule_184 (by decide) ?_
                      refine lv_icmp_gt (tgt := 202) hx hb dX5_rule_186 (by decide) (fun hc => ?_) (fun hc => ?_)
                      · rw [if_pos hc] at hf
                        refine lv_iconst (v := (-1 : Int32)) hx hb dX5_rule_202 (by decide) ?_
                        obtain rfl := Option.some.inj hf
                        exact hret _ _ _ _ dX5_rule_203 hP hS
                      · rw [if_neg hc] at hf
                        refine lv_aload_n hx hb dX5_rule_189 rfl (lv_at hl 0 rfl) ?_
                        refine kget C inX5 hP 0 rfl rfl 2 (by decide) mw_217 rfl dX5_rule_190 ?_
                        refine kget C inX4 hP 2 rfl rfl 2 (by decide) mw_137 rfl dX5_rule_193 ?_
                        refine lv_iload_n hx hb dX5_rule_196 rfl (lv_at hl 1 rfl) ?_
                        refine lv_bipush (v := (9 : Int32)) hx hb dX5_rule_197 (by decide) ?_
                        refine lv_isub hx hb dX5_rule_199 ?_
                        obtain ⟨hin, hf⟩ := gd_some hf
                        refine kiald C hP 5 rfl hin dX5_rule_200 (j := (x1 - (9 : Int32)).toNatClampNeg) rfl ?_
                        obtain rfl := Option.some.inj hf
                        exact hret _ _ _ _ dX5_rule_201 hP hS
                  clear hf
                  have hf := hv177
                  refine lv_icmp_lt (tgt := 177) hx hb dX5_rule_156 (by decide) (fun hc => ?_) (fun hc => ?_)
                  · rw [if_pos hc] at hf
                    obtain rfl := Option.some.inj hf
                    exact hj177 _ rfl _ _ _ hP hD hS (lv_sub hl [0, 1] rfl)
                  · rw [if_neg hc] at hf
                    refine lv_iload_n hx hb dX5_rule_159 rfl (lv_at hl 1 rfl) ?_
                    refine lv_bipush (v := (7 : Int32)) hx hb dX5_rule_160 (by decide) ?_
                    refine lv_icmp_gt (tgt := 177) hx hb dX5_rule_162 (by decide) (fun hc => ?_) (fun hc => ?_)
                    · rw [if_pos hc] at hf
                      obtain rfl := Option.some.inj hf
                      exact hj177 _ rfl _ _ _ hP hD hS (lv_sub hl [0, 1] rfl)
                    · rw [if_neg hc] at hf
                      refine lv_aload_n hx hb dX5_rule_165 rfl (lv_at hl 0 rfl) ?_
                      refine kget C inX5 hP 0 rfl rfl 2 (by decide) mw_217 rfl dX5_rule_166 ?_
                      refine kget C inX4 hP 2 rfl rfl 1 (by decide) mw_134 rfl dX5_rule_169 ?_
                      refine lv_iload_n hx hb dX5_rule_172 rfl (lv_at hl 1 rfl) ?_
                      refine lv_iconst (v := (4 : Int32)) hx hb dX5_rule_173 (by decide) ?_
                      refine lv_isub hx hb dX5_rule_174 ?_
                      obtain ⟨hin, hf⟩ := gd_some hf
                      refine kiald C hP 4 rfl hin dX5_rule_175 (j := (x1 - (4 : Int32)).toNatClampNeg) rfl ?_
                      obtain rfl := Option.some.inj hf
                      exact hr177 _ rfl _ _ _ _ dX5_rule_176 hP hS
                by_cases hc4 : x1 = (4 : Int32)
                · exact lv_tableIn (tgt := 154) hx hb dX5_rule_1 (by rw [hc4]; decide) (by rw [hc4]; decide) (by rw [hc4]; first | done | rfl) (by decide) hd
                by_cases hc5 : x1 = (5 : Int32)
                · exact lv_tableIn (tgt := 154) hx hb dX5_rule_1 (by rw [hc5]; decide) (by rw [hc5]; decide) (by rw [hc5]; first | done | rfl) (by decide) hd
                by_cases hc6 : x1 = (6 : Int32)
                · exact lv_tableIn (tgt := 154) hx hb dX5_rule_1 (by rw [hc6]; decide) (by rw [hc6]; decide) (by rw [hc6]; first | done | rfl) (by decide) hd
                by_cases hc7 : x1 = (7 : Int32)
                · exact lv_tableIn (tgt := 154) hx hb dX5_rule_1 (by rw [hc7]; decide) (by rw [hc7]; decide) (by rw [hc7]; first | done | rfl) (by decide) hd
                by_cases hc9 : x1 = (9 : Int32)
                · exact lv_tableIn (tgt := 154) hx hb dX5_rule_1 (by rw [hc9]; decide) (by rw [hc9]; decide) (by rw [hc9]; first | done | rfl) (by decide) hd
                by_cases hc10 : x1 = (10 : Int32)
                · exact lv_tableIn (tgt := 154) hx hb dX5_rule_1 (by rw [hc10]; decide) (by rw [hc10]; decide) (by rw [hc10]; first | done | rfl) (by decide) hd
                by_cases hc11 : x1 = (11 : Int32)
                · exact lv_tableIn (tgt := 154) hx hb dX5_rule_1 (by rw [hc11]; decide) (by rw [hc11]; decide) (by rw [hc11]; first | done | rfl) (by decide) hd
                by_cases hc12 : x1 = (12 : Int32)
                · exact lv_tableIn (tgt := 154) hx hb dX5_rule_1 (by rw [hc12]; decide) (by rw [hc12]; decide) (by rw [hc12]; first | done | rfl) (by decide) hd
                by_cases hc13 : x1 = (13 : Int32)
                · exact lv_tableIn (tgt := 154) hx hb dX5_rule_1 (by rw [hc13]; decide) (by rw [hc13]; decide) (by rw [hc13]; first | done | rfl) (by decide) hd
                by_cases hc14 : x1 = (14 : Int32)
                · exact lv_tableIn (tgt := 154) hx hb dX5_rule_1 (by rw [hc14]; decide) (by rw [hc14]; decide) (by rw [hc14]; first | done | rfl) (by decide) hd
                by_cases hc15 : x1 = (15 : Int32)
                · exact lv_tableIn (tgt := 154) hx hb dX5_rule_1 (by rw [hc15]; decide) (by rw [hc15]; decide) (by rw [hc15]; first | done | rfl) (by decide) hd
                by_cases hc16 : x1 = (16 : Int32)
                · exact lv_tableIn (tgt := 154) hx hb dX5_rule_1 (by rw [hc16]; decide) (by rw [hc16]; decide) (by rw [hc16]; first | done | rfl) (by decide) hd
                exact lv_tableOut (tgt := 154) hx hb dX5_rule_1 (by have := lv_neT hc0 (show ((0 : Int32)).toInt = 0 from rfl); have := lv_neT hc1 (show ((1 : Int32)).toInt = 1 from rfl); have := lv_neT hc2 (show ((2 : Int32)).toInt = 2 from rfl); have := lv_neT hc3 (show ((3 : Int32)).toInt = 3 from rfl); have := lv_neT hc4 (show ((4 : Int32)).toInt = 4 from rfl); have := lv_neT hc5 (show ((5 : Int32)).toInt = 5 from rfl); have := lv_neT hc6 (show ((6 : Int32)).toInt = 6 from rfl); have := lv_neT hc7 (show ((7 : Int32)).toInt = 7 from rfl); have := lv_neT hc8 (show ((8 : Int32)).toInt = 8 from rfl); have := lv_neT hc9 (show ((9 : Int32)).toInt = 9 from rfl); have := lv_neT hc10 (show ((10 : Int32)).toInt = 10 from rfl); have := lv_neT hc11 (show ((11 : Int32)).toInt = 11 from rfl); have := lv_neT hc12 (show ((12 : Int32)).toInt = 12 from rfl); have := lv_neT hc13 (show ((13 : Int32)).toInt = 13 from rfl); have := lv_neT hc14 (show ((14 : Int32)).toInt = 14 from rfl); have := lv_neT hc15 (show ((15 : Int32)).toInt = 15 from rfl); have := lv_neT hc16 (show ((16 : Int32)).toInt = 16 from rfl); have := lv_neT hc17 (show ((17 : Int32)).toInt = 17 from rfl); have := lv_neT hc18 (show ((18 : Int32)).toInt = 18 from rfl); omega) (by decide) hd
set_option maxHeartbeats 4000000 in
set_option maxRecDepth 100000 in
theorem kX5_node {l : Launch} {D : va_G} {k : Nat → ClassId} (h0 h1 h2 h3 h4 h5 h6 h7 : Nat) (z0 z1 z2 z3 z4 z5 z6 z7 z8 z9 z10 z11 z12 z13 z14 : Value) (v_nodes : Int32) (v_letters : Int32) (v_rooms : Nat → Int32) (v_letterRows : Nat → Int32) (v_tokens : Nat → Int32) (v_notes : Nat → Int32) (v_lasts : Nat → Int32) (x1 : Int32) (x2 : Int32) (q : Int32) (hf : fX5_node v_nodes v_letters v_rooms v_letterRows v_tokens v_notes v_lasts x1 x2 = some q) : KMi l yX5_node cX5_node 3 (some .int) ({ frames := 2, cells := 0, slots := 0, locals := 45 } : Room) D k [.ref h0, .int x1, .int x2] (wX5_node k h0 h1 h2 h3 h4 h5 h6 h7 z0 z1 z2 z3 z4 z5 z6 z7 z8 z9 z10 z11 z12 z13 z14 v_nodes v_letters v_rooms v_letterRows v_tokens v_notes v_lasts) q (wX5_node k h0 h1 h2 h3 h4 h5 h6 h7 z0 z1 z2 z3 z4 z5 z6 z7 z8 z9 z10 z11 z12 z13 z14 v_nodes v_letters v_rooms v_letterRows v_tokens v_notes v_lasts) := by
  refine kent_i (by decide) (Nat.le_of_ble_eq_true rfl) ?_
  intro p e s m below meth c A Q ls C hP hD hS hl hret
  obtain ⟨hx, hb, -⟩ := id C
  have hl : lv_has ls 3 [(0, .ref h0), (1, .int x1), (2, .int x2)] := hl
  unfold fX5_node at hf
  generalize ([.ref h0, .int x1, .int x2] : List Value).toArray = args at *
  refine lv_aload_n hx hb dX5_node_0 rfl (lv_at hl 0 rfl) ?_
  refine kget C inX5 hP 0 rfl rfl 2 (by decide) mw_217 rfl dX5_node_1 ?_
  refine kget C inX4 hP 1 rfl rfl 0 (by decide) mw_131 rfl dX5_node_4 ?_
  refine lv_iload_n hx hb dX5_node_7 rfl (lv_at hl 1 rfl) ?_
  obtain ⟨q8, hq8, hf⟩ := bd_some hf
  refine kcVi C (kX0_hasNode (l := l) (D := D) (k := k) h2 (.ref h3) z13 (.ref h4) z14 (.int v_letters) v_nodes x1 q8 hq8) mt_X0_hasNode mw_424 ⟨rfl, rfl, Nat.le_of_ble_eq_true rfl, Nat.le_of_ble_eq_true rfl⟩ hP hD hS 2 rfl rfl rfl [2] rfl rfl [none, none, some 0, none, none, none, none, none] rfl rfl (w2 := (wX5_node k h0 h1 h2 h3 h4 h5 h6 h7 z0 z1 z2 z3 z4 z5 z6 z7 z8 z9 z10 z11 z12 z13 z14 v_nodes v_letters v_rooms v_letterRows v_tokens v_notes v_lasts)) rfl rfl rfl hl.1 (rest := []) (Nat.le_of_ble_eq_true rfl) rfl dX5_node_8 ⟨Nat.zero_le _, Nat.zero_le _⟩ (fun H locs hP hD hS => ?_)
  refine lv_if_ne (tgt := 16) hx hb dX5_node_11 (by decide) (fun hc => ?_) (fun hc => ?_)
  · rw [if_neg hc] at hf
    refine lv_iload_n hx hb dX5_node_16 rfl (lv_at hl 2 rfl) ?_
    by_cases hc0 : x2 = (0 : Int32)
    · rw [if_pos hc0] at hf
      refine lv_tableIn (tgt := 52) hx hb dX5_node_17 (by rw [hc0]; decide) (by rw [hc0]; decide) (by rw [hc0]; first | done | rfl) (by decide) ?_
      refine lv_aload_n hx hb dX5_node_52 rfl (lv_at hl 0 rfl) ?_
      refine kget C inX5 hP 0 rfl rfl 2 (by decide) mw_217 rfl dX5_node_53 ?_
      refine kget C inX4 hP 1 rfl rfl 0 (by decide) mw_131 rfl dX5_node_56 ?_
      refine kget C inX0 hP 2 rfl rfl 0 (by decide) mw_53 rfl dX5_node_59 ?_
      refine lv_iload_n hx hb dX5_node_62 rfl (lv_at hl 1 rfl) ?_
      obtain ⟨hin, hf⟩ := gd_some hf
      refine kiald C hP 3 rfl hin dX5_node_63 (j := x1.toNatClampNeg) rfl ?_
      obtain rfl := Option.some.inj hf
      exact hret _ _ _ _ dX5_node_64 hP hS
    · rw [if_neg hc0] at hf
      by_cases hc1 : x2 = (1 : Int32)
      · rw [if_pos hc1] at hf
        refine lv_tableIn (tgt := 65) hx hb dX5_node_17 (by rw [hc1]; decide) (by rw [hc1]; decide) (by rw [hc1]; first | done | rfl) (by decide) ?_
        refine lv_aload_n hx hb dX5_node_65 rfl (lv_at hl 0 rfl) ?_
        refine kget C inX5 hP 0 rfl rfl 2 (by decide) mw_217 rfl dX5_node_66 ?_
        refine lv_iload_n hx hb dX5_node_69 rfl (lv_at hl 1 rfl) ?_
        obtain ⟨q70, hq70, hf⟩ := bd_some hf
        refine kcVi C (kX4_loadOf (l := l) (D := D) (k := k) h1 h2 h4 h5 z5 z6 z7 z8 z9 (.ref h6) (.ref h7) z10 z11 z12 (.ref h3) z13 (.int v_nodes) z14 v_letters v_letterRows v_tokens x1 q70 hq70) mt_X4_loadOf mw_428 ⟨rfl, rfl, Nat.le_of_ble_eq_true rfl, Nat.le_of_ble_eq_true rfl⟩ hP hD hS 1 rfl rfl rfl [1, 2, 4, 5] rfl rfl [none, some 0, some 1, none, some 2, some 3, none, none] rfl rfl (w2 := (wX5_node k h0 h1 h2 h3 h4 h5 h6 h7 z0 z1 z2 z3 z4 z5 z6 z7 z8 z9 z10 z11 z12 z13 z14 v_nodes v_letters v_rooms v_letterRows v_tokens v_notes v_lasts)) rfl rfl rfl hl.1 (rest := []) (Nat.le_of_ble_eq_true rfl) rfl dX5_node_70 ⟨Nat.zero_le _, Nat.zero_le _⟩ (fun H locs hP hD hS => ?_)
        obtain rfl := Option.some.inj hf
        exact hret _ _ _ _ dX5_node_73 hP hS
      · rw [if_neg hc1] at hf
        by_cases hc2 : x2 = (2 : Int32)
        · rw [if_pos hc2] at hf
          refine lv_tableIn (tgt := 74) hx hb dX5_node_17 (by rw [hc2]; decide) (by rw [hc2]; decide) (by rw [hc2]; first | done | rfl) (by decide) ?_
          refine lv_aload_n hx hb dX5_node_74 rfl (lv_at hl 0 rfl) ?_
          refine kget C inX5 hP 0 rfl rfl 2 (by decide) mw_217 rfl dX5_node_75 ?_
          refine lv_iload_n hx hb dX5_node_78 rfl (lv_at hl 1 rfl) ?_
          obtain ⟨q79, hq79, hf⟩ := bd_some hf
          refine kcVi C (kX4_copiesIn (l := l) (D := D) (k := k) h1 h2 h5 z5 z6 z7 z8 z9 (.ref h6) (.ref h7) z10 z11 z12 (.ref h3) z13 (.ref h4) (.int v_nodes) z14 v_letters v_tokens x1 q79 hq79) mt_X4_copiesIn mw_433 ⟨rfl, rfl, Nat.le_of_ble_eq_true rfl, Nat.le_of_ble_eq_true rfl⟩ hP hD hS 1 rfl rfl rfl [1, 2, 5] rfl rfl [none, some 0, some 1, none, none, some 2, none, none] rfl rfl (w2 := (wX5_node k h0 h1 h2 h3 h4 h5 h6 h7 z0 z1 z2 z3 z4 z5 z6 z7 z8 z9 z10 z11 z12 z13 z14 v_nodes v_letters v_rooms v_letterRows v_tokens v_notes v_lasts)) rfl rfl rfl hl.1 (rest := []) (Nat.le_of_ble_eq_true rfl) rfl dX5_node_79 ⟨Nat.zero_le _, Nat.zero_le _⟩ (fun H locs hP hD hS => ?_)
          obtain rfl := Option.some.inj hf
          exact hret _ _ _ _ dX5_node_82 hP hS
        · rw [if_neg hc2] at hf
          by_cases hc3 : x2 = (3 : Int32)
          · rw [if_pos hc3] at hf
            refine lv_tableIn (tgt := 83) hx hb dX5_node_17 (by rw [hc3]; decide) (by rw [hc3]; decide) (by rw [hc3]; first | done | rfl) (by decide) ?_
            refine lv_aload_n hx hb dX5_node_83 rfl (lv_at hl 0 rfl) ?_
            refine kget C inX5 hP 0 rfl rfl 2 (by decide) mw_217 rfl dX5_node_84 ?_
            refine kget C inX4 hP 1 rfl rfl 7 (by decide) mw_152 rfl dX5_node_87 ?_
            refine lv_iload_n hx hb dX5_node_90 rfl (lv_at hl 1 rfl) ?_
            obtain ⟨hin, hf⟩ := gd_some hf
            refine kiald C hP 6 rfl hin dX5_node_91 (j := x1.toNatClampNeg) rfl ?_
            obtain ⟨q92, hq92, hf⟩ := bd_some hf
            refine kcSi C (kJ6_bitCount_0f7a4 (l := l) (D := D) (k := k) (v_notes x1.toNatClampNeg) q92 hq92) mt_J6_bitCount_0f7a4 mw_434 ⟨rfl, rfl, Nat.le_of_ble_eq_true rfl, Nat.le_of_ble_eq_true rfl⟩ hP hD hS [] rfl rfl [none, none, none, none, none, none, none, none] rfl rfl (w2 := (wX5_node k h0 h1 h2 h3 h4 h5 h6 h7 z0 z1 z2 z3 z4 z5 z6 z7 z8 z9 z10 z11 z12 z13 z14 v_nodes v_letters v_rooms v_letterRows v_tokens v_notes v_lasts)) rfl rfl rfl hl.1 (rest := []) (Nat.le_of_ble_eq_true rfl) rfl dX5_node_92 ⟨Nat.zero_le _, Nat.zero_le _⟩ (fun H locs hP hD hS => ?_)
            obtain rfl := Option.some.inj hf
            exact hret _ _ _ _ dX5_node_95 hP hS
          · rw [if_neg hc3] at hf
            by_cases hc4 : x2 = (4 : Int32)
            · rw [if_pos hc4] at hf
              refine lv_tableIn (tgt := 96) hx hb dX5_node_17 (by rw [hc4]; decide) (by rw [hc4]; decide) (by rw [hc4]; first | done | rfl) (by decide) ?_
              refine lv_aload_n hx hb dX5_node_96 rfl (lv_at hl 0 rfl) ?_
              refine kget C inX5 hP 0 rfl rfl 2 (by decide) mw_217 rfl dX5_node_97 ?_
              refine lv_iload_n hx hb dX5_node_100 rfl (lv_at hl 1 rfl) ?_
              obtain ⟨q101, hq101, hf⟩ := bd_some hf
              refine kcVi C (kX4_othersMet (l := l) (D := D) (k := k) h1 h2 h7 z5 z6 z7 (.ref h5) z8 z9 (.ref h6) z10 z11 z12 (.ref h3) z13 (.ref h4) z14 (.int v_letters) v_nodes v_lasts x1 q101 hq101) mt_X4_othersMet mw_440 ⟨rfl, rfl, Nat.le_of_ble_eq_true rfl, Nat.le_of_ble_eq_true rfl⟩ hP hD hS 1 rfl rfl rfl [1, 2, 7] rfl rfl [none, some 0, some 1, none, none, none, none, some 2] rfl rfl (w2 := (wX5_node k h0 h1 h2 h3 h4 h5 h6 h7 z0 z1 z2 z3 z4 z5 z6 z7 z8 z9 z10 z11 z12 z13 z14 v_nodes v_letters v_rooms v_letterRows v_tokens v_notes v_lasts)) rfl rfl rfl hl.1 (rest := []) (Nat.le_of_ble_eq_true rfl) rfl dX5_node_101 ⟨Nat.zero_le _, Nat.zero_le _⟩ (fun H locs hP hD hS => ?_)
              obtain rfl := Option.some.inj hf
              exact hret _ _ _ _ dX5_node_104 hP hS
            · rw [if_neg hc4] at hf
              have hd : W p l e ({ frames := 2, cells := 0, slots := 0, locals := 45 } : Room) s m args below meth c H locs 0 0 Q (F0 m 105 ls []) := by
                refine lv_iconst (v := (-1 : Int32)) hx hb dX5_node_105 (by decide) ?_
                obtain rfl := Option.some.inj hf
                exact hret _ _ _ _ dX5_node_106 hP hS
              exact lv_tableOut (tgt := 105) hx hb dX5_node_17 (by have := lv_neT hc0 (show ((0 : Int32)).toInt = 0 from rfl); have := lv_neT hc1 (show ((1 : Int32)).toInt = 1 from rfl); have := lv_neT hc2 (show ((2 : Int32)).toInt = 2 from rfl); have := lv_neT hc3 (show ((3 : Int32)).toInt = 3 from rfl); have := lv_neT hc4 (show ((4 : Int32)).toInt = 4 from rfl); omega) (by decide) hd
  · rw [if_pos hc] at hf
    refine lv_iconst (v := (-1 : Int32)) hx hb dX5_node_14 (by decide) ?_
    obtain rfl := Option.some.inj hf
    exact hret _ _ _ _ dX5_node_15 hP hS
set_option maxHeartbeats 4000000 in
set_option maxRecDepth 100000 in
theorem kX5_meeting {l : Launch} {D : va_G} {k : Nat → ClassId} (h0 h1 h2 h3 h4 : Nat) (z0 z1 z2 z3 z4 z5 z6 z7 z8 z9 z10 z11 z12 z13 z14 z15 z16 z17 : Value) (v_clock : Int32) (v_meetings : Int32) (v_meetingRows : Nat → Int32) (v_rules : Nat → Int32) (x1 : Int32) (x2 : Int32) (q : Int32) (hf : fX5_meeting v_clock v_meetings v_meetingRows v_rules x1 x2 = some q) : KMi l yX5_meeting cX5_meeting 3 (some .int) ({ frames := 2, cells := 0, slots := 0, locals := 46 } : Room) D k [.ref h0, .int x1, .int x2] (wX5_meeting k h0 h1 h2 h3 h4 z0 z1 z2 z3 z4 z5 z6 z7 z8 z9 z10 z11 z12 z13 z14 z15 z16 z17 v_clock v_meetings v_meetingRows v_rules) q (wX5_meeting k h0 h1 h2 h3 h4 z0 z1 z2 z3 z4 z5 z6 z7 z8 z9 z10 z11 z12 z13 z14 z15 z16 z17 v_clock v_meetings v_meetingRows v_rules) := by
  refine kent_i (by decide) (Nat.le_of_ble_eq_true rfl) ?_
  intro p e s m below meth c A Q ls C hP hD hS hl hret
  obtain ⟨hx, hb, -⟩ := id C
  have hl : lv_has ls 3 [(0, .ref h0), (1, .int x1), (2, .int x2)] := hl
  unfold fX5_meeting at hf
  generalize ([.ref h0, .int x1, .int x2] : List Value).toArray = args at *
  refine lv_iload_n hx hb dX5_meeting_0 rfl (lv_at hl 1 rfl) ?_
  refine lv_if_lt (tgt := 27) hx hb dX5_meeting_1 (by decide) (fun hc => ?_) (fun hc => ?_)
  · rw [if_pos hc] at hf
    refine lv_iconst (v := (-1 : Int32)) hx hb dX5_meeting_27 (by decide) ?_
    obtain rfl := Option.some.inj hf
    exact hret _ _ _ _ dX5_meeting_28 hP hS
  · rw [if_neg hc] at hf
    refine lv_iload_n hx hb dX5_meeting_4 rfl (lv_at hl 1 rfl) ?_
    refine lv_aload_n hx hb dX5_meeting_5 rfl (lv_at hl 0 rfl) ?_
    refine kget C inX5 hP 0 rfl rfl 2 (by decide) mw_217 rfl dX5_meeting_6 ?_
    refine kget C inX4 hP 1 rfl rfl 0 (by decide) mw_131 rfl dX5_meeting_9 ?_
    refine kget C inX0 hP 2 rfl rfl 4 (by decide) mw_66 rfl dX5_meeting_12 ?_
    refine lv_icmp_ge (tgt := 27) hx hb dX5_meeting_15 (by decide) (fun hc => ?_) (fun hc => ?_)
    · rw [if_pos hc] at hf
      refine lv_iconst (v := (-1 : Int32)) hx hb dX5_meeting_27 (by decide) ?_
      obtain rfl := Option.some.inj hf
      exact hret _ _ _ _ dX5_meeting_28 hP hS
    · rw [if_neg hc] at hf
      refine lv_iload_n hx hb dX5_meeting_18 rfl (lv_at hl 2 rfl) ?_
      refine lv_if_lt (tgt := 27) hx hb dX5_meeting_19 (by decide) (fun hc => ?_) (fun hc => ?_)
      · rw [if_pos hc] at hf
        refine lv_iconst (v := (-1 : Int32)) hx hb dX5_meeting_27 (by decide) ?_
        obtain rfl := Option.some.inj hf
        exact hret _ _ _ _ dX5_meeting_28 hP hS
      · rw [if_neg hc] at hf
        refine lv_iload_n hx hb dX5_meeting_22 rfl (lv_at hl 2 rfl) ?_
        refine lv_iconst (v := (4 : Int32)) hx hb dX5_meeting_23 (by decide) ?_
        refine lv_icmp_le (tgt := 29) hx hb dX5_meeting_24 (by decide) (fun hc => ?_) (fun hc => ?_)
        · rw [if_pos hc] at hf
          refine lv_iload_n hx hb dX5_meeting_29 rfl (lv_at hl 2 rfl) ?_
          refine lv_iconst (v := (4 : Int32)) hx hb dX5_meeting_30 (by decide) ?_
          refine lv_icmp_ne (tgt := 62) hx hb dX5_meeting_31 (by decide) (fun hc => ?_) (fun hc => ?_)
          · rw [if_neg hc] at hf
            refine lv_aload_n hx hb dX5_meeting_62 rfl (lv_at hl 0 rfl) ?_
            refine kget C inX5 hP 0 rfl rfl 2 (by decide) mw_217 rfl dX5_meeting_63 ?_
            refine kget C inX4 hP 1 rfl rfl 0 (by decide) mw_131 rfl dX5_meeting_66 ?_
            refine lv_iload_n hx hb dX5_meeting_69 rfl (lv_at hl 1 rfl) ?_
            refine lv_iload_n hx hb dX5_meeting_70 rfl (lv_at hl 2 rfl) ?_
            obtain ⟨q71, hq71, hf⟩ := bd_some hf
            refine kcVi C (kX0_ofMeeting (l := l) (D := D) (k := k) h2 h3 z14 z15 z16 (.int v_meetings) z17 v_meetingRows x1 x2 q71 hq71) mt_X0_ofMeeting mw_456 ⟨rfl, rfl, Nat.le_of_ble_eq_true rfl, Nat.le_of_ble_eq_true rfl⟩ hP hD hS 2 rfl rfl rfl [2, 3] rfl rfl [none, none, some 0, some 1, none] rfl rfl (w2 := (wX5_meeting k h0 h1 h2 h3 h4 z0 z1 z2 z3 z4 z5 z6 z7 z8 z9 z10 z11 z12 z13 z14 z15 z16 z17 v_clock v_meetings v_meetingRows v_rules)) rfl rfl rfl hl.1 (rest := []) (Nat.le_of_ble_eq_true rfl) rfl dX5_meeting_71 ⟨Nat.zero_le _, Nat.zero_le _⟩ (fun H locs hP hD hS => ?_)
            obtain rfl := Option.some.inj hf
            exact hret _ _ _ _ dX5_meeting_74 hP hS
          · rw [if_pos hc] at hf
            refine lv_aload_n hx hb dX5_meeting_34 rfl (lv_at hl 0 rfl) ?_
            refine kget C inX5 hP 0 rfl rfl 2 (by decide) mw_217 rfl dX5_meeting_35 ?_
            refine kget C inX4 hP 1 rfl rfl 0 (by decide) mw_131 rfl dX5_meeting_38 ?_
            refine lv_iload_n hx hb dX5_meeting_41 rfl (lv_at hl 1 rfl) ?_
            refine lv_aload_n hx hb dX5_meeting_42 rfl (lv_at hl 0 rfl) ?_
            refine kget C inX5 hP 0 rfl rfl 2 (by decide) mw_217 rfl dX5_meeting_43 ?_
            refine kget C inX4 hP 1 rfl rfl 11 (by decide) mw_162 rfl dX5_meeting_46 ?_
            refine lv_aload_n hx hb dX5_meeting_49 rfl (lv_at hl 0 rfl) ?_
            refine kget C inX5 hP 0 rfl rfl 2 (by decide) mw_217 rfl dX5_meeting_50 ?_
            refine kget C inX4 hP 1 rfl rfl 1 (by decide) mw_134 rfl dX5_meeting_53 ?_
            refine lv_iconst (v := (0 : Int32)) hx hb dX5_meeting_56 (by decide) ?_
            refine kiald C hP 4 rfl (by unfold vp_in; decide) dX5_meeting_57 (j := 0) (by decide) ?_
            obtain ⟨q58, hq58, hf⟩ := bd_some hf
            refine kcVi C (kX0_nextTime (l := l) (D := D) (k := k) h2 h3 z14 z15 z16 (.int v_meetings) z17 v_meetingRows x1 v_clock (v_rules 0) q58 hq58) mt_X0_nextTime mw_452 ⟨rfl, rfl, Nat.le_of_ble_eq_true rfl, Nat.le_of_ble_eq_true rfl⟩ hP hD hS 2 rfl rfl rfl [2, 3] rfl rfl [none, none, some 0, some 1, none] rfl rfl (w2 := (wX5_meeting k h0 h1 h2 h3 h4 z0 z1 z2 z3 z4 z5 z6 z7 z8 z9 z10 z11 z12 z13 z14 z15 z16 z17 v_clock v_meetings v_meetingRows v_rules)) rfl rfl rfl hl.1 (rest := []) (Nat.le_of_ble_eq_true rfl) rfl dX5_meeting_58 ⟨Nat.zero_le _, Nat.zero_le _⟩ (fun H locs hP hD hS => ?_)
            obtain rfl := Option.some.inj hf
            exact hret _ _ _ _ dX5_meeting_61 hP hS
        · rw [if_neg hc] at hf
          refine lv_iconst (v := (-1 : Int32)) hx hb dX5_meeting_27 (by decide) ?_
          obtain rfl := Option.some.inj hf
          exact hret _ _ _ _ dX5_meeting_28 hP hS
set_option maxHeartbeats 4000000 in
set_option maxRecDepth 100000 in
theorem kX5_letter {l : Launch} {D : va_G} {k : Nat → ClassId} (h0 h1 h2 h3 h4 h5 h6 : Nat) (z0 z1 z2 z3 z4 z5 z6 z7 z8 z9 z10 z11 z12 z13 z14 : Value) (v_clock : Int32) (v_nodes : Int32) (v_letters : Int32) (v_letterRows : Nat → Int32) (v_tokens : Nat → Int32) (v_deliveredAt : Nat → Int32) (v_deliveredHops : Nat → Int32) (x1 : Int32) (x2 : Int32) (q : Int32) (hf : fX5_letter v_clock v_nodes v_letters v_letterRows v_tokens v_deliveredAt v_deliveredHops x1 x2 = some q) : KMi l yX5_letter cX5_letter 3 (some .int) ({ frames := 3, cells := 0, slots := 0, locals := 66 } : Room) D k [.ref h0, .int x1, .int x2] (wX5_letter k h0 h1 h2 h3 h4 h5 h6 z0 z1 z2 z3 z4 z5 z6 z7 z8 z9 z10 z11 z12 z13 z14 v_clock v_nodes v_letters v_letterRows v_tokens v_deliveredAt v_deliveredHops) q (wX5_letter k h0 h1 h2 h3 h4 h5 h6 z0 z1 z2 z3 z4 z5 z6 z7 z8 z9 z10 z11 z12 z13 z14 v_clock v_nodes v_letters v_letterRows v_tokens v_deliveredAt v_deliveredHops) := by
  refine kent_i (by decide) (Nat.le_of_ble_eq_true rfl) ?_
  intro p e s m below meth c A Q ls C hP hD hS hl hret
  obtain ⟨hx, hb, -⟩ := id C
  have hl : lv_has ls 3 [(0, .ref h0), (1, .int x1), (2, .int x2)] := hl
  unfold fX5_letter at hf
  generalize ([.ref h0, .int x1, .int x2] : List Value).toArray = args at *
  refine lv_aload_n hx hb dX5_letter_0 rfl (lv_at hl 0 rfl) ?_
  refine kget C inX5 hP 0 rfl rfl 2 (by decide) mw_217 rfl dX5_letter_1 ?_
  refine kget C inX4 hP 1 rfl rfl 0 (by decide) mw_131 rfl dX5_letter_4 ?_
  refine lv_iload_n hx hb dX5_letter_7 rfl (lv_at hl 1 rfl) ?_
  obtain ⟨q8, hq8, hf⟩ := bd_some hf
  refine kcVi C (kX0_hasLetter (l := l) (D := D) (k := k) h2 z12 z13 (.ref h3) (.int v_nodes) z14 v_letters x1 q8 hq8) mt_X0_hasLetter mw_461 ⟨rfl, rfl, Nat.le_of_ble_eq_true rfl, Nat.le_of_ble_eq_true rfl⟩ hP hD hS 2 rfl rfl rfl [2] rfl rfl [none, none, some 0, none, none, none, none] rfl rfl (w2 := (wX5_letter k h0 h1 h2 h3 h4 h5 h6 z0 z1 z2 z3 z4 z5 z6 z7 z8 z9 z10 z11 z12 z13 z14 v_clock v_nodes v_letters v_letterRows v_tokens v_deliveredAt v_deliveredHops)) rfl rfl rfl hl.1 (rest := []) (Nat.le_of_ble_eq_true rfl) rfl dX5_letter_8 ⟨Nat.zero_le _, Nat.zero_le _⟩ (fun H locs hP hD hS => ?_)
  refine lv_if_eq (tgt := 24) hx hb dX5_letter_11 (by decide) (fun hc => ?_) (fun hc => ?_)
  · rw [if_pos hc] at hf
    refine lv_iconst (v := (-1 : Int32)) hx hb dX5_letter_24 (by decide) ?_
    obtain rfl := Option.some.inj hf
    exact hret _ _ _ _ dX5_letter_25 hP hS
  · rw [if_neg hc] at hf
    refine lv_iload_n hx hb dX5_letter_14 rfl (lv_at hl 2 rfl) ?_
    refine lv_if_lt (tgt := 24) hx hb dX5_letter_15 (by decide) (fun hc => ?_) (fun hc => ?_)
    · rw [if_pos hc] at hf
      refine lv_iconst (v := (-1 : Int32)) hx hb dX5_letter_24 (by decide) ?_
      obtain rfl := Option.some.inj hf
      exact hret _ _ _ _ dX5_letter_25 hP hS
    · rw [if_neg hc] at hf
      refine lv_iload_n hx hb dX5_letter_18 rfl (lv_at hl 2 rfl) ?_
      refine lv_bipush (v := (10 : Int32)) hx hb dX5_letter_19 (by decide) ?_
      refine lv_icmp_le (tgt := 26) hx hb dX5_letter_21 (by decide) (fun hc => ?_) (fun hc => ?_)
      · rw [if_pos hc] at hf
        refine lv_iload_n hx hb dX5_letter_26 rfl (lv_at hl 2 rfl) ?_
        by_cases hc6 : x2 = (6 : Int32)
        · rw [if_pos hc6] at hf
          refine lv_tableIn (tgt := 60) hx hb dX5_letter_27 (by rw [hc6]; decide) (by rw [hc6]; decide) (by rw [hc6]; first | done | rfl) (by decide) ?_
          refine lv_aload_n hx hb dX5_letter_60 rfl (lv_at hl 0 rfl) ?_
          refine kget C inX5 hP 0 rfl rfl 2 (by decide) mw_217 rfl dX5_letter_61 ?_
          refine lv_iload_n hx hb dX5_letter_64 rfl (lv_at hl 1 rfl) ?_
          obtain ⟨q65, hq65, hf⟩ := bd_some hf
          refine kcVi C (kX4_stateOf (l := l) (D := D) (k := k) h1 h2 h3 h4 h5 z5 z6 z7 z8 z9 z10 z11 (.ref h6) z12 z13 z14 (.int v_letters) v_clock v_nodes v_letterRows v_tokens v_deliveredAt x1 q65 hq65) mt_X4_stateOf mw_465 ⟨rfl, rfl, Nat.le_of_ble_eq_true rfl, Nat.le_of_ble_eq_true rfl⟩ hP hD hS 1 rfl rfl rfl [1, 2, 3, 4, 5] rfl rfl [none, some 0, some 1, some 2, some 3, some 4, none] rfl rfl (w2 := (wX5_letter k h0 h1 h2 h3 h4 h5 h6 z0 z1 z2 z3 z4 z5 z6 z7 z8 z9 z10 z11 z12 z13 z14 v_clock v_nodes v_letters v_letterRows v_tokens v_deliveredAt v_deliveredHops)) rfl rfl rfl hl.1 (rest := []) (Nat.le_of_ble_eq_true rfl) rfl dX5_letter_65 ⟨Nat.zero_le _, Nat.zero_le _⟩ (fun H locs hP hD hS => ?_)
          obtain rfl := Option.some.inj hf
          exact hret _ _ _ _ dX5_letter_68 hP hS
        · rw [if_neg hc6] at hf
          by_cases hc7 : x2 = (7 : Int32)
          · rw [if_pos hc7] at hf
            refine lv_tableIn (tgt := 69) hx hb dX5_letter_27 (by rw [hc7]; decide) (by rw [hc7]; decide) (by rw [hc7]; first | done | rfl) (by decide) ?_
            refine lv_aload_n hx hb dX5_letter_69 rfl (lv_at hl 0 rfl) ?_
            refine kget C inX5 hP 0 rfl rfl 2 (by decide) mw_217 rfl dX5_letter_70 ?_
            refine kget C inX4 hP 1 rfl rfl 9 (by decide) mw_156 rfl dX5_letter_73 ?_
            refine lv_iload_n hx hb dX5_letter_76 rfl (lv_at hl 1 rfl) ?_
            obtain ⟨hin, hf⟩ := gd_some hf
            refine kiald C hP 5 rfl hin dX5_letter_77 (j := x1.toNatClampNeg) rfl ?_
            obtain rfl := Option.some.inj hf
            exact hret _ _ _ _ dX5_letter_78 hP hS
          · rw [if_neg hc7] at hf
            by_cases hc8 : x2 = (8 : Int32)
            · rw [if_pos hc8] at hf
              refine lv_tableIn (tgt := 79) hx hb dX5_letter_27 (by rw [hc8]; decide) (by rw [hc8]; decide) (by rw [hc8]; first | done | rfl) (by decide) ?_
              refine lv_aload_n hx hb dX5_letter_79 rfl (lv_at hl 0 rfl) ?_
              refine kget C inX5 hP 0 rfl rfl 2 (by decide) mw_217 rfl dX5_letter_80 ?_
              refine kget C inX4 hP 1 rfl rfl 10 (by decide) mw_159 rfl dX5_letter_83 ?_
              refine lv_iload_n hx hb dX5_letter_86 rfl (lv_at hl 1 rfl) ?_
              obtain ⟨hin, hf⟩ := gd_some hf
              refine kiald C hP 6 rfl hin dX5_letter_87 (j := x1.toNatClampNeg) rfl ?_
              obtain rfl := Option.some.inj hf
              exact hret _ _ _ _ dX5_letter_88 hP hS
            · rw [if_neg hc8] at hf
              by_cases hc9 : x2 = (9 : Int32)
              · rw [if_pos hc9] at hf
                refine lv_tableIn (tgt := 89) hx hb dX5_letter_27 (by rw [hc9]; decide) (by rw [hc9]; decide) (by rw [hc9]; first | done | rfl) (by decide) ?_
                refine lv_aload_n hx hb dX5_letter_89 rfl (lv_at hl 0 rfl) ?_
                refine kget C inX5 hP 0 rfl rfl 2 (by decide) mw_217 rfl dX5_letter_90 ?_
                refine lv_iload_n hx hb dX5_letter_93 rfl (lv_at hl 1 rfl) ?_
                obtain ⟨q94, hq94, hf⟩ := bd_some hf
                refine kcVi C (kX4_copiesOf (l := l) (D := D) (k := k) h1 h2 h4 z5 z6 z7 z8 z9 z10 z11 (.ref h5) (.ref h6) (.int v_clock) z12 z13 (.ref h3) z14 (.int v_letters) v_nodes v_tokens x1 q94 hq94) mt_X4_copiesOf mw_473 ⟨rfl, rfl, Nat.le_of_ble_eq_true rfl, Nat.le_of_ble_eq_true rfl⟩ hP hD hS 1 rfl rfl rfl [1, 2, 4] rfl rfl [none, some 0, some 1, none, some 2, none, none] rfl rfl (w2 := (wX5_letter k h0 h1 h2 h3 h4 h5 h6 z0 z1 z2 z3 z4 z5 z6 z7 z8 z9 z10 z11 z12 z13 z14 v_clock v_nodes v_letters v_letterRows v_tokens v_deliveredAt v_deliveredHops)) rfl rfl rfl hl.1 (rest := []) (Nat.le_of_ble_eq_true rfl) rfl dX5_letter_94 ⟨Nat.zero_le _, Nat.zero_le _⟩ (fun H locs hP hD hS => ?_)
                obtain rfl := Option.some.inj hf
                exact hret _ _ _ _ dX5_letter_97 hP hS
              · rw [if_neg hc9] at hf
                by_cases hc10 : x2 = (10 : Int32)
                · rw [if_pos hc10] at hf
                  refine lv_tableIn (tgt := 98) hx hb dX5_letter_27 (by rw [hc10]; decide) (by rw [hc10]; decide) (by rw [hc10]; first | done | rfl) (by decide) ?_
                  refine lv_aload_n hx hb dX5_letter_98 rfl (lv_at hl 0 rfl) ?_
                  refine kget C inX5 hP 0 rfl rfl 2 (by decide) mw_217 rfl dX5_letter_99 ?_
                  refine lv_iload_n hx hb dX5_letter_102 rfl (lv_at hl 1 rfl) ?_
                  obtain ⟨q103, hq103, hf⟩ := bd_some hf
                  refine kcVi C (kX4_tokensOf (l := l) (D := D) (k := k) h1 h2 h4 z5 z6 z7 z8 z9 z10 z11 (.ref h5) (.ref h6) (.int v_clock) z12 z13 (.ref h3) z14 (.int v_letters) v_nodes v_tokens x1 q103 hq103) mt_X4_tokensOf mw_474 ⟨rfl, rfl, Nat.le_of_ble_eq_true rfl, Nat.le_of_ble_eq_true rfl⟩ hP hD hS 1 rfl rfl rfl [1, 2, 4] rfl rfl [none, some 0, some 1, none, some 2, none, none] rfl rfl (w2 := (wX5_letter k h0 h1 h2 h3 h4 h5 h6 z0 z1 z2 z3 z4 z5 z6 z7 z8 z9 z10 z11 z12 z13 z14 v_clock v_nodes v_letters v_letterRows v_tokens v_deliveredAt v_deliveredHops)) rfl rfl rfl hl.1 (rest := []) (Nat.le_of_ble_eq_true rfl) rfl dX5_letter_103 ⟨Nat.zero_le _, Nat.zero_le _⟩ (fun H locs hP hD hS => ?_)
                  obtain rfl := Option.some.inj hf
                  exact hret _ _ _ _ dX5_letter_106 hP hS
                · rw [if_neg hc10] at hf
                  have hd : W p l e ({ frames := 3, cells := 0, slots := 0, locals := 66 } : Room) s m args below meth c H locs 0 0 Q (F0 m 107 ls []) := by
                    refine lv_aload_n hx hb dX5_letter_107 rfl (lv_at hl 0 rfl) ?_
                    refine kget C inX5 hP 0 rfl rfl 2 (by decide) mw_217 rfl dX5_letter_108 ?_
                    refine kget C inX4 hP 1 rfl rfl 0 (by decide) mw_131 rfl dX5_letter_111 ?_
                    refine lv_iload_n hx hb dX5_letter_114 rfl (lv_at hl 1 rfl) ?_
                    refine lv_iload_n hx hb dX5_letter_115 rfl (lv_at hl 2 rfl) ?_
                    obtain ⟨q116, hq116, hf⟩ := bd_some hf
                    refine kcVi C (kX0_ofLetter (l := l) (D := D) (k := k) h2 h3 z12 z13 (.int v_nodes) z14 (.int v_letters) v_letterRows x1 x2 q116 hq116) mt_X0_ofLetter mw_481 ⟨rfl, rfl, Nat.le_of_ble_eq_true rfl, Nat.le_of_ble_eq_true rfl⟩ hP hD hS 2 rfl rfl rfl [2, 3] rfl rfl [none, none, some 0, some 1, none, none, none] rfl rfl (w2 := (wX5_letter k h0 h1 h2 h3 h4 h5 h6 z0 z1 z2 z3 z4 z5 z6 z7 z8 z9 z10 z11 z12 z13 z14 v_clock v_nodes v_letters v_letterRows v_tokens v_deliveredAt v_deliveredHops)) rfl rfl rfl hl.1 (rest := []) (Nat.le_of_ble_eq_true rfl) rfl dX5_letter_116 ⟨Nat.zero_le _, Nat.zero_le _⟩ (fun H locs hP hD hS => ?_)
                    obtain rfl := Option.some.inj hf
                    exact hret _ _ _ _ dX5_letter_119 hP hS
                  exact lv_tableOut (tgt := 107) hx hb dX5_letter_27 (by have := lv_neT hc6 (show ((6 : Int32)).toInt = 6 from rfl); have := lv_neT hc7 (show ((7 : Int32)).toInt = 7 from rfl); have := lv_neT hc8 (show ((8 : Int32)).toInt = 8 from rfl); have := lv_neT hc9 (show ((9 : Int32)).toInt = 9 from rfl); have := lv_neT hc10 (show ((10 : Int32)).toInt = 10 from rfl); omega) (by decide) hd
      · rw [if_neg hc] at hf
        refine lv_iconst (v := (-1 : Int32)) hx hb dX5_letter_24 (by decide) ?_
        obtain rfl := Option.some.inj hf
        exact hret _ _ _ _ dX5_letter_25 hP hS
set_option maxHeartbeats 4000000 in
set_option maxRecDepth 100000 in
theorem kX5_copy {l : Launch} {D : va_G} {k : Nat → ClassId} (h0 h1 h2 h3 h4 h5 h6 h7 h8 : Nat) (z0 z1 z2 z3 z4 z5 z6 z7 z8 z9 z10 z11 z12 z13 z14 z15 z16 z17 : Value) (v_nodes : Int32) (v_letters : Int32) (v_letterRows : Nat → Int32) (v_tokens : Nat → Int32) (v_hops : Nat → Int32) (v_since : Nat → Int32) (v_order : Nat → Int32) (x1 : Int32) (x2 : Int32) (x3 : Int32) (q : Int32 × (Nat → Int32)) (hf : fX5_copy v_nodes v_letters v_letterRows v_tokens v_hops v_since v_order x1 x2 x3 = some q) : KMi l yX5_copy cX5_copy 6 (some .int) ({ frames := 4, cells := 0, slots := 0, locals := 96 } : Room) D k [.ref h0, .int x1, .int x2, .int x3] (wX5_copy k h0 h1 h2 h3 h4 h5 h6 h7 h8 z0 z1 z2 z3 z4 z5 z6 z7 z8 z9 z10 z11 z12 z13 z14 z15 z16 z17 v_nodes v_letters v_letterRows v_tokens v_hops v_since v_order) q.1 (wX5_copy k h0 h1 h2 h3 h4 h5 h6 h7 h8 z0 z1 z2 z3 z4 z5 z6 z7 z8 z9 z10 z11 z12 z13 z14 z15 z16 z17 v_nodes v_letters v_letterRows v_tokens v_hops v_since q.2) := by
  refine kent_i (by decide) (Nat.le_of_ble_eq_true rfl) ?_
  intro p e s m below meth c A Q ls C hP hD hS hl hret
  obtain ⟨hx, hb, -⟩ := id C
  have hl : lv_has ls 6 [(0, .ref h0), (1, .int x1), (2, .int x2), (3, .int x3)] := hl
  unfold fX5_copy at hf
  generalize ([.ref h0, .int x1, .int x2, .int x3] : List Value).toArray = args at *
  refine lv_aload_n hx hb dX5_copy_0 rfl (lv_at hl 0 rfl) ?_
  refine kget C inX5 hP 0 rfl rfl 2 (by decide) mw_217 rfl dX5_copy_1 ?_
  refine kget C inX4 hP 1 rfl rfl 0 (by decide) mw_131 rfl dX5_copy_4 ?_
  refine lv_iload_n hx hb dX5_copy_7 rfl (lv_at hl 1 rfl) ?_
  obtain ⟨q8, hq8, hf⟩ := bd_some hf
  refine kcVi C (kX0_hasNode (l := l) (D := D) (k := k) h2 z12 z13 (.ref h3) z14 (.int v_letters) v_nodes x1 q8 hq8) mt_X0_hasNode mw_424 ⟨rfl, rfl, Nat.le_of_ble_eq_true rfl, Nat.le_of_ble_eq_true rfl⟩ hP hD hS 2 rfl rfl rfl [2] rfl rfl [none, none, some 0, none, none, none, none, none, none] rfl rfl (w2 := (wX5_copy k h0 h1 h2 h3 h4 h5 h6 h7 h8 z0 z1 z2 z3 z4 z5 z6 z7 z8 z9 z10 z11 z12 z13 z14 z15 z16 z17 v_nodes v_letters v_letterRows v_tokens v_hops v_since v_order)) rfl rfl rfl hl.1 (rest := []) (Nat.le_of_ble_eq_true rfl) rfl dX5_copy_8 ⟨Nat.zero_le _, Nat.zero_le _⟩ (fun H locs hP hD hS => ?_)
  refine lv_if_eq (tgt := 27) hx hb dX5_copy_11 (by decide) (fun hc => ?_) (fun hc => ?_)
  · rw [if_pos hc] at hf
    refine lv_iconst (v := (-1 : Int32)) hx hb dX5_copy_27 (by decide) ?_
    obtain rfl := Option.some.inj hf
    exact hret _ _ _ _ dX5_copy_28 hP hS
  · rw [if_neg hc] at hf
    refine lv_iload_n hx hb dX5_copy_14 rfl (lv_at hl 2 rfl) ?_
    refine lv_if_lt (tgt := 27) hx hb dX5_copy_15 (by decide) (fun hc => ?_) (fun hc => ?_)
    · rw [if_pos hc] at hf
      refine lv_iconst (v := (-1 : Int32)) hx hb dX5_copy_27 (by decide) ?_
      obtain rfl := Option.some.inj hf
      exact hret _ _ _ _ dX5_copy_28 hP hS
    · rw [if_neg hc] at hf
      refine lv_iload_n hx hb dX5_copy_18 rfl (lv_at hl 3 rfl) ?_
      refine lv_if_lt (tgt := 27) hx hb dX5_copy_19 (by decide) (fun hc => ?_) (fun hc => ?_)
      · rw [if_pos hc] at hf
        refine lv_iconst (v := (-1 : Int32)) hx hb dX5_copy_27 (by decide) ?_
        obtain rfl := Option.some.inj hf
        exact hret _ _ _ _ dX5_copy_28 hP hS
      · rw [if_neg hc] at hf
        refine lv_iload_n hx hb dX5_copy_22 rfl (lv_at hl 3 rfl) ?_
        refine lv_iconst (v := (3 : Int32)) hx hb dX5_copy_23 (by decide) ?_
        refine lv_icmp_le (tgt := 29) hx hb dX5_copy_24 (by decide) (fun hc => ?_) (fun hc => ?_)
        · rw [if_pos hc] at hf
          refine lv_aload_n hx hb dX5_copy_29 rfl (lv_at hl 0 rfl) ?_
          refine kget C inX5 hP 0 rfl rfl 3 (by decide) mw_218 rfl dX5_copy_30 ?_
          refine lv_iload_n hx hb dX5_copy_33 rfl (lv_at hl 1 rfl) ?_
          refine lv_iload_n hx hb dX5_copy_34 rfl (lv_at hl 2 rfl) ?_
          obtain ⟨q35, hq35, hf⟩ := bd_some hf
          refine kcVi C (kX1_copyByOrder (l := l) (D := D) (k := k) h7 h1 h2 h3 h4 h5 h8 z15 z16 z17 z4 z5 z6 (.ref h6) z7 z8 z9 z10 z11 z12 z13 (.int v_nodes) z14 v_letters v_letterRows v_tokens v_hops v_order x1 x2 q35 hq35) mt_X1_copyByOrder mw_486 ⟨rfl, rfl, Nat.le_of_ble_eq_true rfl, Nat.le_of_ble_eq_true rfl⟩ hP hD hS 7 rfl rfl rfl [7, 1, 2, 3, 4, 5, 8] rfl rfl [none, some 1, some 2, some 3, some 4, some 5, none, some 0, some 6] rfl rfl (w2 := (wX5_copy k h0 h1 h2 h3 h4 h5 h6 h7 h8 z0 z1 z2 z3 z4 z5 z6 z7 z8 z9 z10 z11 z12 z13 z14 z15 z16 z17 v_nodes v_letters v_letterRows v_tokens v_hops v_since q35.2)) rfl rfl rfl hl.1 (rest := []) (Nat.le_of_ble_eq_true rfl) rfl dX5_copy_35 ⟨Nat.zero_le _, Nat.zero_le _⟩ (fun H locs hP hD hS => ?_)
          refine lv_istore (lv' := [(4, .int q35.1), (0, .ref h0), (1, .int x1), (2, .int x2), (3, .int x3)]) hx hb dX5_copy_38 hl (by decide) rfl (fun ls hl => ?_)
          refine lv_iload hx hb dX5_copy_40 (lv_at hl 0 rfl) ?_
          refine lv_if_ge (tgt := 48) hx hb dX5_copy_42 (by decide) (fun hc => ?_) (fun hc => ?_)
          · rw [if_pos hc] at hf
            refine lv_iload_n hx hb dX5_copy_48 rfl (lv_at hl 2 rfl) ?_
            refine lv_iload hx hb dX5_copy_49 (lv_at hl 0 rfl) ?_
            obtain ⟨q51, hq51, hf⟩ := bd_some hf
            refine kcSi C (kX4_place (l := l) (D := D) (k := k) x1 q35.1 q51 hq51) mt_X4_place mw_501 ⟨rfl, rfl, Nat.le_of_ble_eq_true rfl, Nat.le_of_ble_eq_true rfl⟩ hP hD hS [] rfl rfl [none, none, none, none, none, none, none, none, none] rfl rfl (w2 := (wX5_copy k h0 h1 h2 h3 h4 h5 h6 h7 h8 z0 z1 z2 z3 z4 z5 z6 z7 z8 z9 z10 z11 z12 z13 z14 z15 z16 z17 v_nodes v_letters v_letterRows v_tokens v_hops v_since q35.2)) rfl rfl rfl hl.1 (rest := []) (Nat.le_of_ble_eq_true rfl) rfl dX5_copy_51 ⟨Nat.zero_le _, Nat.zero_le _⟩ (fun H locs hP hD hS => ?_)
            refine lv_istore (lv' := [(5, .int q51), (4, .int q35.1), (0, .ref h0), (1, .int x1), (2, .int x2), (3, .int x3)]) hx hb dX5_copy_54 hl (by decide) rfl (fun ls hl => ?_)
            refine lv_iload_n hx hb dX5_copy_56 rfl (lv_at hl 5 rfl) ?_
            by_cases hc0 : x3 = (0 : Int32)
            · rw [if_pos hc0] at hf
              refine lv_tableIn (tgt := 84) hx hb dX5_copy_57 (by rw [hc0]; decide) (by rw [hc0]; decide) (by rw [hc0]; first | done | rfl) (by decide) ?_
              refine lv_iload hx hb dX5_copy_84 (lv_at hl 1 rfl) ?_
              obtain rfl := Option.some.inj hf
              exact hret _ _ _ _ dX5_copy_86 hP hS
            · rw [if_neg hc0] at hf
              by_cases hc1 : x3 = (1 : Int32)
              · rw [if_pos hc1] at hf
                refine lv_tableIn (tgt := 87) hx hb dX5_copy_57 (by rw [hc1]; decide) (by rw [hc1]; decide) (by rw [hc1]; first | done | rfl) (by decide) ?_
                refine lv_aload_n hx hb dX5_copy_87 rfl (lv_at hl 2 rfl) ?_
                refine kget C inX5 hP 0 rfl rfl 2 (by decide) mw_217 rfl dX5_copy_88 ?_
                refine kget C inX4 hP 1 rfl rfl 4 (by decide) mw_143 rfl dX5_copy_91 ?_
                refine lv_iload hx hb dX5_copy_94 (lv_at hl 0 rfl) ?_
                obtain ⟨hin, hf⟩ := gd_some hf
                refine kiald C hP 4 rfl hin dX5_copy_96 (j := q51.toNatClampNeg) rfl ?_
                obtain rfl := Option.some.inj hf
                exact hret _ _ _ _ dX5_copy_97 hP hS
              · rw [if_neg hc1] at hf
                by_cases hc2 : x3 = (2 : Int32)
                · rw [if_pos hc2] at hf
                  refine lv_tableIn (tgt := 98) hx hb dX5_copy_57 (by rw [hc2]; decide) (by rw [hc2]; decide) (by rw [hc2]; first | done | rfl) (by decide) ?_
                  refine lv_aload_n hx hb dX5_copy_98 rfl (lv_at hl 2 rfl) ?_
                  refine kget C inX5 hP 0 rfl rfl 2 (by decide) mw_217 rfl dX5_copy_99 ?_
                  refine kget C inX4 hP 1 rfl rfl 5 (by decide) mw_146 rfl dX5_copy_102 ?_
                  refine lv_iload hx hb dX5_copy_105 (lv_at hl 0 rfl) ?_
                  obtain ⟨hin, hf⟩ := gd_some hf
                  refine kiald C hP 5 rfl hin dX5_copy_107 (j := q51.toNatClampNeg) rfl ?_
                  obtain rfl := Option.some.inj hf
                  exact hret _ _ _ _ dX5_copy_108 hP hS
                · rw [if_neg hc2] at hf
                  have hd : W p l e ({ frames := 4, cells := 0, slots := 0, locals := 96 } : Room) s m args below meth c H locs 0 0 Q (F0 m 109 ls []) := by
                    refine lv_aload_n hx hb dX5_copy_109 rfl (lv_at hl 2 rfl) ?_
                    refine kget C inX5 hP 0 rfl rfl 2 (by decide) mw_217 rfl dX5_copy_110 ?_
                    refine kget C inX4 hP 1 rfl rfl 6 (by decide) mw_148 rfl dX5_copy_113 ?_
                    refine lv_iload hx hb dX5_copy_116 (lv_at hl 0 rfl) ?_
                    obtain ⟨hin, hf⟩ := gd_some hf
                    refine kiald C hP 6 rfl hin dX5_copy_118 (j := q51.toNatClampNeg) rfl ?_
                    obtain rfl := Option.some.inj hf
                    exact hret _ _ _ _ dX5_copy_119 hP hS
                  exact lv_tableOut (tgt := 109) hx hb dX5_copy_57 (by have := lv_neT hc0 (show ((0 : Int32)).toInt = 0 from rfl); have := lv_neT hc1 (show ((1 : Int32)).toInt = 1 from rfl); have := lv_neT hc2 (show ((2 : Int32)).toInt = 2 from rfl); omega) (by decide) hd
          · rw [if_neg hc] at hf
            refine lv_bipush (v := (-4 : Int32)) hx hb dX5_copy_45 (by decide) ?_
            obtain rfl := Option.some.inj hf
            exact hret _ _ _ _ dX5_copy_47 hP hS
        · rw [if_neg hc] at hf
          refine lv_iconst (v := (-1 : Int32)) hx hb dX5_copy_27 (by decide) ?_
          obtain rfl := Option.some.inj hf
          exact hret _ _ _ _ dX5_copy_28 hP hS
set_option maxHeartbeats 4000000 in
set_option maxRecDepth 100000 in
theorem kX5_note {l : Launch} {D : va_G} {k : Nat → ClassId} (h0 h1 h2 h3 : Nat) (z0 z1 z2 z3 z4 z5 z6 z7 z8 z9 z10 z11 z12 z13 z14 z15 z16 z17 z18 : Value) (v_nodes : Int32) (v_letters : Int32) (v_notes : Nat → Int32) (x1 : Int32) (x2 : Int32) (q : Int32) (hf : fX5_note v_nodes v_letters v_notes x1 x2 = some q) : KMi l yX5_note cX5_note 3 (some .int) ({ frames := 1, cells := 0, slots := 0, locals := 21 } : Room) D k [.ref h0, .int x1, .int x2] (wX5_note k h0 h1 h2 h3 z0 z1 z2 z3 z4 z5 z6 z7 z8 z9 z10 z11 z12 z13 z14 z15 z16 z17 z18 v_nodes v_letters v_notes) q (wX5_note k h0 h1 h2 h3 z0 z1 z2 z3 z4 z5 z6 z7 z8 z9 z10 z11 z12 z13 z14 z15 z16 z17 z18 v_nodes v_letters v_notes) := by
  refine kent_i (by decide) (Nat.le_of_ble_eq_true rfl) ?_
  intro p e s m below meth c A Q ls C hP hD hS hl hret
  obtain ⟨hx, hb, -⟩ := id C
  have hl : lv_has ls 3 [(0, .ref h0), (1, .int x1), (2, .int x2)] := hl
  unfold fX5_note at hf
  generalize ([.ref h0, .int x1, .int x2] : List Value).toArray = args at *
  refine lv_aload_n hx hb dX5_note_0 rfl (lv_at hl 0 rfl) ?_
  refine kget C inX5 hP 0 rfl rfl 2 (by decide) mw_217 rfl dX5_note_1 ?_
  refine kget C inX4 hP 1 rfl rfl 0 (by decide) mw_131 rfl dX5_note_4 ?_
  refine lv_iload_n hx hb dX5_note_7 rfl (lv_at hl 1 rfl) ?_
  obtain ⟨q8, hq8, hf⟩ := bd_some hf
  refine kcVi C (kX0_hasNode (l := l) (D := D) (k := k) h2 z15 z16 z17 z18 (.int v_letters) v_nodes x1 q8 hq8) mt_X0_hasNode mw_424 ⟨rfl, rfl, Nat.le_of_ble_eq_true rfl, Nat.le_of_ble_eq_true rfl⟩ hP hD hS 2 rfl rfl rfl [2] rfl rfl [none, none, some 0, none] rfl rfl (w2 := (wX5_note k h0 h1 h2 h3 z0 z1 z2 z3 z4 z5 z6 z7 z8 z9 z10 z11 z12 z13 z14 z15 z16 z17 z18 v_nodes v_letters v_notes)) rfl rfl rfl hl.1 (rest := []) (Nat.le_of_ble_eq_true rfl) rfl dX5_note_8 ⟨Nat.zero_le _, Nat.zero_le _⟩ (fun H locs hP hD hS => ?_)
  refine lv_if_eq (tgt := 28) hx hb dX5_note_11 (by decide) (fun hc => ?_) (fun hc => ?_)
  · rw [if_pos hc] at hf
    refine lv_iconst (v := (-1 : Int32)) hx hb dX5_note_28 (by decide) ?_
    obtain rfl := Option.some.inj hf
    exact hret _ _ _ _ dX5_note_29 hP hS
  · rw [if_neg hc] at hf
    refine lv_aload_n hx hb dX5_note_14 rfl (lv_at hl 0 rfl) ?_
    refine kget C inX5 hP 0 rfl rfl 2 (by decide) mw_217 rfl dX5_note_15 ?_
    refine kget C inX4 hP 1 rfl rfl 0 (by decide) mw_131 rfl dX5_note_18 ?_
    refine lv_iload_n hx hb dX5_note_21 rfl (lv_at hl 2 rfl) ?_
    obtain ⟨q22, hq22, hf⟩ := bd_some hf
    refine kcVi C (kX0_hasLetter (l := l) (D := D) (k := k) h2 z15 z16 z17 (.int v_nodes) z18 v_letters x2 q22 hq22) mt_X0_hasLetter mw_461 ⟨rfl, rfl, Nat.le_of_ble_eq_true rfl, Nat.le_of_ble_eq_true rfl⟩ hP hD hS 2 rfl rfl rfl [2] rfl rfl [none, none, some 0, none] rfl rfl (w2 := (wX5_note k h0 h1 h2 h3 z0 z1 z2 z3 z4 z5 z6 z7 z8 z9 z10 z11 z12 z13 z14 z15 z16 z17 z18 v_nodes v_letters v_notes)) rfl rfl rfl hl.1 (rest := []) (Nat.le_of_ble_eq_true rfl) rfl dX5_note_22 ⟨Nat.zero_le _, Nat.zero_le _⟩ (fun H locs hP hD hS => ?_)
    refine lv_if_ne (tgt := 30) hx hb dX5_note_25 (by decide) (fun hc => ?_) (fun hc => ?_)
    · rw [if_neg hc] at hf
      refine lv_aload_n hx hb dX5_note_30 rfl (lv_at hl 0 rfl) ?_
      refine kget C inX5 hP 0 rfl rfl 2 (by decide) mw_217 rfl dX5_note_31 ?_
      refine kget C inX4 hP 1 rfl rfl 7 (by decide) mw_152 rfl dX5_note_34 ?_
      refine lv_iload_n hx hb dX5_note_37 rfl (lv_at hl 1 rfl) ?_
      obtain ⟨hin, hf⟩ := gd_some hf
      refine kiald C hP 3 rfl hin dX5_note_38 (j := x1.toNatClampNeg) rfl ?_
      refine lv_iload_n hx hb dX5_note_39 rfl (lv_at hl 2 rfl) ?_
      refine lv_ishr hx hb dX5_note_40 ?_
      refine lv_iconst (v := (1 : Int32)) hx hb dX5_note_41 (by decide) ?_
      refine lv_iand hx hb dX5_note_42 ?_
      obtain rfl := Option.some.inj hf
      exact hret _ _ _ _ dX5_note_43 hP hS
    · rw [if_pos hc] at hf
      refine lv_iconst (v := (-1 : Int32)) hx hb dX5_note_28 (by decide) ?_
      obtain rfl := Option.some.inj hf
      exact hret _ _ _ _ dX5_note_29 hP hS
set_option maxHeartbeats 4000000 in
set_option maxRecDepth 100000 in
theorem kX5_last {l : Launch} {D : va_G} {k : Nat → ClassId} (h0 h1 h2 h3 : Nat) (z0 z1 z2 z3 z4 z5 z6 z7 z8 z9 z10 z11 z12 z13 z14 z15 z16 z17 z18 z19 : Value) (v_nodes : Int32) (v_lasts : Nat → Int32) (x1 : Int32) (x2 : Int32) (q : Int32) (hf : fX5_last v_nodes v_lasts x1 x2 = some q) : KMi l yX5_last cX5_last 4 (some .int) ({ frames := 2, cells := 0, slots := 0, locals := 43 } : Room) D k [.ref h0, .int x1, .int x2] (wX5_last k h0 h1 h2 h3 z0 z1 z2 z3 z4 z5 z6 z7 z8 z9 z10 z11 z12 z13 z14 z15 z16 z17 z18 z19 v_nodes v_lasts) q (wX5_last k h0 h1 h2 h3 z0 z1 z2 z3 z4 z5 z6 z7 z8 z9 z10 z11 z12 z13 z14 z15 z16 z17 z18 z19 v_nodes v_lasts) := by
  refine kent_i (by decide) (Nat.le_of_ble_eq_true rfl) ?_
  intro p e s m below meth c A Q ls C hP hD hS hl hret
  obtain ⟨hx, hb, -⟩ := id C
  have hl : lv_has ls 4 [(0, .ref h0), (1, .int x1), (2, .int x2)] := hl
  unfold fX5_last at hf
  generalize ([.ref h0, .int x1, .int x2] : List Value).toArray = args at *
  refine lv_aload_n hx hb dX5_last_0 rfl (lv_at hl 0 rfl) ?_
  refine kget C inX5 hP 0 rfl rfl 2 (by decide) mw_217 rfl dX5_last_1 ?_
  refine kget C inX4 hP 1 rfl rfl 0 (by decide) mw_131 rfl dX5_last_4 ?_
  refine lv_iload_n hx hb dX5_last_7 rfl (lv_at hl 1 rfl) ?_
  refine lv_iload_n hx hb dX5_last_8 rfl (lv_at hl 2 rfl) ?_
  obtain ⟨q9, hq9, hf⟩ := bd_some hf
  refine kcVi C (kX0_hasPair (l := l) (D := D) (k := k) h2 z15 z16 z17 z18 z19 v_nodes x1 x2 q9 hq9) mt_X0_hasPair mw_510 ⟨rfl, rfl, Nat.le_of_ble_eq_true rfl, Nat.le_of_ble_eq_true rfl⟩ hP hD hS 2 rfl rfl rfl [2] rfl rfl [none, none, some 0, none] rfl rfl (w2 := (wX5_last k h0 h1 h2 h3 z0 z1 z2 z3 z4 z5 z6 z7 z8 z9 z10 z11 z12 z13 z14 z15 z16 z17 z18 z19 v_nodes v_lasts)) rfl rfl rfl hl.1 (rest := []) (Nat.le_of_ble_eq_true rfl) rfl dX5_last_9 ⟨Nat.zero_le _, Nat.zero_le _⟩ (fun H locs hP hD hS => ?_)
  refine lv_if_ne (tgt := 17) hx hb dX5_last_12 (by decide) (fun hc => ?_) (fun hc => ?_)
  · rw [if_neg hc] at hf
    refine lv_aload_n hx hb dX5_last_17 rfl (lv_at hl 0 rfl) ?_
    refine kget C inX5 hP 0 rfl rfl 2 (by decide) mw_217 rfl dX5_last_18 ?_
    refine lv_iload_n hx hb dX5_last_21 rfl (lv_at hl 1 rfl) ?_
    refine lv_iload_n hx hb dX5_last_22 rfl (lv_at hl 2 rfl) ?_
    obtain ⟨q23, hq23, hf⟩ := bd_some hf
    refine kcVi C (kX4_lastOf (l := l) (D := D) (k := k) h1 h3 (.ref h2) z5 z6 z7 z8 z9 z10 z11 z12 z13 z14 v_lasts x1 x2 q23 hq23) mt_X4_lastOf mw_515 ⟨rfl, rfl, Nat.le_of_ble_eq_true rfl, Nat.le_of_ble_eq_true rfl⟩ hP hD hS 1 rfl rfl rfl [1, 3] rfl rfl [none, some 0, none, some 1] rfl rfl (w2 := (wX5_last k h0 h1 h2 h3 z0 z1 z2 z3 z4 z5 z6 z7 z8 z9 z10 z11 z12 z13 z14 z15 z16 z17 z18 z19 v_nodes v_lasts)) rfl rfl rfl hl.1 (rest := []) (Nat.le_of_ble_eq_true rfl) rfl dX5_last_23 ⟨Nat.zero_le _, Nat.zero_le _⟩ (fun H locs hP hD hS => ?_)
    refine lv_istore_n (lv' := [(3, .int q23), (0, .ref h0), (1, .int x1), (2, .int x2)]) hx hb dX5_last_26 rfl hl (by decide) rfl (fun ls hl => ?_)
    refine lv_iload_n hx hb dX5_last_27 rfl (lv_at hl 0 rfl) ?_
    refine lv_iconst (v := (-1 : Int32)) hx hb dX5_last_28 (by decide) ?_
    refine lv_icmp_ne (tgt := 37) hx hb dX5_last_29 (by decide) (fun hc => ?_) (fun hc => ?_)
    · rw [if_neg hc] at hf
      refine lv_iload_n hx hb dX5_last_37 rfl (lv_at hl 0 rfl) ?_
      obtain rfl := Option.some.inj hf
      exact hret _ _ _ _ dX5_last_38 hP hS
    · rw [if_pos hc] at hf
      refine lv_bipush (v := (-4 : Int32)) hx hb dX5_last_32 (by decide) ?_
      refine lv_goto (tgt := 38) hx hb dX5_last_34 (by decide) ?_
      obtain rfl := Option.some.inj hf
      exact hret _ _ _ _ dX5_last_38 hP hS
  · rw [if_pos hc] at hf
    refine lv_iconst (v := (-1 : Int32)) hx hb dX5_last_15 (by decide) ?_
    obtain rfl := Option.some.inj hf
    exact hret _ _ _ _ dX5_last_16 hP hS
set_option maxHeartbeats 4000000 in
set_option maxRecDepth 100000 in
theorem kX5_soonest {l : Launch} {D : va_G} {k : Nat → ClassId} (h0 h1 h2 h3 h4 h5 h6 h7 : Nat) (z0 z1 z2 z3 z4 z5 z6 z7 z8 z9 z10 z11 z12 z13 z14 z15 z16 z17 z18 : Value) (v_meetings : Int32) (v_letters : Int32) (v_meetingRows : Nat → Int32) (v_letterRows : Nat → Int32) (v_rules : Nat → Int32) (v_reached : Nat → Int32) (x1 : Int32) (q : Int32 × (Nat → Int32)) (hf : fX5_soonest v_meetings v_letters v_meetingRows v_letterRows v_rules v_reached x1 = some q) : KMi l yX5_soonest cX5_soonest 2 (some .int) ({ frames := 4, cells := 0, slots := 0, locals := 95 } : Room) D k [.ref h0, .int x1] (wX5_soonest k h0 h1 h2 h3 h4 h5 h6 h7 z0 z1 z2 z3 z4 z5 z6 z7 z8 z9 z10 z11 z12 z13 z14 z15 z16 z17 z18 v_meetings v_letters v_meetingRows v_letterRows v_rules v_reached) q.1 (wX5_soonest k h0 h1 h2 h3 h4 h5 h6 h7 z0 z1 z2 z3 z4 z5 z6 z7 z8 z9 z10 z11 z12 z13 z14 z15 z16 z17 z18 v_meetings v_letters v_meetingRows v_letterRows v_rules q.2) := by
  refine kent_i (by decide) (Nat.le_of_ble_eq_true rfl) ?_
  intro p e s m below meth c A Q ls C hP hD hS hl hret
  obtain ⟨hx, hb, -⟩ := id C
  have hl : lv_has ls 2 [(0, .ref h0), (1, .int x1)] := hl
  unfold fX5_soonest at hf
  generalize ([.ref h0, .int x1] : List Value).toArray = args at *
  refine lv_aload_n hx hb dX5_soonest_0 rfl (lv_at hl 0 rfl) ?_
  refine kget C inX5 hP 0 rfl rfl 2 (by decide) mw_217 rfl dX5_soonest_1 ?_
  refine kget C inX4 hP 1 rfl rfl 0 (by decide) mw_131 rfl dX5_soonest_4 ?_
  refine lv_iload_n hx hb dX5_soonest_7 rfl (lv_at hl 1 rfl) ?_
  obtain ⟨q8, hq8, hf⟩ := bd_some hf
  refine kcVi C (kX0_hasLetter (l := l) (D := D) (k := k) h2 z14 (.ref h3) (.ref h4) z15 (.int v_meetings) v_letters x1 q8 hq8) mt_X0_hasLetter mw_461 ⟨rfl, rfl, Nat.le_of_ble_eq_true rfl, Nat.le_of_ble_eq_true rfl⟩ hP hD hS 2 rfl rfl rfl [2] rfl rfl [none, none, some 0, none, none, none, none, none] rfl rfl (w2 := (wX5_soonest k h0 h1 h2 h3 h4 h5 h6 h7 z0 z1 z2 z3 z4 z5 z6 z7 z8 z9 z10 z11 z12 z13 z14 z15 z16 z17 z18 v_meetings v_letters v_meetingRows v_letterRows v_rules v_reached)) rfl rfl rfl hl.1 (rest := []) (Nat.le_of_ble_eq_true rfl) rfl dX5_soonest_8 ⟨Nat.zero_le _, Nat.zero_le _⟩ (fun H locs hP hD hS => ?_)
  refine lv_if_ne (tgt := 16) hx hb dX5_soonest_11 (by decide) (fun hc => ?_) (fun hc => ?_)
  · rw [if_neg hc] at hf
    refine lv_aload_n hx hb dX5_soonest_16 rfl (lv_at hl 0 rfl) ?_
    refine kget C inX5 hP 0 rfl rfl 3 (by decide) mw_218 rfl dX5_soonest_17 ?_
    refine lv_iload_n hx hb dX5_soonest_20 rfl (lv_at hl 1 rfl) ?_
    obtain ⟨q21, hq21, hf⟩ := bd_some hf
    refine kcVi C (kX1_soonestOf (l := l) (D := D) (k := k) h6 h1 h2 h3 h4 h5 h7 z16 z17 z18 z4 z5 z6 z7 z8 z9 z10 z11 z12 z13 z14 z15 (.int v_letters) v_meetings v_meetingRows v_letterRows v_rules v_reached x1 q21 hq21) mt_X1_soonestOf mw_520 ⟨rfl, rfl, Nat.le_of_ble_eq_true rfl, Nat.le_of_ble_eq_true rfl⟩ hP hD hS 6 rfl rfl rfl [6, 1, 2, 3, 4, 5, 7] rfl rfl [none, some 1, some 2, some 3, some 4, some 5, some 0, some 6] rfl rfl (w2 := (wX5_soonest k h0 h1 h2 h3 h4 h5 h6 h7 z0 z1 z2 z3 z4 z5 z6 z7 z8 z9 z10 z11 z12 z13 z14 z15 z16 z17 z18 v_meetings v_letters v_meetingRows v_letterRows v_rules q21.2)) rfl rfl rfl hl.1 (rest := []) (Nat.le_of_ble_eq_true rfl) rfl dX5_soonest_21 ⟨Nat.zero_le _, Nat.zero_le _⟩ (fun H locs hP hD hS => ?_)
    obtain rfl := Option.some.inj hf
    exact hret _ _ _ _ dX5_soonest_24 hP hS
  · rw [if_pos hc] at hf
    refine lv_iconst (v := (-1 : Int32)) hx hb dX5_soonest_14 (by decide) ?_
    obtain rfl := Option.some.inj hf
    exact hret _ _ _ _ dX5_soonest_15 hP hS
set_option maxHeartbeats 4000000 in
set_option maxRecDepth 100000 in
theorem kX5_why {l : Launch} {D : va_G} {k : Nat → ClassId} (h0 h1 h2 h3 h4 h5 h6 h7 h8 : Nat) (z0 z1 z2 z3 z4 z5 z6 z7 z8 z9 z10 z11 z12 z13 z14 z15 z16 z17 : Value) (v_nodes : Int32) (v_letters : Int32) (v_rooms : Nat → Int32) (v_letterRows : Nat → Int32) (v_rules : Nat → Int32) (v_tokens : Nat → Int32) (v_lasts : Nat → Int32) (x1 : Int32) (x2 : Int32) (x3 : Int32) (x4 : Int32) (q : Int32) (hf : fX5_why v_nodes v_letters v_rooms v_letterRows v_rules v_tokens v_lasts x1 x2 x3 x4 = some q) : KMi l yX5_why cX5_why 5 (some .int) ({ frames := 4, cells := 0, slots := 0, locals := 95 } : Room) D k [.ref h0, .int x1, .int x2, .int x3, .int x4] (wX5_why k h0 h1 h2 h3 h4 h5 h6 h7 h8 z0 z1 z2 z3 z4 z5 z6 z7 z8 z9 z10 z11 z12 z13 z14 z15 z16 z17 v_nodes v_letters v_rooms v_letterRows v_rules v_tokens v_lasts) q (wX5_why k h0 h1 h2 h3 h4 h5 h6 h7 h8 z0 z1 z2 z3 z4 z5 z6 z7 z8 z9 z10 z11 z12 z13 z14 z15 z16 z17 v_nodes v_letters v_rooms v_letterRows v_rules v_tokens v_lasts) := by
  refine kent_i (by decide) (Nat.le_of_ble_eq_true rfl) ?_
  intro p e s m below meth c A Q ls C hP hD hS hl hret
  obtain ⟨hx, hb, -⟩ := id C
  have hl : lv_has ls 5 [(0, .ref h0), (1, .int x1), (2, .int x2), (3, .int x3), (4, .int x4)] := hl
  unfold fX5_why at hf
  generalize ([.ref h0, .int x1, .int x2, .int x3, .int x4] : List Value).toArray = args at *
  refine lv_aload_n hx hb dX5_why_0 rfl (lv_at hl 0 rfl) ?_
  refine kget C inX5 hP 0 rfl rfl 2 (by decide) mw_217 rfl dX5_why_1 ?_
  refine kget C inX4 hP 1 rfl rfl 0 (by decide) mw_131 rfl dX5_why_4 ?_
  refine lv_iload_n hx hb dX5_why_7 rfl (lv_at hl 1 rfl) ?_
  refine lv_iload_n hx hb dX5_why_8 rfl (lv_at hl 2 rfl) ?_
  obtain ⟨q9, hq9, hf⟩ := bd_some hf
  refine kcVi C (kX0_hasPair (l := l) (D := D) (k := k) h2 (.ref h3) z12 (.ref h4) z13 (.int v_letters) v_nodes x1 x2 q9 hq9) mt_X0_hasPair mw_510 ⟨rfl, rfl, Nat.le_of_ble_eq_true rfl, Nat.le_of_ble_eq_true rfl⟩ hP hD hS 2 rfl rfl rfl [2] rfl rfl [none, none, some 0, none, none, none, none, none, none] rfl rfl (w2 := (wX5_why k h0 h1 h2 h3 h4 h5 h6 h7 h8 z0 z1 z2 z3 z4 z5 z6 z7 z8 z9 z10 z11 z12 z13 z14 z15 z16 z17 v_nodes v_letters v_rooms v_letterRows v_rules v_tokens v_lasts)) rfl rfl rfl hl.1 (rest := []) (Nat.le_of_ble_eq_true rfl) rfl dX5_why_9 ⟨Nat.zero_le _, Nat.zero_le _⟩ (fun H locs hP hD hS => ?_)
  refine lv_if_eq (tgt := 41) hx hb dX5_why_12 (by decide) (fun hc => ?_) (fun hc => ?_)
  · rw [if_pos hc] at hf
    refine lv_iconst (v := (-1 : Int32)) hx hb dX5_why_41 (by decide) ?_
    obtain rfl := Option.some.inj hf
    exact hret _ _ _ _ dX5_why_42 hP hS
  · rw [if_neg hc] at hf
    refine lv_aload_n hx hb dX5_why_15 rfl (lv_at hl 0 rfl) ?_
    refine kget C inX5 hP 0 rfl rfl 2 (by decide) mw_217 rfl dX5_why_16 ?_
    refine kget C inX4 hP 1 rfl rfl 0 (by decide) mw_131 rfl dX5_why_19 ?_
    refine lv_iload_n hx hb dX5_why_22 rfl (lv_at hl 3 rfl) ?_
    obtain ⟨q23, hq23, hf⟩ := bd_some hf
    refine kcVi C (kX0_hasLetter (l := l) (D := D) (k := k) h2 (.ref h3) z12 (.ref h4) (.int v_nodes) z13 v_letters x3 q23 hq23) mt_X0_hasLetter mw_461 ⟨rfl, rfl, Nat.le_of_ble_eq_true rfl, Nat.le_of_ble_eq_true rfl⟩ hP hD hS 2 rfl rfl rfl [2] rfl rfl [none, none, some 0, none, none, none, none, none, none] rfl rfl (w2 := (wX5_why k h0 h1 h2 h3 h4 h5 h6 h7 h8 z0 z1 z2 z3 z4 z5 z6 z7 z8 z9 z10 z11 z12 z13 z14 z15 z16 z17 v_nodes v_letters v_rooms v_letterRows v_rules v_tokens v_lasts)) rfl rfl rfl hl.1 (rest := []) (Nat.le_of_ble_eq_true rfl) rfl dX5_why_23 ⟨Nat.zero_le _, Nat.zero_le _⟩ (fun H locs hP hD hS => ?_)
    refine lv_if_eq (tgt := 41) hx hb dX5_why_26 (by decide) (fun hc => ?_) (fun hc => ?_)
    · rw [if_pos hc] at hf
      refine lv_iconst (v := (-1 : Int32)) hx hb dX5_why_41 (by decide) ?_
      obtain rfl := Option.some.inj hf
      exact hret _ _ _ _ dX5_why_42 hP hS
    · rw [if_neg hc] at hf
      refine lv_iload hx hb dX5_why_29 (lv_at hl 4 rfl) ?_
      refine lv_if_lt (tgt := 41) hx hb dX5_why_31 (by decide) (fun hc => ?_) (fun hc => ?_)
      · rw [if_pos hc] at hf
        refine lv_iconst (v := (-1 : Int32)) hx hb dX5_why_41 (by decide) ?_
        obtain rfl := Option.some.inj hf
        exact hret _ _ _ _ dX5_why_42 hP hS
      · rw [if_neg hc] at hf
        refine lv_iload hx hb dX5_why_34 (lv_at hl 4 rfl) ?_
        refine lv_bipush (v := (99 : Int32)) hx hb dX5_why_36 (by decide) ?_
        refine lv_icmp_le (tgt := 43) hx hb dX5_why_38 (by decide) (fun hc => ?_) (fun hc => ?_)
        · rw [if_pos hc] at hf
          refine lv_aload_n hx hb dX5_why_43 rfl (lv_at hl 0 rfl) ?_
          refine kget C inX5 hP 0 rfl rfl 2 (by decide) mw_217 rfl dX5_why_44 ?_
          refine lv_iload_n hx hb dX5_why_47 rfl (lv_at hl 1 rfl) ?_
          refine lv_iload_n hx hb dX5_why_48 rfl (lv_at hl 3 rfl) ?_
          obtain ⟨q49, hq49, hf⟩ := bd_some hf
          refine kcVi C (kX4_hasCopy (l := l) (D := D) (k := k) h1 h6 (.ref h2) (.ref h5) z4 z5 z6 z7 z8 (.ref h7) z9 z10 z11 v_tokens x1 x3 q49 hq49) mt_X4_hasCopy mw_541 ⟨rfl, rfl, Nat.le_of_ble_eq_true rfl, Nat.le_of_ble_eq_true rfl⟩ hP hD hS 1 rfl rfl rfl [1, 6] rfl rfl [none, some 0, none, none, none, none, some 1, none, none] rfl rfl (w2 := (wX5_why k h0 h1 h2 h3 h4 h5 h6 h7 h8 z0 z1 z2 z3 z4 z5 z6 z7 z8 z9 z10 z11 z12 z13 z14 z15 z16 z17 v_nodes v_letters v_rooms v_letterRows v_rules v_tokens v_lasts)) rfl rfl rfl hl.1 (rest := []) (Nat.le_of_ble_eq_true rfl) rfl dX5_why_49 ⟨Nat.zero_le _, Nat.zero_le _⟩ (fun H locs hP hD hS => ?_)
          refine lv_if_ne (tgt := 57) hx hb dX5_why_52 (by decide) (fun hc => ?_) (fun hc => ?_)
          · rw [if_neg hc] at hf
            refine lv_aload_n hx hb dX5_why_57 rfl (lv_at hl 0 rfl) ?_
            refine kget C inX5 hP 0 rfl rfl 3 (by decide) mw_218 rfl dX5_why_58 ?_
            refine lv_iload_n hx hb dX5_why_61 rfl (lv_at hl 1 rfl) ?_
            refine lv_iload_n hx hb dX5_why_62 rfl (lv_at hl 2 rfl) ?_
            refine lv_iload_n hx hb dX5_why_63 rfl (lv_at hl 3 rfl) ?_
            refine lv_iload hx hb dX5_why_64 (lv_at hl 4 rfl) ?_
            obtain ⟨q66, hq66, hf⟩ := bd_some hf
            refine kcVi C (kX1_reasonAgainst (l := l) (D := D) (k := k) h8 h1 h2 h3 h4 h5 h6 h7 z14 z15 z16 z17 z4 z5 z6 z7 z8 z9 z10 z11 z12 (.int v_nodes) z13 v_letters v_rooms v_letterRows v_rules v_tokens v_lasts x1 x2 x3 x4 q66 hq66) mt_X1_reasonAgainst mw_542 ⟨rfl, rfl, Nat.le_of_ble_eq_true rfl, Nat.le_of_ble_eq_true rfl⟩ hP hD hS 8 rfl rfl rfl [8, 1, 2, 3, 4, 5, 6, 7] rfl rfl [none, some 1, some 2, some 3, some 4, some 5, some 6, some 7, some 0] rfl rfl (w2 := (wX5_why k h0 h1 h2 h3 h4 h5 h6 h7 h8 z0 z1 z2 z3 z4 z5 z6 z7 z8 z9 z10 z11 z12 z13 z14 z15 z16 z17 v_nodes v_letters v_rooms v_letterRows v_rules v_tokens v_lasts)) rfl rfl rfl hl.1 (rest := []) (Nat.le_of_ble_eq_true rfl) rfl dX5_why_66 ⟨Nat.zero_le _, Nat.zero_le _⟩ (fun H locs hP hD hS => ?_)
            obtain rfl := Option.some.inj hf
            exact hret _ _ _ _ dX5_why_69 hP hS
          · rw [if_pos hc] at hf
            refine lv_iconst (v := (-1 : Int32)) hx hb dX5_why_55 (by decide) ?_
            obtain rfl := Option.some.inj hf
            exact hret _ _ _ _ dX5_why_56 hP hS
        · rw [if_neg hc] at hf
          refine lv_iconst (v := (-1 : Int32)) hx hb dX5_why_41 (by decide) ?_
          obtain rfl := Option.some.inj hf
          exact hret _ _ _ _ dX5_why_42 hP hS
set_option maxHeartbeats 4000000 in
set_option maxRecDepth 100000 in
theorem kX5_refusal {l : Launch} {D : va_G} {k : Nat → ClassId} (h0 h1 h2 : Nat) (z0 z1 z2 z3 z4 z5 z6 z7 z8 z9 z10 z11 z12 z13 z14 z15 : Value) (v_refused : Nat → Int32) (x1 : Int32) (q : Int32) (hf : fX5_refusal v_refused x1 = some q) : KMi l yX5_refusal cX5_refusal 2 (some .int) ({ frames := 0, cells := 0, slots := 0, locals := 0 } : Room) D k [.ref h0, .int x1] (wX5_refusal k h0 h1 h2 z0 z1 z2 z3 z4 z5 z6 z7 z8 z9 z10 z11 z12 z13 z14 z15 v_refused) q (wX5_refusal k h0 h1 h2 z0 z1 z2 z3 z4 z5 z6 z7 z8 z9 z10 z11 z12 z13 z14 z15 v_refused) := by
  refine kent_i (by decide) (Nat.le_of_ble_eq_true rfl) ?_
  intro p e s m below meth c A Q ls C hP hD hS hl hret
  obtain ⟨hx, hb, -⟩ := id C
  have hl : lv_has ls 2 [(0, .ref h0), (1, .int x1)] := hl
  unfold fX5_refusal at hf
  generalize ([.ref h0, .int x1] : List Value).toArray = args at *
  refine lv_iload_n hx hb dX5_refusal_0 rfl (lv_at hl 1 rfl) ?_
  refine lv_if_lt (tgt := 10) hx hb dX5_refusal_1 (by decide) (fun hc => ?_) (fun hc => ?_)
  · rw [if_pos hc] at hf
    refine lv_iconst (v := (-1 : Int32)) hx hb dX5_refusal_10 (by decide) ?_
    obtain rfl := Option.some.inj hf
    exact hret _ _ _ _ dX5_refusal_11 hP hS
  · rw [if_neg hc] at hf
    refine lv_iload_n hx hb dX5_refusal_4 rfl (lv_at hl 1 rfl) ?_
    refine lv_bipush (v := (6 : Int32)) hx hb dX5_refusal_5 (by decide) ?_
    refine lv_icmp_lt (tgt := 12) hx hb dX5_refusal_7 (by decide) (fun hc => ?_) (fun hc => ?_)
    · rw [if_pos hc] at hf
      refine lv_aload_n hx hb dX5_refusal_12 rfl (lv_at hl 0 rfl) ?_
      refine kget C inX5 hP 0 rfl rfl 2 (by decide) mw_217 rfl dX5_refusal_13 ?_
      refine kget C inX4 hP 1 rfl rfl 3 (by decide) mw_140 rfl dX5_refusal_16 ?_
      refine lv_iconst (v := (0 : Int32)) hx hb dX5_refusal_19 (by decide) ?_
      refine kiald C hP 2 rfl (by unfold vp_in; decide) dX5_refusal_20 (j := 0) (by decide) ?_
      refine lv_if_ne (tgt := 27) hx hb dX5_refusal_21 (by decide) (fun hc => ?_) (fun hc => ?_)
      · rw [if_neg hc] at hf
        refine lv_aload_n hx hb dX5_refusal_27 rfl (lv_at hl 0 rfl) ?_
        refine kget C inX5 hP 0 rfl rfl 2 (by decide) mw_217 rfl dX5_refusal_28 ?_
        refine kget C inX4 hP 1 rfl rfl 3 (by decide) mw_140 rfl dX5_refusal_31 ?_
        refine lv_iload_n hx hb dX5_refusal_34 rfl (lv_at hl 1 rfl) ?_
        obtain ⟨hin, hf⟩ := gd_some hf
        refine kiald C hP 2 rfl hin dX5_refusal_35 (j := x1.toNatClampNeg) rfl ?_
        obtain rfl := Option.some.inj hf
        exact hret _ _ _ _ dX5_refusal_36 hP hS
      · rw [if_pos hc] at hf
        refine lv_bipush (v := (-2 : Int32)) hx hb dX5_refusal_24 (by decide) ?_
        obtain rfl := Option.some.inj hf
        exact hret _ _ _ _ dX5_refusal_26 hP hS
    · rw [if_neg hc] at hf
      refine lv_iconst (v := (-1 : Int32)) hx hb dX5_refusal_10 (by decide) ?_
      obtain rfl := Option.some.inj hf
      exact hret _ _ _ _ dX5_refusal_11 hP hS
set_option maxHeartbeats 4000000 in
set_option maxRecDepth 100000 in
theorem wX5_tick_25 {p : Program} {l : Launch} {e : Env} {s : State} {m : MethodId} {args : Array Value} {below : List Frame} {meth : Method} {c : Code} {A : Nat → Prop} {Q : State → Prop} {D : va_G} {k : Nat → ClassId} (C : Cx p s m args c cX5_tick 4 RX5 A D k) (h0 h1 h2 h3 h4 h5 h6 h7 h8 h9 h10 h11 h12 h13 h14 h15 h16 h17 : Nat) (z0 z1 z2 z3 z4 : Value) (v_nodes : Int32) (v_meetings : Int32) (v_letters : Int32) (v_rooms : Nat → Int32) (v_meetingRows : Nat → Int32) (v_letterRows : Nat → Int32) (v_rules : Nat → Int32) (y1 : Int32) (y2 : Int32) : ∀ (f : Nat) (v_clock : Int32) (v_counts : Nat → Int32) (v_refused : Nat → Int32) (v_tokens : Nat → Int32) (v_hops : Nat → Int32) (v_since : Nat → Int32) (v_notes : Nat → Int32) (v_lasts : Nat → Int32) (v_deliveredAt : Nat → Int32) (v_deliveredHops : Nat → Int32) (v_left : Int32) (v_refusedOne : Int32) (v_order : Nat → Int32) (y3 : Int32) (ex : (Int32 × (Nat → Int32) × (Nat → Int32) × (Nat → Int32) × (Nat → Int32) × (Nat → Int32) × (Nat → Int32) × (Nat → Int32) × (Nat → Int32) × (Nat → Int32) × Int32 × Int32 × (Nat → Int32))) (H : Heap) (locs : List Loc) (ls : Array Slot), fX5_tick_25 v_nodes v_meetings v_letters v_rooms v_meetingRows v_letterRows v_rules y1 y2 f v_clock v_counts v_refused v_tokens v_hops v_since v_notes v_lasts v_deliveredAt v_deliveredHops v_left v_refusedOne v_order y3 = some ex → va_P D vwCl (wX5_tick k h0 h1 h2 h3 h4 h5 h6 h7 h8 h9 h10 h11 h12 h13 h14 h15 h16 h17 z0 z1 z2 z3 z4 v_clock v_nodes v_meetings v_letters v_rooms v_meetingRows v_letterRows v_rules v_counts v_refused v_tokens v_hops v_since v_notes v_lasts v_deliveredAt v_deliveredHops v_left v_refusedOne v_order) H → va_D A (wX5_tick k h0 h1 h2 h3 h4 h5 h6 h7 h8 h9 h10 h11 h12 h13 h14 h15 h16 h17 z0 z1 z2 z3 z4 v_clock v_nodes v_meetings v_letters v_rooms v_meetingRows v_letterRows v_rules v_counts v_refused v_tokens v_hops v_since v_notes v_lasts v_deliveredAt v_deliveredHops v_left v_refusedOne v_order) → va_S A s.heap H locs → lv_has ls 4 [(0, .ref h0), (1, .int y1), (2, .int y2), (3, .int y3)] → (∀ (H : Heap) (locs : List Loc) (ls : Array Slot), va_P D vwCl (wX5_tick k h0 h1 h2 h3 h4 h5 h6 h7 h8 h9 h10 h11 h12 h13 h14 h15 h16 h17 z0 z1 z2 z3 z4 ex.1 v_nodes v_meetings v_letters v_rooms v_meetingRows v_letterRows v_rules ex.2.1 ex.2.2.1 ex.2.2.2.1 ex.2.2.2.2.1 ex.2.2.2.2.2.1 ex.2.2.2.2.2.2.1 ex.2.2.2.2.2.2.2.1 ex.2.2.2.2.2.2.2.2.1 ex.2.2.2.2.2.2.2.2.2.1 ex.2.2.2.2.2.2.2.2.2.2.1 ex.2.2.2.2.2.2.2.2.2.2.2.1 ex.2.2.2.2.2.2.2.2.2.2.2.2) H → va_D A (wX5_tick k h0 h1 h2 h3 h4 h5 h6 h7 h8 h9 h10 h11 h12 h13 h14 h15 h16 h17 z0 z1 z2 z3 z4 ex.1 v_nodes v_meetings v_letters v_rooms v_meetingRows v_letterRows v_rules ex.2.1 ex.2.2.1 ex.2.2.2.1 ex.2.2.2.2.1 ex.2.2.2.2.2.1 ex.2.2.2.2.2.2.1 ex.2.2.2.2.2.2.2.1 ex.2.2.2.2.2.2.2.2.1 ex.2.2.2.2.2.2.2.2.2.1 ex.2.2.2.2.2.2.2.2.2.2.1 ex.2.2.2.2.2.2.2.2.2.2.2.1 ex.2.2.2.2.2.2.2.2.2.2.2.2) → va_S A s.heap H locs → lv_has ls 4 [(0, .ref h0), (2, .int y2)] → W p l e ({ frames := 7, cells := 0, slots := 0, locals := 169 } : Room) s m args below meth c H locs 0 0 Q (F0 m 43 ls [])) → W p l e ({ frames := 7, cells := 0, slots := 0, locals := 169 } : Room) s m args below meth c H locs 0 0 Q (F0 m 25 ls []) := by
  obtain ⟨hx, hb, -⟩ := id C
  intro f
  induction f with
  | zero =>
    intro v_clock v_counts v_refused v_tokens v_hops v_since v_notes v_lasts v_deliveredAt v_deliveredHops v_left v_refusedOne v_order y3 ex H locs ls hf hP hD hS hl hk
    cases hf
  | succ f ih =>
    intro v_clock v_counts v_refused v_tokens v_hops v_since v_notes v_lasts v_deliveredAt v_deliveredHops v_left v_refusedOne v_order y3 ex H locs ls hf hP hD hS hl hk
    rw [fX5_tick_25] at hf
    refine lv_iload_n hx hb dX5_tick_25 rfl (lv_at hl 3 rfl) ?_
    refine lv_iload_n hx hb dX5_tick_26 rfl (lv_at hl 1 rfl) ?_
    refine lv_icmp_ge (tgt := 43) hx hb dX5_tick_27 (by decide) (fun hc => ?_) (fun hc => ?_)
    · rw [if_pos hc] at hf
      obtain rfl := Option.some.inj hf
      exact hk _ _ _ hP hD hS (lv_sub hl [0, 2] rfl)
    · rw [if_neg hc] at hf
      refine lv_aload_n hx hb dX5_tick_30 rfl (lv_at hl 0 rfl) ?_
      refine kget C inX5 hP 0 rfl rfl 3 (by decide) mw_218 rfl dX5_tick_31 ?_
      obtain ⟨q34, hq34, hf⟩ := bd_some hf
      refine kcVv C (kX1_passMinute (l := l) (D := D) (k := k) h16 h1 h2 h3 h4 h5 h6 h7 h8 h9 h10 h11 h12 h13 h14 h15 h17 z4 v_left v_refusedOne v_clock v_nodes v_meetings v_letters v_rooms v_meetingRows v_letterRows v_rules v_counts v_refused v_tokens v_hops v_since v_notes v_lasts v_deliveredAt v_deliveredHops v_order q34 hq34) mt_X1_passMinute mw_572 ⟨rfl, rfl, Nat.le_of_ble_eq_true rfl, Nat.le_of_ble_eq_true rfl⟩ hP hD hS 16 rfl rfl rfl [16, 1, 2, 3, 4, 5, 6, 7, 8, 9, 10, 11, 12, 13, 14, 15, 17] rfl rfl [none, some 1, some 2, some 3, some 4, some 5, some 6, some 7, some 8, some 9, some 10, some 11, some 12, some 13, some 14, some 15, some 0, some 16] rfl rfl (w2 := (wX5_tick k h0 h1 h2 h3 h4 h5 h6 h7 h8 h9 h10 h11 h12 h13 h14 h15 h16 h17 z0 z1 z2 z3 z4 q34.2.2.1 v_nodes v_meetings v_letters v_rooms v_meetingRows v_letterRows v_rules q34.2.2.2.1 q34.2.2.2.2.1 q34.2.2.2.2.2.1 q34.2.2.2.2.2.2.1 q34.2.2.2.2.2.2.2.1 q34.2.2.2.2.2.2.2.2.1 q34.2.2.2.2.2.2.2.2.2.1 q34.2.2.2.2.2.2.2.2.2.2.1 q34.2.2.2.2.2.2.2.2.2.2.2.1 q34.1 q34.2.1 q34.2.2.2.2.2.2.2.2.2.2.2.2)) rfl rfl rfl hl.1 (rest := []) (Nat.le_of_ble_eq_true rfl) rfl dX5_tick_34 ⟨Nat.zero_le _, Nat.zero_le _⟩ (fun H locs hP hD hS => ?_)
      refine lv_iinc (v := (y3 + (1 : Int32))) (lv' := [(3, .int (y3 + (1 : Int32))), (0, .ref h0), (1, .int y1), (2, .int y2)]) hx hb dX5_tick_37 hl (k := 3) rfl rfl (by decide) rfl (fun ls hl => ?_)
      refine lv_goto (tgt := 25) hx hb dX5_tick_40 (by decide) ?_
      exact ih q34.2.2.1 q34.2.2.2.1 q34.2.2.2.2.1 q34.2.2.2.2.2.1 q34.2.2.2.2.2.2.1 q34.2.2.2.2.2.2.2.1 q34.2.2.2.2.2.2.2.2.1 q34.2.2.2.2.2.2.2.2.2.1 q34.2.2.2.2.2.2.2.2.2.2.1 q34.2.2.2.2.2.2.2.2.2.2.2.1 q34.1 q34.2.1 q34.2.2.2.2.2.2.2.2.2.2.2.2 (y3 + (1 : Int32)) _ _ _ _ hf hP hD hS (lv_sub hl [1, 2, 3, 0] rfl) hk
set_option maxHeartbeats 4000000 in
set_option maxRecDepth 100000 in
theorem kX5_tick {l : Launch} {D : va_G} {k : Nat → ClassId} (h0 h1 h2 h3 h4 h5 h6 h7 h8 h9 h10 h11 h12 h13 h14 h15 h16 h17 : Nat) (z0 z1 z2 z3 z4 : Value) (v_clock : Int32) (v_nodes : Int32) (v_meetings : Int32) (v_letters : Int32) (v_rooms : Nat → Int32) (v_meetingRows : Nat → Int32) (v_letterRows : Nat → Int32) (v_rules : Nat → Int32) (v_counts : Nat → Int32) (v_refused : Nat → Int32) (v_tokens : Nat → Int32) (v_hops : Nat → Int32) (v_since : Nat → Int32) (v_notes : Nat → Int32) (v_lasts : Nat → Int32) (v_deliveredAt : Nat → Int32) (v_deliveredHops : Nat → Int32) (v_left : Int32) (v_refusedOne : Int32) (v_order : Nat → Int32) (x1 : Int32) (q : Int32 × Int32 × (Nat → Int32) × (Nat → Int32) × (Nat → Int32) × (Nat → Int32) × (Nat → Int32) × (Nat → Int32) × (Nat → Int32) × (Nat → Int32) × (Nat → Int32) × Int32 × Int32 × (Nat → Int32)) (hf : fX5_tick v_clock v_nodes v_meetings v_letters v_rooms v_meetingRows v_letterRows v_rules v_counts v_refused v_tokens v_hops v_since v_notes v_lasts v_deliveredAt v_deliveredHops v_left v_refusedOne v_order x1 = some q) : KMi l yX5_tick cX5_tick 4 (some .int) ({ frames := 7, cells := 0, slots := 0, locals := 169 } : Room) D k [.ref h0, .int x1] (wX5_tick k h0 h1 h2 h3 h4 h5 h6 h7 h8 h9 h10 h11 h12 h13 h14 h15 h16 h17 z0 z1 z2 z3 z4 v_clock v_nodes v_meetings v_letters v_rooms v_meetingRows v_letterRows v_rules v_counts v_refused v_tokens v_hops v_since v_notes v_lasts v_deliveredAt v_deliveredHops v_left v_refusedOne v_order) q.1 (wX5_tick k h0 h1 h2 h3 h4 h5 h6 h7 h8 h9 h10 h11 h12 h13 h14 h15 h16 h17 z0 z1 z2 z3 z4 q.2.1 v_nodes v_meetings v_letters v_rooms v_meetingRows v_letterRows v_rules q.2.2.1 q.2.2.2.1 q.2.2.2.2.1 q.2.2.2.2.2.1 q.2.2.2.2.2.2.1 q.2.2.2.2.2.2.2.1 q.2.2.2.2.2.2.2.2.1 q.2.2.2.2.2.2.2.2.2.1 q.2.2.2.2.2.2.2.2.2.2.1 q.2.2.2.2.2.2.2.2.2.2.2.1 q.2.2.2.2.2.2.2.2.2.2.2.2.1 q.2.2.2.2.2.2.2.2.2.2.2.2.2) := by
  refine kent_i (by decide) (Nat.le_of_ble_eq_true rfl) ?_
  intro p e s m below meth c A Q ls C hP hD hS hl hret
  obtain ⟨hx, hb, -⟩ := id C
  have hl : lv_has ls 4 [(0, .ref h0), (1, .int x1)] := hl
  unfold fX5_tick at hf
  generalize ([.ref h0, .int x1] : List Value).toArray = args at *
  refine lv_iload_n hx hb dX5_tick_0 rfl (lv_at hl 1 rfl) ?_
  refine lv_iconst (v := (1 : Int32)) hx hb dX5_tick_1 (by decide) ?_
  refine lv_icmp_lt (tgt := 11) hx hb dX5_tick_2 (by decide) (fun hc => ?_) (fun hc => ?_)
  · rw [if_pos hc] at hf
    refine lv_iconst (v := (-1 : Int32)) hx hb dX5_tick_11 (by decide) ?_
    obtain rfl := Option.some.inj hf
    exact hret _ _ _ _ dX5_tick_12 hP hS
  · rw [if_neg hc] at hf
    refine lv_iload_n hx hb dX5_tick_5 rfl (lv_at hl 1 rfl) ?_
    refine lv_bipush (v := (50 : Int32)) hx hb dX5_tick_6 (by decide) ?_
    refine lv_icmp_le (tgt := 13) hx hb dX5_tick_8 (by decide) (fun hc => ?_) (fun hc => ?_)
    · rw [if_pos hc] at hf
      refine lv_aload_n hx hb dX5_tick_13 rfl (lv_at hl 0 rfl) ?_
      refine kget C inX5 hP 0 rfl rfl 2 (by decide) mw_217 rfl dX5_tick_14 ?_
      refine kget C inX4 hP 1 rfl rfl 2 (by decide) mw_137 rfl dX5_tick_17 ?_
      refine lv_iconst (v := (0 : Int32)) hx hb dX5_tick_20 (by decide) ?_
      refine kiald C hP 7 rfl (by unfold vp_in; decide) dX5_tick_21 (j := 0) (by decide) ?_
      refine lv_istore_n (lv' := [(2, .int (v_counts 0)), (0, .ref h0), (1, .int x1)]) hx hb dX5_tick_22 rfl hl (by decide) rfl (fun ls hl => ?_)
      refine lv_iconst (v := (0 : Int32)) hx hb dX5_tick_23 (by decide) ?_
      refine lv_istore_n (lv' := [(3, .int (0 : Int32)), (2, .int (v_counts 0)), (0, .ref h0), (1, .int x1)]) hx hb dX5_tick_24 rfl hl (by decide) rfl (fun ls hl => ?_)
      obtain ⟨ex25, hv, hf⟩ := bd_some hf
      refine wX5_tick_25 C h0 h1 h2 h3 h4 h5 h6 h7 h8 h9 h10 h11 h12 h13 h14 h15 h16 h17 z0 z1 z2 z3 z4 v_nodes v_meetings v_letters v_rooms v_meetingRows v_letterRows v_rules x1 (v_counts 0) FU v_clock v_counts v_refused v_tokens v_hops v_since v_notes v_lasts v_deliveredAt v_deliveredHops v_left v_refusedOne v_order (0 : Int32) ex25 _ _ _ hv hP hD hS (lv_sub hl [2, 3, 1, 0] rfl) (fun H locs ls hP hD hS hl => ?_)
      refine lv_aload_n hx hb dX5_tick_43 rfl (lv_at hl 0 rfl) ?_
      refine kget C inX5 hP 0 rfl rfl 2 (by decide) mw_217 rfl dX5_tick_44 ?_
      refine kget C inX4 hP 1 rfl rfl 2 (by decide) mw_137 rfl dX5_tick_47 ?_
      refine lv_iconst (v := (0 : Int32)) hx hb dX5_tick_50 (by decide) ?_
      refine kiald C hP 7 rfl (by unfold vp_in; decide) dX5_tick_51 (j := 0) (by decide) ?_
      refine lv_iload_n hx hb dX5_tick_52 rfl (lv_at hl 1 rfl) ?_
      refine lv_isub hx hb dX5_tick_53 ?_
      obtain rfl := Option.some.inj hf
      exact hret _ _ _ _ dX5_tick_54 hP hS
    · rw [if_neg hc] at hf
      refine lv_iconst (v := (-1 : Int32)) hx hb dX5_tick_11 (by decide) ?_
      obtain rfl := Option.some.inj hf
      exact hret _ _ _ _ dX5_tick_12 hP hS
set_option maxHeartbeats 4000000 in
set_option maxRecDepth 100000 in
theorem kX5_meet {l : Launch} {D : va_G} {k : Nat → ClassId} (h0 h1 h2 h3 h4 h5 h6 h7 h8 h9 h10 h11 h12 h13 h14 h15 h16 : Nat) (z0 z1 z2 z3 z4 z5 z6 : Value) (v_clock : Int32) (v_nodes : Int32) (v_letters : Int32) (v_rooms : Nat → Int32) (v_letterRows : Nat → Int32) (v_rules : Nat → Int32) (v_counts : Nat → Int32) (v_refused : Nat → Int32) (v_tokens : Nat → Int32) (v_hops : Nat → Int32) (v_since : Nat → Int32) (v_notes : Nat → Int32) (v_lasts : Nat → Int32) (v_deliveredAt : Nat → Int32) (v_deliveredHops : Nat → Int32) (v_left : Int32) (v_refusedOne : Int32) (v_order : Nat → Int32) (x1 : Int32) (x2 : Int32) (x3 : Int32) (q : Int32 × (Nat → Int32) × (Nat → Int32) × (Nat → Int32) × (Nat → Int32) × (Nat → Int32) × (Nat → Int32) × (Nat → Int32) × (Nat → Int32) × (Nat → Int32) × Int32 × Int32 × (Nat → Int32)) (hf : fX5_meet v_clock v_nodes v_letters v_rooms v_letterRows v_rules v_counts v_refused v_tokens v_hops v_since v_notes v_lasts v_deliveredAt v_deliveredHops v_left v_refusedOne v_order x1 x2 x3 = some q) : KMi l yX5_meet cX5_meet 5 (some .int) ({ frames := 6, cells := 0, slots := 0, locals := 148 } : Room) D k [.ref h0, .int x1, .int x2, .int x3] (wX5_meet k h0 h1 h2 h3 h4 h5 h6 h7 h8 h9 h10 h11 h12 h13 h14 h15 h16 z0 z1 z2 z3 z4 z5 z6 v_clock v_nodes v_letters v_rooms v_letterRows v_rules v_counts v_refused v_tokens v_hops v_since v_notes v_lasts v_deliveredAt v_deliveredHops v_left v_refusedOne v_order) q.1 (wX5_meet k h0 h1 h2 h3 h4 h5 h6 h7 h8 h9 h10 h11 h12 h13 h14 h15 h16 z0 z1 z2 z3 z4 z5 z6 v_clock v_nodes v_letters v_rooms v_letterRows v_rules q.2.1 q.2.2.1 q.2.2.2.1 q.2.2.2.2.1 q.2.2.2.2.2.1 q.2.2.2.2.2.2.1 q.2.2.2.2.2.2.2.1 q.2.2.2.2.2.2.2.2.1 q.2.2.2.2.2.2.2.2.2.1 q.2.2.2.2.2.2.2.2.2.2.1 q.2.2.2.2.2.2.2.2.2.2.2.1 q.2.2.2.2.2.2.2.2.2.2.2.2) := by
  refine kent_i (by decide) (Nat.le_of_ble_eq_true rfl) ?_
  intro p e s m below meth c A Q ls C hP hD hS hl hret
  obtain ⟨hx, hb, -⟩ := id C
  have hl : lv_has ls 5 [(0, .ref h0), (1, .int x1), (2, .int x2), (3, .int x3)] := hl
  unfold fX5_meet at hf
  generalize ([.ref h0, .int x1, .int x2, .int x3] : List Value).toArray = args at *
  refine lv_aload_n hx hb dX5_meet_0 rfl (lv_at hl 0 rfl) ?_
  refine kget C inX5 hP 0 rfl rfl 2 (by decide) mw_217 rfl dX5_meet_1 ?_
  refine kget C inX4 hP 1 rfl rfl 0 (by decide) mw_131 rfl dX5_meet_4 ?_
  refine lv_iload_n hx hb dX5_meet_7 rfl (lv_at hl 1 rfl) ?_
  refine lv_iload_n hx hb dX5_meet_8 rfl (lv_at hl 2 rfl) ?_
  obtain ⟨q9, hq9, hf⟩ := bd_some hf
  refine kcVi C (kX0_hasPair (l := l) (D := D) (k := k) h2 (.ref h3) z4 (.ref h4) z5 (.int v_letters) v_nodes x1 x2 q9 hq9) mt_X0_hasPair mw_510 ⟨rfl, rfl, Nat.le_of_ble_eq_true rfl, Nat.le_of_ble_eq_true rfl⟩ hP hD hS 2 rfl rfl rfl [2] rfl rfl [none, none, some 0, none, none, none, none, none, none, none, none, none, none, none, none, none, none] rfl rfl (w2 := (wX5_meet k h0 h1 h2 h3 h4 h5 h6 h7 h8 h9 h10 h11 h12 h13 h14 h15 h16 z0 z1 z2 z3 z4 z5 z6 v_clock v_nodes v_letters v_rooms v_letterRows v_rules v_counts v_refused v_tokens v_hops v_since v_notes v_lasts v_deliveredAt v_deliveredHops v_left v_refusedOne v_order)) rfl rfl rfl hl.1 (rest := []) (Nat.le_of_ble_eq_true rfl) rfl dX5_meet_9 ⟨Nat.zero_le _, Nat.zero_le _⟩ (fun H locs hP hD hS => ?_)
  refine lv_if_eq (tgt := 25) hx hb dX5_meet_12 (by decide) (fun hc => ?_) (fun hc => ?_)
  · rw [if_pos hc] at hf
    refine lv_iconst (v := (-1 : Int32)) hx hb dX5_meet_25 (by decide) ?_
    obtain rfl := Option.some.inj hf
    exact hret _ _ _ _ dX5_meet_26 hP hS
  · rw [if_neg hc] at hf
    refine lv_iload_n hx hb dX5_meet_15 rfl (lv_at hl 3 rfl) ?_
    refine lv_if_lt (tgt := 25) hx hb dX5_meet_16 (by decide) (fun hc => ?_) (fun hc => ?_)
    · rw [if_pos hc] at hf
      refine lv_iconst (v := (-1 : Int32)) hx hb dX5_meet_25 (by decide) ?_
      obtain rfl := Option.some.inj hf
      exact hret _ _ _ _ dX5_meet_26 hP hS
    · rw [if_neg hc] at hf
      refine lv_iload_n hx hb dX5_meet_19 rfl (lv_at hl 3 rfl) ?_
      refine lv_bipush (v := (99 : Int32)) hx hb dX5_meet_20 (by decide) ?_
      refine lv_icmp_le (tgt := 27) hx hb dX5_meet_22 (by decide) (fun hc => ?_) (fun hc => ?_)
      · rw [if_pos hc] at hf
        refine lv_aload_n hx hb dX5_meet_27 rfl (lv_at hl 0 rfl) ?_
        refine kget C inX5 hP 0 rfl rfl 2 (by decide) mw_217 rfl dX5_meet_28 ?_
        refine kget C inX4 hP 1 rfl rfl 2 (by decide) mw_137 rfl dX5_meet_31 ?_
        refine lv_iconst (v := (0 : Int32)) hx hb dX5_meet_34 (by decide) ?_
        refine kiald C hP 6 rfl (by unfold vp_in; decide) dX5_meet_35 (j := 0) (by decide) ?_
        refine lv_istore (lv' := [(4, .int (v_counts 0)), (0, .ref h0), (1, .int x1), (2, .int x2), (3, .int x3)]) hx hb dX5_meet_36 hl (by decide) rfl (fun ls hl => ?_)
        refine lv_aload_n hx hb dX5_meet_38 rfl (lv_at hl 1 rfl) ?_
        refine kget C inX5 hP 0 rfl rfl 3 (by decide) mw_218 rfl dX5_meet_39 ?_
        refine lv_iload_n hx hb dX5_meet_42 rfl (lv_at hl 2 rfl) ?_
        refine lv_iload_n hx hb dX5_meet_43 rfl (lv_at hl 3 rfl) ?_
        refine lv_iload_n hx hb dX5_meet_44 rfl (lv_at hl 4 rfl) ?_
        obtain ⟨q45, hq45, hf⟩ := bd_some hf
        refine kcVv C (kX1_holdMeeting (l := l) (D := D) (k := k) h15 h1 h2 h3 h4 h5 h6 h7 h8 h9 h10 h11 h12 h13 h14 h16 z6 z4 (.int v_nodes) z5 v_left v_refusedOne v_clock v_letters v_rooms v_letterRows v_rules v_counts v_refused v_tokens v_hops v_since v_notes v_lasts v_deliveredAt v_deliveredHops v_order x1 x2 x3 q45 hq45) mt_X1_holdMeeting mw_637 ⟨rfl, rfl, Nat.le_of_ble_eq_true rfl, Nat.le_of_ble_eq_true rfl⟩ hP hD hS 15 rfl rfl rfl [15, 1, 2, 3, 4, 5, 6, 7, 8, 9, 10, 11, 12, 13, 14, 16] rfl rfl [none, some 1, some 2, some 3, some 4, some 5, some 6, some 7, some 8, some 9, some 10, some 11, some 12, some 13, some 14, some 0, some 15] rfl rfl (w2 := (wX5_meet k h0 h1 h2 h3 h4 h5 h6 h7 h8 h9 h10 h11 h12 h13 h14 h15 h16 z0 z1 z2 z3 z4 z5 z6 v_clock v_nodes v_letters v_rooms v_letterRows v_rules q45.2.2.1 q45.2.2.2.1 q45.2.2.2.2.1 q45.2.2.2.2.2.1 q45.2.2.2.2.2.2.1 q45.2.2.2.2.2.2.2.1 q45.2.2.2.2.2.2.2.2.1 q45.2.2.2.2.2.2.2.2.2.1 q45.2.2.2.2.2.2.2.2.2.2.1 q45.1 q45.2.1 q45.2.2.2.2.2.2.2.2.2.2.2)) rfl rfl rfl hl.1 (rest := []) (Nat.le_of_ble_eq_true rfl) rfl dX5_meet_45 ⟨Nat.zero_le _, Nat.zero_le _⟩ (fun H locs hP hD hS => ?_)
        refine lv_aload_n hx hb dX5_meet_48 rfl (lv_at hl 1 rfl) ?_
        refine kget C inX5 hP 0 rfl rfl 2 (by decide) mw_217 rfl dX5_meet_49 ?_
        refine kget C inX4 hP 1 rfl rfl 2 (by decide) mw_137 rfl dX5_meet_52 ?_
        refine lv_iconst (v := (0 : Int32)) hx hb dX5_meet_55 (by decide) ?_
        refine kiald C hP 6 rfl (by unfold vp_in; decide) dX5_meet_56 (j := 0) (by decide) ?_
        refine lv_iload hx hb dX5_meet_57 (lv_at hl 0 rfl) ?_
        refine lv_isub hx hb dX5_meet_59 ?_
        obtain rfl := Option.some.inj hf
        exact hret _ _ _ _ dX5_meet_60 hP hS
      · rw [if_neg hc] at hf
        refine lv_iconst (v := (-1 : Int32)) hx hb dX5_meet_25 (by decide) ?_
        obtain rfl := Option.some.inj hf
        exact hret _ _ _ _ dX5_meet_26 hP hS
set_option maxHeartbeats 4000000 in
set_option maxRecDepth 100000 in
theorem kX5_send {l : Launch} {D : va_G} {k : Nat → ClassId} (h0 h1 h2 h3 h4 h5 h6 h7 h8 h9 h10 : Nat) (z0 z1 z2 z3 z4 z5 z6 z7 z8 z9 z10 z11 z12 z13 z14 : Value) (v_clock : Int32) (v_nodes : Int32) (v_letters : Int32) (v_rooms : Nat → Int32) (v_letterRows : Nat → Int32) (v_rules : Nat → Int32) (v_counts : Nat → Int32) (v_tokens : Nat → Int32) (v_hops : Nat → Int32) (v_since : Nat → Int32) (x1 : Int32) (x2 : Int32) (x3 : Int32) (x4 : Int32) (x5 : Int32) (q : Int32 × Int32 × (Nat → Int32) × (Nat → Int32) × (Nat → Int32) × (Nat → Int32) × (Nat → Int32)) (hf : fX5_send v_clock v_nodes v_letters v_rooms v_letterRows v_rules v_counts v_tokens v_hops v_since x1 x2 x3 x4 x5 = some q) : KMi l yX5_send cX5_send 7 (some .int) ({ frames := 4, cells := 0, slots := 0, locals := 94 } : Room) D k [.ref h0, .int x1, .int x2, .int x3, .int x4, .int x5] (wX5_send k h0 h1 h2 h3 h4 h5 h6 h7 h8 h9 h10 z0 z1 z2 z3 z4 z5 z6 z7 z8 z9 z10 z11 z12 z13 z14 v_clock v_nodes v_letters v_rooms v_letterRows v_rules v_counts v_tokens v_hops v_since) q.1 (wX5_send k h0 h1 h2 h3 h4 h5 h6 h7 h8 h9 h10 z0 z1 z2 z3 z4 z5 z6 z7 z8 z9 z10 z11 z12 z13 z14 v_clock v_nodes q.2.1 v_rooms q.2.2.1 v_rules q.2.2.2.1 q.2.2.2.2.1 q.2.2.2.2.2.1 q.2.2.2.2.2.2) := by
  refine kent_i (by decide) (Nat.le_of_ble_eq_true rfl) ?_
  intro p e s m below meth c A Q ls C hP hD hS hl hret
  obtain ⟨hx, hb, -⟩ := id C
  have hl : lv_has ls 7 [(0, .ref h0), (1, .int x1), (2, .int x2), (3, .int x3), (4, .int x4), (5, .int x5)] := hl
  unfold fX5_send at hf
  generalize ([.ref h0, .int x1, .int x2, .int x3, .int x4, .int x5] : List Value).toArray = args at *
  refine lv_aload_n hx hb dX5_send_0 rfl (lv_at hl 0 rfl) ?_
  refine kget C inX5 hP 0 rfl rfl 2 (by decide) mw_217 rfl dX5_send_1 ?_
  refine kget C inX4 hP 1 rfl rfl 0 (by decide) mw_131 rfl dX5_send_4 ?_
  refine lv_iload_n hx hb dX5_send_7 rfl (lv_at hl 1 rfl) ?_
  refine lv_iload_n hx hb dX5_send_8 rfl (lv_at hl 2 rfl) ?_
  obtain ⟨q9, hq9, hf⟩ := bd_some hf
  refine kcVi C (kX0_hasPair (l := l) (D := D) (k := k) h2 (.ref h3) z9 (.ref h4) z10 (.int v_letters) v_nodes x1 x2 q9 hq9) mt_X0_hasPair mw_510 ⟨rfl, rfl, Nat.le_of_ble_eq_true rfl, Nat.le_of_ble_eq_true rfl⟩ hP hD hS 2 rfl rfl rfl [2] rfl rfl [none, none, some 0, none, none, none, none, none, none, none, none] rfl rfl (w2 := (wX5_send k h0 h1 h2 h3 h4 h5 h6 h7 h8 h9 h10 z0 z1 z2 z3 z4 z5 z6 z7 z8 z9 z10 z11 z12 z13 z14 v_clock v_nodes v_letters v_rooms v_letterRows v_rules v_counts v_tokens v_hops v_since)) rfl rfl rfl hl.1 (rest := []) (Nat.le_of_ble_eq_true rfl) rfl dX5_send_9 ⟨Nat.zero_le _, Nat.zero_le _⟩ (fun H locs hP hD hS => ?_)
  refine lv_if_eq (tgt := 26) hx hb dX5_send_12 (by decide) (fun hc => ?_) (fun hc => ?_)
  · rw [if_pos hc] at hf
    refine lv_iconst (v := (-1 : Int32)) hx hb dX5_send_26 (by decide) ?_
    obtain rfl := Option.some.inj hf
    exact hret _ _ _ _ dX5_send_27 hP hS
  · rw [if_neg hc] at hf
    refine lv_iload_n hx hb dX5_send_15 rfl (lv_at hl 3 rfl) ?_
    refine lv_iconst (v := (1 : Int32)) hx hb dX5_send_16 (by decide) ?_
    refine lv_icmp_lt (tgt := 26) hx hb dX5_send_17 (by decide) (fun hc => ?_) (fun hc => ?_)
    · rw [if_pos hc] at hf
      refine lv_iconst (v := (-1 : Int32)) hx hb dX5_send_26 (by decide) ?_
      obtain rfl := Option.some.inj hf
      exact hret _ _ _ _ dX5_send_27 hP hS
    · rw [if_neg hc] at hf
      refine lv_iload_n hx hb dX5_send_20 rfl (lv_at hl 3 rfl) ?_
      refine lv_bipush (v := (99 : Int32)) hx hb dX5_send_21 (by decide) ?_
      refine lv_icmp_le (tgt := 28) hx hb dX5_send_23 (by decide) (fun hc => ?_) (fun hc => ?_)
      · rw [if_pos hc] at hf
        refine lv_iload hx hb dX5_send_28 (lv_at hl 4 rfl) ?_
        refine lv_iconst (v := (1 : Int32)) hx hb dX5_send_30 (by decide) ?_
        refine lv_icmp_lt (tgt := 54) hx hb dX5_send_31 (by decide) (fun hc => ?_) (fun hc => ?_)
        · rw [if_pos hc] at hf
          refine lv_iconst (v := (-1 : Int32)) hx hb dX5_send_54 (by decide) ?_
          obtain rfl := Option.some.inj hf
          exact hret _ _ _ _ dX5_send_55 hP hS
        · rw [if_neg hc] at hf
          refine lv_iload hx hb dX5_send_34 (lv_at hl 4 rfl) ?_
          refine lv_bipush (v := (64 : Int32)) hx hb dX5_send_36 (by decide) ?_
          refine lv_icmp_gt (tgt := 54) hx hb dX5_send_38 (by decide) (fun hc => ?_) (fun hc => ?_)
          · rw [if_pos hc] at hf
            refine lv_iconst (v := (-1 : Int32)) hx hb dX5_send_54 (by decide) ?_
            obtain rfl := Option.some.inj hf
            exact hret _ _ _ _ dX5_send_55 hP hS
          · rw [if_neg hc] at hf
            refine lv_iload hx hb dX5_send_41 (lv_at hl 5 rfl) ?_
            refine lv_iconst (v := (1 : Int32)) hx hb dX5_send_43 (by decide) ?_
            refine lv_icmp_lt (tgt := 54) hx hb dX5_send_44 (by decide) (fun hc => ?_) (fun hc => ?_)
            · rw [if_pos hc] at hf
              refine lv_iconst (v := (-1 : Int32)) hx hb dX5_send_54 (by decide) ?_
              obtain rfl := Option.some.inj hf
              exact hret _ _ _ _ dX5_send_55 hP hS
            · rw [if_neg hc] at hf
              refine lv_iload hx hb dX5_send_47 (lv_at hl 5 rfl) ?_
              refine lv_bipush (v := (99 : Int32)) hx hb dX5_send_49 (by decide) ?_
              refine lv_icmp_le (tgt := 56) hx hb dX5_send_51 (by decide) (fun hc => ?_) (fun hc => ?_)
              · rw [if_pos hc] at hf
                refine lv_aload_n hx hb dX5_send_56 rfl (lv_at hl 0 rfl) ?_
                refine kget C inX5 hP 0 rfl rfl 2 (by decide) mw_217 rfl dX5_send_57 ?_
                refine kget C inX4 hP 1 rfl rfl 0 (by decide) mw_131 rfl dX5_send_60 ?_
                refine kget C inX0 hP 2 rfl rfl 5 (by decide) mw_70 rfl dX5_send_63 ?_
                refine lv_bipush (v := (16 : Int32)) hx hb dX5_send_66 (by decide) ?_
                refine lv_icmp_lt (tgt := 74) hx hb dX5_send_68 (by decide) (fun hc => ?_) (fun hc => ?_)
                · rw [if_pos hc] at hf
                  refine lv_aload_n hx hb dX5_send_74 rfl (lv_at hl 0 rfl) ?_
                  refine kget C inX5 hP 0 rfl rfl 2 (by decide) mw_217 rfl dX5_send_75 ?_
                  refine kget C inX4 hP 1 rfl rfl 0 (by decide) mw_131 rfl dX5_send_78 ?_
                  refine kget C inX0 hP 2 rfl rfl 5 (by decide) mw_70 rfl dX5_send_81 ?_
                  refine lv_istore (lv' := [(6, .int v_letters), (0, .ref h0), (1, .int x1), (2, .int x2), (3, .int x3), (4, .int x4), (5, .int x5)]) hx hb dX5_send_84 hl (by decide) rfl (fun ls hl => ?_)
                  refine lv_aload_n hx hb dX5_send_86 rfl (lv_at hl 1 rfl) ?_
                  refine kget C inX5 hP 0 rfl rfl 2 (by decide) mw_217 rfl dX5_send_87 ?_
                  refine kget C inX4 hP 1 rfl rfl 0 (by decide) mw_131 rfl dX5_send_90 ?_
                  refine lv_aload_n hx hb dX5_send_93 rfl (lv_at hl 1 rfl) ?_
                  refine kget C inX5 hP 0 rfl rfl 2 (by decide) mw_217 rfl dX5_send_94 ?_
                  refine kget C inX4 hP 1 rfl rfl 11 (by decide) mw_162 rfl dX5_send_97 ?_
                  refine lv_iload_n hx hb dX5_send_100 rfl (lv_at hl 2 rfl) ?_
                  refine lv_iload_n hx hb dX5_send_101 rfl (lv_at hl 3 rfl) ?_
                  refine lv_iload_n hx hb dX5_send_102 rfl (lv_at hl 4 rfl) ?_
                  refine lv_iload hx hb dX5_send_103 (lv_at hl 5 rfl) ?_
                  refine lv_iload hx hb dX5_send_105 (lv_at hl 6 rfl) ?_
                  obtain ⟨q107, hq107, hf⟩ := bd_some hf
                  refine kcVv C (kX0_addLetter (l := l) (D := D) (k := k) h2 h4 (.ref h3) z9 (.int v_nodes) z10 v_letters v_letterRows v_clock x1 x2 x3 x4 x5 q107 hq107) mt_X0_addLetter mw_642 ⟨rfl, rfl, Nat.le_of_ble_eq_true rfl, Nat.le_of_ble_eq_true rfl⟩ hP hD hS 2 rfl rfl rfl [2, 4] rfl rfl [none, none, some 0, none, some 1, none, none, none, none, none, none] rfl rfl (w2 := (wX5_send k h0 h1 h2 h3 h4 h5 h6 h7 h8 h9 h10 z0 z1 z2 z3 z4 z5 z6 z7 z8 z9 z10 z11 z12 z13 z14 v_clock v_nodes q107.1 v_rooms q107.2 v_rules v_counts v_tokens v_hops v_since)) rfl rfl rfl hl.1 (rest := []) (Nat.le_of_ble_eq_true rfl) rfl dX5_send_107 ⟨Nat.zero_le _, Nat.zero_le _⟩ (fun H locs hP hD hS => ?_)
                  refine lv_aload_n hx hb dX5_send_110 rfl (lv_at hl 1 rfl) ?_
                  refine kget C inX5 hP 0 rfl rfl 3 (by decide) mw_218 rfl dX5_send_111 ?_
                  refine lv_iload hx hb dX5_send_114 (lv_at hl 0 rfl) ?_
                  obtain ⟨q116, hq116, hf⟩ := bd_some hf
                  refine kcVv C (kX1_bear (l := l) (D := D) (k := k) h10 h1 h2 h3 h4 h5 h6 h7 h8 h9 z11 z12 z13 z14 z4 z5 z6 z7 z8 z9 (.int v_nodes) z10 v_clock q107.1 v_rooms q107.2 v_rules v_counts v_tokens v_hops v_since v_letters q116 hq116) mt_X1_bear mw_643 ⟨rfl, rfl, Nat.le_of_ble_eq_true rfl, Nat.le_of_ble_eq_true rfl⟩ hP hD hS 10 rfl rfl rfl [10, 1, 2, 3, 4, 5, 6, 7, 8, 9] rfl rfl [none, some 1, some 2, some 3, some 4, some 5, some 6, some 7, some 8, some 9, some 0] rfl rfl (w2 := (wX5_send k h0 h1 h2 h3 h4 h5 h6 h7 h8 h9 h10 z0 z1 z2 z3 z4 z5 z6 z7 z8 z9 z10 z11 z12 z13 z14 v_clock v_nodes q107.1 v_rooms q107.2 v_rules q116.1 q116.2.1 q116.2.2.1 q116.2.2.2)) rfl rfl rfl hl.1 (rest := []) (Nat.le_of_ble_eq_true rfl) rfl dX5_send_116 ⟨Nat.zero_le _, Nat.zero_le _⟩ (fun H locs hP hD hS => ?_)
                  refine lv_iload hx hb dX5_send_119 (lv_at hl 0 rfl) ?_
                  obtain rfl := Option.some.inj hf
                  exact hret _ _ _ _ dX5_send_121 hP hS
                · rw [if_neg hc] at hf
                  refine lv_bipush (v := (-3 : Int32)) hx hb dX5_send_71 (by decide) ?_
                  obtain rfl := Option.some.inj hf
                  exact hret _ _ _ _ dX5_send_73 hP hS
              · rw [if_neg hc] at hf
                refine lv_iconst (v := (-1 : Int32)) hx hb dX5_send_54 (by decide) ?_
                obtain rfl := Option.some.inj hf
                exact hret _ _ _ _ dX5_send_55 hP hS
      · rw [if_neg hc] at hf
        refine lv_iconst (v := (-1 : Int32)) hx hb dX5_send_26 (by decide) ?_
        obtain rfl := Option.some.inj hf
        exact hret _ _ _ _ dX5_send_27 hP hS
set_option maxHeartbeats 4000000 in
set_option maxRecDepth 100000 in
theorem kX5_nextSeed {l : Launch} {D : va_G} {k : Nat → ClassId} (x0 : Int32) (q : Int32) (hf : fX5_nextSeed x0 = some q) : KMi l yX5_nextSeed cX5_nextSeed 1 (some .int) ({ frames := 0, cells := 0, slots := 0, locals := 0 } : Room) D k [.int x0] (wX5_nextSeed k) q (wX5_nextSeed k) := by
  refine kent_i (by decide) (Nat.le_of_ble_eq_true rfl) ?_
  intro p e s m below meth c A Q ls C hP hD hS hl hret
  obtain ⟨hx, hb, -⟩ := id C
  have hl : lv_has ls 1 [(0, .int x0)] := hl
  unfold fX5_nextSeed at hf
  generalize ([.int x0] : List Value).toArray = args at *
  refine lv_iload_n hx hb dX5_nextSeed_0 rfl (lv_at hl 0 rfl) ?_
  refine lv_ldc (v := (1103515245 : Int32)) hx hb C.2.2.2.1 (C.2.2.2.2.1 _ mw_657) dX5_nextSeed_1 ?_
  refine lv_imul hx hb dX5_nextSeed_3 ?_
  refine lv_sipush (v := (12345 : Int32)) hx hb dX5_nextSeed_4 (by decide) ?_
  refine lv_iadd hx hb dX5_nextSeed_7 ?_
  obtain rfl := Option.some.inj hf
  exact hret _ _ _ _ dX5_nextSeed_8 hP hS
set_option maxHeartbeats 4000000 in
set_option maxRecDepth 100000 in
theorem kX5_bitsGot {l : Launch} {D : va_G} {k : Nat → ClassId} (x0 : Int32) (q : Int32) (hf : fX5_bitsGot x0 = some q) : KMi l yX5_bitsGot cX5_bitsGot 1 (some .int) ({ frames := 0, cells := 0, slots := 0, locals := 0 } : Room) D k [.int x0] (wX5_bitsGot k) q (wX5_bitsGot k) := by
  refine kent_i (by decide) (Nat.le_of_ble_eq_true rfl) ?_
  intro p e s m below meth c A Q ls C hP hD hS hl hret
  obtain ⟨hx, hb, -⟩ := id C
  have hl : lv_has ls 1 [(0, .int x0)] := hl
  unfold fX5_bitsGot at hf
  generalize ([.int x0] : List Value).toArray = args at *
  refine lv_iload_n hx hb dX5_bitsGot_0 rfl (lv_at hl 0 rfl) ?_
  refine lv_bipush (v := (16 : Int32)) hx hb dX5_bitsGot_1 (by decide) ?_
  refine lv_iushr (v := ((x0.toUInt32 >>> ((16 : Int32).toUInt32 &&& Int32.toUInt32 31)).toInt32)) hx hb dX5_bitsGot_3 rfl ?_
  refine lv_sipush (v := (32767 : Int32)) hx hb dX5_bitsGot_4 (by decide) ?_
  refine lv_iand hx hb dX5_bitsGot_7 ?_
  obtain rfl := Option.some.inj hf
  exact hret _ _ _ _ dX5_bitsGot_8 hP hS
set_option maxHeartbeats 4000000 in
set_option maxRecDepth 100000 in
theorem wX5_draw_49 {p : Program} {l : Launch} {e : Env} {s : State} {m : MethodId} {args : Array Value} {below : List Frame} {meth : Method} {c : Code} {A : Nat → Prop} {Q : State → Prop} {D : va_G} {k : Nat → ClassId} (C : Cx p s m args c cX5_draw 9 RX5 A D k) (h0 h1 h2 h3 h4 h5 h6 h7 h8 h9 h10 h11 h12 h13 h14 h15 h16 h17 : Nat) (z0 z1 z2 z3 z4 : Value) (v_nodes : Int32) (v_meetings : Int32) (v_letters : Int32) (v_rooms : Nat → Int32) (v_meetingRows : Nat → Int32) (v_letterRows : Nat → Int32) (v_rules : Nat → Int32) (y2 : Int32) (y3 : Int32) (y4 : Int32) : ∀ (f : Nat) (v_clock : Int32) (v_counts : Nat → Int32) (v_refused : Nat → Int32) (v_tokens : Nat → Int32) (v_hops : Nat → Int32) (v_since : Nat → Int32) (v_notes : Nat → Int32) (v_lasts : Nat → Int32) (v_deliveredAt : Nat → Int32) (v_deliveredHops : Nat → Int32) (v_left : Int32) (v_refusedOne : Int32) (v_order : Nat → Int32) (y5 : Int32) (y6 : Int32) (ex : (Int32 × (Nat → Int32) × (Nat → Int32) × (Nat → Int32) × (Nat → Int32) × (Nat → Int32) × (Nat → Int32) × (Nat → Int32) × (Nat → Int32) × (Nat → Int32) × Int32 × Int32 × (Nat → Int32))) (H : Heap) (locs : List Loc) (ls : Array Slot), fX5_draw_49 v_nodes v_meetings v_letters v_rooms v_meetingRows v_letterRows v_rules y2 y3 y4 f v_clock v_counts v_refused v_tokens v_hops v_since v_notes v_lasts v_deliveredAt v_deliveredHops v_left v_refusedOne v_order y5 y6 = some ex → va_P D vwCl (wX5_draw k h0 h1 h2 h3 h4 h5 h6 h7 h8 h9 h10 h11 h12 h13 h14 h15 h16 h17 z0 z1 z2 z3 z4 v_clock v_nodes v_meetings v_letters v_rooms v_meetingRows v_letterRows v_rules v_counts v_refused v_tokens v_hops v_since v_notes v_lasts v_deliveredAt v_deliveredHops v_left v_refusedOne v_order) H → va_D A (wX5_draw k h0 h1 h2 h3 h4 h5 h6 h7 h8 h9 h10 h11 h12 h13 h14 h15 h16 h17 z0 z1 z2 z3 z4 v_clock v_nodes v_meetings v_letters v_rooms v_meetingRows v_letterRows v_rules v_counts v_refused v_tokens v_hops v_since v_notes v_lasts v_deliveredAt v_deliveredHops v_left v_refusedOne v_order) → va_S A s.heap H locs → lv_has ls 9 [(0, .ref h0), (2, .int y2), (3, .int y3), (4, .int y4), (5, .int y5), (6, .int y6)] → (∀ (H : Heap) (locs : List Loc) (ls : Array Slot), va_P D vwCl (wX5_draw k h0 h1 h2 h3 h4 h5 h6 h7 h8 h9 h10 h11 h12 h13 h14 h15 h16 h17 z0 z1 z2 z3 z4 ex.1 v_nodes v_meetings v_letters v_rooms v_meetingRows v_letterRows v_rules ex.2.1 ex.2.2.1 ex.2.2.2.1 ex.2.2.2.2.1 ex.2.2.2.2.2.1 ex.2.2.2.2.2.2.1 ex.2.2.2.2.2.2.2.1 ex.2.2.2.2.2.2.2.2.1 ex.2.2.2.2.2.2.2.2.2.1 ex.2.2.2.2.2.2.2.2.2.2.1 ex.2.2.2.2.2.2.2.2.2.2.2.1 ex.2.2.2.2.2.2.2.2.2.2.2.2) H → va_D A (wX5_draw k h0 h1 h2 h3 h4 h5 h6 h7 h8 h9 h10 h11 h12 h13 h14 h15 h16 h17 z0 z1 z2 z3 z4 ex.1 v_nodes v_meetings v_letters v_rooms v_meetingRows v_letterRows v_rules ex.2.1 ex.2.2.1 ex.2.2.2.1 ex.2.2.2.2.1 ex.2.2.2.2.2.1 ex.2.2.2.2.2.2.1 ex.2.2.2.2.2.2.2.1 ex.2.2.2.2.2.2.2.2.1 ex.2.2.2.2.2.2.2.2.2.1 ex.2.2.2.2.2.2.2.2.2.2.1 ex.2.2.2.2.2.2.2.2.2.2.2.1 ex.2.2.2.2.2.2.2.2.2.2.2.2) → va_S A s.heap H locs → lv_has ls 9 [(0, .ref h0), (4, .int y4)] → W p l e ({ frames := 7, cells := 0, slots := 0, locals := 169 } : Room) s m args below meth c H locs 0 0 Q (F0 m 135 ls [])) → W p l e ({ frames := 7, cells := 0, slots := 0, locals := 169 } : Room) s m args below meth c H locs 0 0 Q (F0 m 49 ls []) := by
  obtain ⟨hx, hb, -⟩ := id C
  intro f
  induction f with
  | zero =>
    intro v_clock v_counts v_refused v_tokens v_hops v_since v_notes v_lasts v_deliveredAt v_deliveredHops v_left v_refusedOne v_order y5 y6 ex H locs ls hf hP hD hS hl hk
    cases hf
  | succ f ih =>
    intro v_clock v_counts v_refused v_tokens v_hops v_since v_notes v_lasts v_deliveredAt v_deliveredHops v_left v_refusedOne v_order y5 y6 ex H locs ls hf hP hD hS hl hk
    rw [fX5_draw_49] at hf
    refine lv_iload hx hb dX5_draw_49 (lv_at hl 5 rfl) ?_
    refine lv_iload_n hx hb dX5_draw_51 rfl (lv_at hl 1 rfl) ?_
    refine lv_icmp_ge (tgt := 135) hx hb dX5_draw_52 (by decide) (fun hc => ?_) (fun hc => ?_)
    · rw [if_pos hc] at hf
      obtain rfl := Option.some.inj hf
      exact hk _ _ _ hP hD hS (lv_sub hl [0, 3] rfl)
    · rw [if_neg hc] at hf
      refine lv_aload_n hx hb dX5_draw_55 rfl (lv_at hl 0 rfl) ?_
      refine kget C inX5 hP 0 rfl rfl 3 (by decide) mw_218 rfl dX5_draw_56 ?_
      obtain ⟨q59, hq59, hf⟩ := bd_some hf
      refine kcVv C (kX1_passMinute (l := l) (D := D) (k := k) h16 h1 h2 h3 h4 h5 h6 h7 h8 h9 h10 h11 h12 h13 h14 h15 h17 z4 v_left v_refusedOne v_clock v_nodes v_meetings v_letters v_rooms v_meetingRows v_letterRows v_rules v_counts v_refused v_tokens v_hops v_since v_notes v_lasts v_deliveredAt v_deliveredHops v_order q59 hq59) mt_X1_passMinute mw_572 ⟨rfl, rfl, Nat.le_of_ble_eq_true rfl, Nat.le_of_ble_eq_true rfl⟩ hP hD hS 16 rfl rfl rfl [16, 1, 2, 3, 4, 5, 6, 7, 8, 9, 10, 11, 12, 13, 14, 15, 17] rfl rfl [none, some 1, some 2, some 3, some 4, some 5, some 6, some 7, some 8, some 9, some 10, some 11, some 12, some 13, some 14, some 15, some 0, some 16] rfl rfl (w2 := (wX5_draw k h0 h1 h2 h3 h4 h5 h6 h7 h8 h9 h10 h11 h12 h13 h14 h15 h16 h17 z0 z1 z2 z3 z4 q59.2.2.1 v_nodes v_meetings v_letters v_rooms v_meetingRows v_letterRows v_rules q59.2.2.2.1 q59.2.2.2.2.1 q59.2.2.2.2.2.1 q59.2.2.2.2.2.2.1 q59.2.2.2.2.2.2.2.1 q59.2.2.2.2.2.2.2.2.1 q59.2.2.2.2.2.2.2.2.2.1 q59.2.2.2.2.2.2.2.2.2.2.1 q59.2.2.2.2.2.2.2.2.2.2.2.1 q59.1 q59.2.1 q59.2.2.2.2.2.2.2.2.2.2.2.2)) rfl rfl rfl hl.1 (rest := []) (Nat.le_of_ble_eq_true rfl) rfl dX5_draw_59 ⟨Nat.zero_le _, Nat.zero_le _⟩ (fun H locs hP hD hS => ?_)
      refine lv_iload hx hb dX5_draw_62 (lv_at hl 4 rfl) ?_
      obtain ⟨q64, hq64, hf⟩ := bd_some hf
      refine kcSi C (kX5_nextSeed (l := l) (D := D) (k := k) y5 q64 hq64) mt_X5_nextSeed mw_654 ⟨rfl, rfl, Nat.le_of_ble_eq_true rfl, Nat.le_of_ble_eq_true rfl⟩ hP hD hS [] rfl rfl [none, none, none, none, none, none, none, none, none, none, none, none, none, none, none, none, none, none] rfl rfl (w2 := (wX5_draw k h0 h1 h2 h3 h4 h5 h6 h7 h8 h9 h10 h11 h12 h13 h14 h15 h16 h17 z0 z1 z2 z3 z4 q59.2.2.1 v_nodes v_meetings v_letters v_rooms v_meetingRows v_letterRows v_rules q59.2.2.2.1 q59.2.2.2.2.1 q59.2.2.2.2.2.1 q59.2.2.2.2.2.2.1 q59.2.2.2.2.2.2.2.1 q59.2.2.2.2.2.2.2.2.1 q59.2.2.2.2.2.2.2.2.2.1 q59.2.2.2.2.2.2.2.2.2.2.1 q59.2.2.2.2.2.2.2.2.2.2.2.1 q59.1 q59.2.1 q59.2.2.2.2.2.2.2.2.2.2.2.2)) rfl rfl rfl hl.1 (rest := []) (Nat.le_of_ble_eq_true rfl) rfl dX5_draw_64 ⟨Nat.zero_le _, Nat.zero_le _⟩ (fun H locs hP hD hS => ?_)
      refine lv_istore (lv' := [(5, .int q64), (0, .ref h0), (2, .int y2), (3, .int y3), (4, .int y4), (6, .int y6)]) hx hb dX5_draw_67 hl (by decide) rfl (fun ls hl => ?_)
      refine lv_iload hx hb dX5_draw_69 (lv_at hl 0 rfl) ?_
      obtain ⟨q71, hq71, hf⟩ := bd_some hf
      refine kcSi C (kX5_bitsGot (l := l) (D := D) (k := k) q64 q71 hq71) mt_X5_bitsGot mw_658 ⟨rfl, rfl, Nat.le_of_ble_eq_true rfl, Nat.le_of_ble_eq_true rfl⟩ hP hD hS [] rfl rfl [none, none, none, none, none, none, none, none, none, none, none, none, none, none, none, none, none, none] rfl rfl (w2 := (wX5_draw k h0 h1 h2 h3 h4 h5 h6 h7 h8 h9 h10 h11 h12 h13 h14 h15 h16 h17 z0 z1 z2 z3 z4 q59.2.2.1 v_nodes v_meetings v_letters v_rooms v_meetingRows v_letterRows v_rules q59.2.2.2.1 q59.2.2.2.2.1 q59.2.2.2.2.2.1 q59.2.2.2.2.2.2.1 q59.2.2.2.2.2.2.2.1 q59.2.2.2.2.2.2.2.2.1 q59.2.2.2.2.2.2.2.2.2.1 q59.2.2.2.2.2.2.2.2.2.2.1 q59.2.2.2.2.2.2.2.2.2.2.2.1 q59.1 q59.2.1 q59.2.2.2.2.2.2.2.2.2.2.2.2)) rfl rfl rfl hl.1 (rest := []) (Nat.le_of_ble_eq_true rfl) rfl dX5_draw_71 ⟨Nat.zero_le _, Nat.zero_le _⟩ (fun H locs hP hD hS => ?_)
      refine lv_iload_n hx hb dX5_draw_74 rfl (lv_at hl 3 rfl) ?_
      obtain ⟨hne, hf⟩ := dv_some hf
      refine lv_irem hx hb dX5_draw_75 hne ?_
      refine lv_istore (lv' := [(7, .int (q71 - q71 / y3 * y3)), (5, .int q64), (0, .ref h0), (2, .int y2), (3, .int y3), (4, .int y4), (6, .int y6)]) hx hb dX5_draw_76 hl (by decide) rfl (fun ls hl => ?_)
      refine lv_iload hx hb dX5_draw_78 (lv_at hl 1 rfl) ?_
      obtain ⟨q80, hq80, hf⟩ := bd_some hf
      refine kcSi C (kX5_nextSeed (l := l) (D := D) (k := k) q64 q80 hq80) mt_X5_nextSeed mw_654 ⟨rfl, rfl, Nat.le_of_ble_eq_true rfl, Nat.le_of_ble_eq_true rfl⟩ hP hD hS [] rfl rfl [none, none, none, none, none, none, none, none, none, none, none, none, none, none, none, none, none, none] rfl rfl (w2 := (wX5_draw k h0 h1 h2 h3 h4 h5 h6 h7 h8 h9 h10 h11 h12 h13 h14 h15 h16 h17 z0 z1 z2 z3 z4 q59.2.2.1 v_nodes v_meetings v_letters v_rooms v_meetingRows v_letterRows v_rules q59.2.2.2.1 q59.2.2.2.2.1 q59.2.2.2.2.2.1 q59.2.2.2.2.2.2.1 q59.2.2.2.2.2.2.2.1 q59.2.2.2.2.2.2.2.2.1 q59.2.2.2.2.2.2.2.2.2.1 q59.2.2.2.2.2.2.2.2.2.2.1 q59.2.2.2.2.2.2.2.2.2.2.2.1 q59.1 q59.2.1 q59.2.2.2.2.2.2.2.2.2.2.2.2)) rfl rfl rfl hl.1 (rest := []) (Nat.le_of_ble_eq_true rfl) rfl dX5_draw_80 ⟨Nat.zero_le _, Nat.zero_le _⟩ (fun H locs hP hD hS => ?_)
      refine lv_istore (lv' := [(5, .int q80), (7, .int (q71 - q71 / y3 * y3)), (0, .ref h0), (2, .int y2), (3, .int y3), (4, .int y4), (6, .int y6)]) hx hb dX5_draw_83 hl (by decide) rfl (fun ls hl => ?_)
      refine lv_iload hx hb dX5_draw_85 (lv_at hl 1 rfl) ?_
      refine lv_iconst (v := (1 : Int32)) hx hb dX5_draw_87 (by decide) ?_
      refine lv_iadd hx hb dX5_draw_88 ?_
      refine lv_iload hx hb dX5_draw_89 (lv_at hl 0 rfl) ?_
      obtain ⟨q91, hq91, hf⟩ := bd_some hf
      refine kcSi C (kX5_bitsGot (l := l) (D := D) (k := k) q80 q91 hq91) mt_X5_bitsGot mw_658 ⟨rfl, rfl, Nat.le_of_ble_eq_true rfl, Nat.le_of_ble_eq_true rfl⟩ hP hD hS [] rfl rfl [none, none, none, none, none, none, none, none, none, none, none, none, none, none, none, none, none, none] rfl rfl (w2 := (wX5_draw k h0 h1 h2 h3 h4 h5 h6 h7 h8 h9 h10 h11 h12 h13 h14 h15 h16 h17 z0 z1 z2 z3 z4 q59.2.2.1 v_nodes v_meetings v_letters v_rooms v_meetingRows v_letterRows v_rules q59.2.2.2.1 q59.2.2.2.2.1 q59.2.2.2.2.2.1 q59.2.2.2.2.2.2.1 q59.2.2.2.2.2.2.2.1 q59.2.2.2.2.2.2.2.2.1 q59.2.2.2.2.2.2.2.2.2.1 q59.2.2.2.2.2.2.2.2.2.2.1 q59.2.2.2.2.2.2.2.2.2.2.2.1 q59.1 q59.2.1 q59.2.2.2.2.2.2.2.2.2.2.2.2)) rfl rfl rfl hl.1 (rest := [.int ((q71 - q71 / y3 * y3) + (1 : Int32))]) (Nat.le_of_ble_eq_true rfl) rfl dX5_draw_91 ⟨Nat.zero_le _, Nat.zero_le _⟩ (fun H locs hP hD hS => ?_)
      refine lv_iload_n hx hb dX5_draw_94 rfl (lv_at hl 4 rfl) ?_
      refine lv_iconst (v := (1 : Int32)) hx hb dX5_draw_95 (by decide) ?_
      refine lv_isub hx hb dX5_draw_96 ?_
      obtain ⟨hne, hf⟩ := dv_some hf
      refine lv_irem hx hb dX5_draw_97 hne ?_
      refine lv_iadd hx hb dX5_draw_98 ?_
      refine lv_iload_n hx hb dX5_draw_99 rfl (lv_at hl 4 rfl) ?_
      obtain ⟨hne, hf⟩ := dv_some hf
      refine lv_irem hx hb dX5_draw_100 hne ?_
      refine lv_istore (lv' := [(8, .int ((((q71 - q71 / y3 * y3) + (1 : Int32)) + (q91 - q91 / (y3 - (1 : Int32)) * (y3 - (1 : Int32)))) - (((q71 - q71 / y3 * y3) + (1 : Int32)) + (q91 - q91 / (y3 - (1 : Int32)) * (y3 - (1 : Int32)))) / y3 * y3)), (5, .int q80), (7, .int (q71 - q71 / y3 * y3)), (0, .ref h0), (2, .int y2), (3, .int y3), (4, .int y4), (6, .int y6)]) hx hb dX5_draw_101 hl (by decide) rfl (fun ls hl => ?_)
      refine lv_iload hx hb dX5_draw_103 (lv_at hl 1 rfl) ?_
      obtain ⟨q105, hq105, hf⟩ := bd_some hf
      refine kcSi C (kX5_nextSeed (l := l) (D := D) (k := k) q80 q105 hq105) mt_X5_nextSeed mw_654 ⟨rfl, rfl, Nat.le_of_ble_eq_true rfl, Nat.le_of_ble_eq_true rfl⟩ hP hD hS [] rfl rfl [none, none, none, none, none, none, none, none, none, none, none, none, none, none, none, none, none, none] rfl rfl (w2 := (wX5_draw k h0 h1 h2 h3 h4 h5 h6 h7 h8 h9 h10 h11 h12 h13 h14 h15 h16 h17 z0 z1 z2 z3 z4 q59.2.2.1 v_nodes v_meetings v_letters v_rooms v_meetingRows v_letterRows v_rules q59.2.2.2.1 q59.2.2.2.2.1 q59.2.2.2.2.2.1 q59.2.2.2.2.2.2.1 q59.2.2.2.2.2.2.2.1 q59.2.2.2.2.2.2.2.2.1 q59.2.2.2.2.2.2.2.2.2.1 q59.2.2.2.2.2.2.2.2.2.2.1 q59.2.2.2.2.2.2.2.2.2.2.2.1 q59.1 q59.2.1 q59.2.2.2.2.2.2.2.2.2.2.2.2)) rfl rfl rfl hl.1 (rest := []) (Nat.le_of_ble_eq_true rfl) rfl dX5_draw_105 ⟨Nat.zero_le _, Nat.zero_le _⟩ (fun H locs hP hD hS => ?_)
      refine lv_istore (lv' := [(5, .int q105), (8, .int ((((q71 - q71 / y3 * y3) + (1 : Int32)) + (q91 - q91 / (y3 - (1 : Int32)) * (y3 - (1 : Int32)))) - (((q71 - q71 / y3 * y3) + (1 : Int32)) + (q91 - q91 / (y3 - (1 : Int32)) * (y3 - (1 : Int32)))) / y3 * y3)), (7, .int (q71 - q71 / y3 * y3)), (0, .ref h0), (2, .int y2), (3, .int y3), (4, .int y4), (6, .int y6)]) hx hb dX5_draw_108 hl (by decide) rfl (fun ls hl => ?_)
      refine lv_aload_n hx hb dX5_draw_110 rfl (lv_at hl 3 rfl) ?_
      refine kget C inX5 hP 0 rfl rfl 3 (by decide) mw_218 rfl dX5_draw_111 ?_
      refine lv_iload hx hb dX5_draw_114 (lv_at hl 2 rfl) ?_
      refine lv_iload hx hb dX5_draw_116 (lv_at hl 1 rfl) ?_
      refine lv_iload hx hb dX5_draw_118 (lv_at hl 0 rfl) ?_
      obtain ⟨q120, hq120, hf⟩ := bd_some hf
      refine kcSi C (kX5_bitsGot (l := l) (D := D) (k := k) q105 q120 hq120) mt_X5_bitsGot mw_658 ⟨rfl, rfl, Nat.le_of_ble_eq_true rfl, Nat.le_of_ble_eq_true rfl⟩ hP hD hS [] rfl rfl [none, none, none, none, none, none, none, none, none, none, none, none, none, none, none, none, none, none] rfl rfl (w2 := (wX5_draw k h0 h1 h2 h3 h4 h5 h6 h7 h8 h9 h10 h11 h12 h13 h14 h15 h16 h17 z0 z1 z2 z3 z4 q59.2.2.1 v_nodes v_meetings v_letters v_rooms v_meetingRows v_letterRows v_rules q59.2.2.2.1 q59.2.2.2.2.1 q59.2.2.2.2.2.1 q59.2.2.2.2.2.2.1 q59.2.2.2.2.2.2.2.1 q59.2.2.2.2.2.2.2.2.1 q59.2.2.2.2.2.2.2.2.2.1 q59.2.2.2.2.2.2.2.2.2.2.1 q59.2.2.2.2.2.2.2.2.2.2.2.1 q59.1 q59.2.1 q59.2.2.2.2.2.2.2.2.2.2.2.2)) rfl rfl rfl hl.1 (rest := [.int ((((q71 - q71 / y3 * y3) + (1 : Int32)) + (q91 - q91 / (y3 - (1 : Int32)) * (y3 - (1 : Int32)))) - (((q71 - q71 / y3 * y3) + (1 : Int32)) + (q91 - q91 / (y3 - (1 : Int32)) * (y3 - (1 : Int32)))) / y3 * y3), .int (q71 - q71 / y3 * y3), .ref h16]) (Nat.le_of_ble_eq_true rfl) rfl dX5_draw_120 ⟨Nat.zero_le _, Nat.zero_le _⟩ (fun H locs hP hD hS => ?_)
      refine lv_bipush (v := (100 : Int32)) hx hb dX5_draw_123 (by decide) ?_
      refine lv_irem hx hb dX5_draw_125 (by decide) ?_
      obtain ⟨q126, hq126, hf⟩ := bd_some hf
      refine kcVv C (kX1_holdMeeting (l := l) (D := D) (k := k) h16 h1 h2 h3 h5 h6 h7 h8 h9 h10 h11 h12 h13 h14 h15 h17 z4 (.ref h4) (.int v_nodes) (.int v_meetings) q59.1 q59.2.1 q59.2.2.1 v_letters v_rooms v_letterRows v_rules q59.2.2.2.1 q59.2.2.2.2.1 q59.2.2.2.2.2.1 q59.2.2.2.2.2.2.1 q59.2.2.2.2.2.2.2.1 q59.2.2.2.2.2.2.2.2.1 q59.2.2.2.2.2.2.2.2.2.1 q59.2.2.2.2.2.2.2.2.2.2.1 q59.2.2.2.2.2.2.2.2.2.2.2.1 q59.2.2.2.2.2.2.2.2.2.2.2.2 (q71 - q71 / y3 * y3) ((((q71 - q71 / y3 * y3) + (1 : Int32)) + (q91 - q91 / (y3 - (1 : Int32)) * (y3 - (1 : Int32)))) - (((q71 - q71 / y3 * y3) + (1 : Int32)) + (q91 - q91 / (y3 - (1 : Int32)) * (y3 - (1 : Int32)))) / y3 * y3) (q120 - q120 / (100 : Int32) * (100 : Int32)) q126 hq126) mt_X1_holdMeeting mw_637 ⟨rfl, rfl, Nat.le_of_ble_eq_true rfl, Nat.le_of_ble_eq_true rfl⟩ hP hD hS 16 rfl rfl rfl [16, 1, 2, 3, 5, 6, 7, 8, 9, 10, 11, 12, 13, 14, 15, 17] rfl rfl [none, some 1, some 2, some 3, none, some 4, some 5, some 6, some 7, some 8, some 9, some 10, some 11, some 12, some 13, some 14, some 0, some 15] rfl rfl (w2 := (wX5_draw k h0 h1 h2 h3 h4 h5 h6 h7 h8 h9 h10 h11 h12 h13 h14 h15 h16 h17 z0 z1 z2 z3 z4 q59.2.2.1 v_nodes v_meetings v_letters v_rooms v_meetingRows v_letterRows v_rules q126.2.2.1 q126.2.2.2.1 q126.2.2.2.2.1 q126.2.2.2.2.2.1 q126.2.2.2.2.2.2.1 q126.2.2.2.2.2.2.2.1 q126.2.2.2.2.2.2.2.2.1 q126.2.2.2.2.2.2.2.2.2.1 q126.2.2.2.2.2.2.2.2.2.2.1 q126.1 q126.2.1 q126.2.2.2.2.2.2.2.2.2.2.2)) rfl rfl rfl hl.1 (rest := []) (Nat.le_of_ble_eq_true rfl) rfl dX5_draw_126 ⟨Nat.zero_le _, Nat.zero_le _⟩ (fun H locs hP hD hS => ?_)
      refine lv_iinc (v := (y6 + (1 : Int32))) (lv' := [(6, .int (y6 + (1 : Int32))), (5, .int q105), (8, .int ((((q71 - q71 / y3 * y3) + (1 : Int32)) + (q91 - q91 / (y3 - (1 : Int32)) * (y3 - (1 : Int32)))) - (((q71 - q71 / y3 * y3) + (1 : Int32)) + (q91 - q91 / (y3 - (1 : Int32)) * (y3 - (1 : Int32)))) / y3 * y3)), (7, .int (q71 - q71 / y3 * y3)), (0, .ref h0), (2, .int y2), (3, .int y3), (4, .int y4)]) hx hb dX5_draw_129 hl (k := 7) rfl rfl (by decide) rfl (fun ls hl => ?_)
      refine lv_goto (tgt := 49) hx hb dX5_draw_132 (by decide) ?_
      exact ih q59.2.2.1 q126.2.2.1 q126.2.2.2.1 q126.2.2.2.2.1 q126.2.2.2.2.2.1 q126.2.2.2.2.2.2.1 q126.2.2.2.2.2.2.2.1 q126.2.2.2.2.2.2.2.2.1 q126.2.2.2.2.2.2.2.2.2.1 q126.2.2.2.2.2.2.2.2.2.2.1 q126.1 q126.2.1 q126.2.2.2.2.2.2.2.2.2.2.2 q105 (y6 + (1 : Int32)) _ _ _ _ hf hP hD hS (lv_sub hl [4, 5, 6, 7, 1, 0] rfl) hk
set_option maxHeartbeats 4000000 in
set_option maxRecDepth 100000 in
theorem kX5_draw {l : Launch} {D : va_G} {k : Nat → ClassId} (h0 h1 h2 h3 h4 h5 h6 h7 h8 h9 h10 h11 h12 h13 h14 h15 h16 h17 : Nat) (z0 z1 z2 z3 z4 : Value) (v_clock : Int32) (v_nodes : Int32) (v_meetings : Int32) (v_letters : Int32) (v_rooms : Nat → Int32) (v_meetingRows : Nat → Int32) (v_letterRows : Nat → Int32) (v_rules : Nat → Int32) (v_counts : Nat → Int32) (v_refused : Nat → Int32) (v_tokens : Nat → Int32) (v_hops : Nat → Int32) (v_since : Nat → Int32) (v_notes : Nat → Int32) (v_lasts : Nat → Int32) (v_deliveredAt : Nat → Int32) (v_deliveredHops : Nat → Int32) (v_left : Int32) (v_refusedOne : Int32) (v_order : Nat → Int32) (x1 : Int32) (x2 : Int32) (q : Int32 × Int32 × (Nat → Int32) × (Nat → Int32) × (Nat → Int32) × (Nat → Int32) × (Nat → Int32) × (Nat → Int32) × (Nat → Int32) × (Nat → Int32) × (Nat → Int32) × Int32 × Int32 × (Nat → Int32)) (hf : fX5_draw v_clock v_nodes v_meetings v_letters v_rooms v_meetingRows v_letterRows v_rules v_counts v_refused v_tokens v_hops v_since v_notes v_lasts v_deliveredAt v_deliveredHops v_left v_refusedOne v_order x1 x2 = some q) : KMi l yX5_draw cX5_draw 9 (some .int) ({ frames := 7, cells := 0, slots := 0, locals := 169 } : Room) D k [.ref h0, .int x1, .int x2] (wX5_draw k h0 h1 h2 h3 h4 h5 h6 h7 h8 h9 h10 h11 h12 h13 h14 h15 h16 h17 z0 z1 z2 z3 z4 v_clock v_nodes v_meetings v_letters v_rooms v_meetingRows v_letterRows v_rules v_counts v_refused v_tokens v_hops v_since v_notes v_lasts v_deliveredAt v_deliveredHops v_left v_refusedOne v_order) q.1 (wX5_draw k h0 h1 h2 h3 h4 h5 h6 h7 h8 h9 h10 h11 h12 h13 h14 h15 h16 h17 z0 z1 z2 z3 z4 q.2.1 v_nodes v_meetings v_letters v_rooms v_meetingRows v_letterRows v_rules q.2.2.1 q.2.2.2.1 q.2.2.2.2.1 q.2.2.2.2.2.1 q.2.2.2.2.2.2.1 q.2.2.2.2.2.2.2.1 q.2.2.2.2.2.2.2.2.1 q.2.2.2.2.2.2.2.2.2.1 q.2.2.2.2.2.2.2.2.2.2.1 q.2.2.2.2.2.2.2.2.2.2.2.1 q.2.2.2.2.2.2.2.2.2.2.2.2.1 q.2.2.2.2.2.2.2.2.2.2.2.2.2) := by
  refine kent_i (by decide) (Nat.le_of_ble_eq_true rfl) ?_
  intro p e s m below meth c A Q ls C hP hD hS hl hret
  obtain ⟨hx, hb, -⟩ := id C
  have hl : lv_has ls 9 [(0, .ref h0), (1, .int x1), (2, .int x2)] := hl
  unfold fX5_draw at hf
  generalize ([.ref h0, .int x1, .int x2] : List Value).toArray = args at *
  refine lv_iload_n hx hb dX5_draw_0 rfl (lv_at hl 2 rfl) ?_
  refine lv_iconst (v := (1 : Int32)) hx hb dX5_draw_1 (by decide) ?_
  refine lv_icmp_lt (tgt := 11) hx hb dX5_draw_2 (by decide) (fun hc => ?_) (fun hc => ?_)
  · rw [if_pos hc] at hf
    refine lv_iconst (v := (-1 : Int32)) hx hb dX5_draw_11 (by decide) ?_
    obtain rfl := Option.some.inj hf
    exact hret _ _ _ _ dX5_draw_12 hP hS
  · rw [if_neg hc] at hf
    refine lv_iload_n hx hb dX5_draw_5 rfl (lv_at hl 2 rfl) ?_
    refine lv_bipush (v := (20 : Int32)) hx hb dX5_draw_6 (by decide) ?_
    refine lv_icmp_le (tgt := 13) hx hb dX5_draw_8 (by decide) (fun hc => ?_) (fun hc => ?_)
    · rw [if_pos hc] at hf
      refine lv_aload_n hx hb dX5_draw_13 rfl (lv_at hl 0 rfl) ?_
      refine kget C inX5 hP 0 rfl rfl 2 (by decide) mw_217 rfl dX5_draw_14 ?_
      refine kget C inX4 hP 1 rfl rfl 0 (by decide) mw_131 rfl dX5_draw_17 ?_
      refine kget C inX0 hP 2 rfl rfl 3 (by decide) mw_61 rfl dX5_draw_20 ?_
      refine lv_istore_n (lv' := [(3, .int v_nodes), (0, .ref h0), (1, .int x1), (2, .int x2)]) hx hb dX5_draw_23 rfl hl (by decide) rfl (fun ls hl => ?_)
      refine lv_iload_n hx hb dX5_draw_24 rfl (lv_at hl 0 rfl) ?_
      refine lv_iconst (v := (2 : Int32)) hx hb dX5_draw_25 (by decide) ?_
      refine lv_icmp_ge (tgt := 32) hx hb dX5_draw_26 (by decide) (fun hc => ?_) (fun hc => ?_)
      · rw [if_pos hc] at hf
        refine lv_aload_n hx hb dX5_draw_32 rfl (lv_at hl 1 rfl) ?_
        refine kget C inX5 hP 0 rfl rfl 2 (by decide) mw_217 rfl dX5_draw_33 ?_
        refine kget C inX4 hP 1 rfl rfl 2 (by decide) mw_137 rfl dX5_draw_36 ?_
        refine lv_iconst (v := (0 : Int32)) hx hb dX5_draw_39 (by decide) ?_
        refine kiald C hP 7 rfl (by unfold vp_in; decide) dX5_draw_40 (j := 0) (by decide) ?_
        refine lv_istore (lv' := [(4, .int (v_counts 0)), (3, .int v_nodes), (0, .ref h0), (1, .int x1), (2, .int x2)]) hx hb dX5_draw_41 hl (by decide) rfl (fun ls hl => ?_)
        refine lv_iload_n hx hb dX5_draw_43 rfl (lv_at hl 3 rfl) ?_
        refine lv_istore (lv' := [(5, .int x1), (4, .int (v_counts 0)), (3, .int v_nodes), (0, .ref h0), (1, .int x1), (2, .int x2)]) hx hb dX5_draw_44 hl (by decide) rfl (fun ls hl => ?_)
        refine lv_iconst (v := (0 : Int32)) hx hb dX5_draw_46 (by decide) ?_
        refine lv_istore (lv' := [(6, .int (0 : Int32)), (5, .int x1), (4, .int (v_counts 0)), (3, .int v_nodes), (0, .ref h0), (1, .int x1), (2, .int x2)]) hx hb dX5_draw_47 hl (by decide) rfl (fun ls hl => ?_)
        obtain ⟨ex49, hv, hf⟩ := bd_some hf
        refine wX5_draw_49 C h0 h1 h2 h3 h4 h5 h6 h7 h8 h9 h10 h11 h12 h13 h14 h15 h16 h17 z0 z1 z2 z3 z4 v_nodes v_meetings v_letters v_rooms v_meetingRows v_letterRows v_rules x2 v_nodes (v_counts 0) FU v_clock v_counts v_refused v_tokens v_hops v_since v_notes v_lasts v_deliveredAt v_deliveredHops v_left v_refusedOne v_order x1 (0 : Int32) ex49 _ _ _ hv hP hD hS (lv_sub hl [4, 6, 3, 2, 1, 0] rfl) (fun H locs ls hP hD hS hl => ?_)
        refine lv_aload_n hx hb dX5_draw_135 rfl (lv_at hl 0 rfl) ?_
        refine kget C inX5 hP 0 rfl rfl 2 (by decide) mw_217 rfl dX5_draw_136 ?_
        refine kget C inX4 hP 1 rfl rfl 2 (by decide) mw_137 rfl dX5_draw_139 ?_
        refine lv_iconst (v := (0 : Int32)) hx hb dX5_draw_142 (by decide) ?_
        refine kiald C hP 7 rfl (by unfold vp_in; decide) dX5_draw_143 (j := 0) (by decide) ?_
        refine lv_iload hx hb dX5_draw_144 (lv_at hl 1 rfl) ?_
        refine lv_isub hx hb dX5_draw_146 ?_
        obtain rfl := Option.some.inj hf
        exact hret _ _ _ _ dX5_draw_147 hP hS
      · rw [if_neg hc] at hf
        refine lv_bipush (v := (-2 : Int32)) hx hb dX5_draw_29 (by decide) ?_
        obtain rfl := Option.some.inj hf
        exact hret _ _ _ _ dX5_draw_31 hP hS
    · rw [if_neg hc] at hf
      refine lv_iconst (v := (-1 : Int32)) hx hb dX5_draw_11 (by decide) ?_
      obtain rfl := Option.some.inj hf
      exact hret _ _ _ _ dX5_draw_12 hP hS
set_option maxHeartbeats 4000000 in
set_option maxRecDepth 100000 in
theorem kX5_keep {l : Launch} {D : va_G} {k : Nat → ClassId} (h0 h1 h2 h3 h4 h5 h6 h7 h8 h9 h10 h11 h12 h13 h14 h15 h16 h17 h18 h19 h20 h21 h22 h23 h24 h25 h26 h27 h28 h29 h30 h31 h32 h33 h34 h35 h36 h37 h38 h39 h40 h41 h42 h43 h44 h45 h46 h47 : Nat) (z0 z1 z2 : Value) (v_clock : Int32) (v_nodes : Int32) (v_meetings : Int32) (v_letters : Int32) (v_rooms : Nat → Int32) (v_meetingRows : Nat → Int32) (v_letterRows : Nat → Int32) (v_rules : Nat → Int32) (v_counts : Nat → Int32) (v_refused : Nat → Int32) (v_tokens : Nat → Int32) (v_hops : Nat → Int32) (v_since : Nat → Int32) (v_notes : Nat → Int32) (v_lasts : Nat → Int32) (v_deliveredAt : Nat → Int32) (v_deliveredHops : Nat → Int32) (v_images0_clock : Int32) (v_images0_nodes : Int32) (v_images0_meetings : Int32) (v_images0_letters : Int32) (v_images0_rooms : Nat → Int32) (v_images0_meetingRows : Nat → Int32) (v_images0_letterRows : Nat → Int32) (v_images0_rules : Nat → Int32) (v_images0_counts : Nat → Int32) (v_images0_refused : Nat → Int32) (v_images0_tokens : Nat → Int32) (v_images0_hops : Nat → Int32) (v_images0_since : Nat → Int32) (v_images0_notes : Nat → Int32) (v_images0_lasts : Nat → Int32) (v_images0_deliveredAt : Nat → Int32) (v_images0_deliveredHops : Nat → Int32) (v_images1_clock : Int32) (v_images1_nodes : Int32) (v_images1_meetings : Int32) (v_images1_letters : Int32) (v_images1_rooms : Nat → Int32) (v_images1_meetingRows : Nat → Int32) (v_images1_letterRows : Nat → Int32) (v_images1_rules : Nat → Int32) (v_images1_counts : Nat → Int32) (v_images1_refused : Nat → Int32) (v_images1_tokens : Nat → Int32) (v_images1_hops : Nat → Int32) (v_images1_since : Nat → Int32) (v_images1_notes : Nat → Int32) (v_images1_lasts : Nat → Int32) (v_images1_deliveredAt : Nat → Int32) (v_images1_deliveredHops : Nat → Int32) (v_kept : Nat → Int32) (x1 : Int32) (q : Int32 × Int32 × Int32 × Int32 × Int32 × (Nat → Int32) × (Nat → Int32) × (Nat → Int32) × (Nat → Int32) × (Nat → Int32) × (Nat → Int32) × (Nat → Int32) × (Nat → Int32) × (Nat → Int32) × (Nat → Int32) × (Nat → Int32) × (Nat → Int32) × (Nat → Int32) × Int32 × Int32 × Int32 × Int32 × (Nat → Int32) × (Nat → Int32) × (Nat → Int32) × (Nat → Int32) × (Nat → Int32) × (Nat → Int32) × (Nat → Int32) × (Nat → Int32) × (Nat → Int32) × (Nat → Int32) × (Nat → Int32) × (Nat → Int32) × (Nat → Int32) × (Nat → Int32)) (hf : fX5_keep v_clock v_nodes v_meetings v_letters v_rooms v_meetingRows v_letterRows v_rules v_counts v_refused v_tokens v_hops v_since v_notes v_lasts v_deliveredAt v_deliveredHops v_images0_clock v_images0_nodes v_images0_meetings v_images0_letters v_images0_rooms v_images0_meetingRows v_images0_letterRows v_images0_rules v_images0_counts v_images0_refused v_images0_tokens v_images0_hops v_images0_since v_images0_notes v_images0_lasts v_images0_deliveredAt v_images0_deliveredHops v_images1_clock v_images1_nodes v_images1_meetings v_images1_letters v_images1_rooms v_images1_meetingRows v_images1_letterRows v_images1_rules v_images1_counts v_images1_refused v_images1_tokens v_images1_hops v_images1_since v_images1_notes v_images1_lasts v_images1_deliveredAt v_images1_deliveredHops v_kept x1 = some q) : KMi l yX5_keep cX5_keep 3 (some .int) ({ frames := 3, cells := 0, slots := 0, locals := 90 } : Room) D k [.ref h0, .int x1] (wX5_keep k h0 h1 h2 h3 h4 h5 h6 h7 h8 h9 h10 h11 h12 h13 h14 h15 h16 h17 h18 h19 h20 h21 h22 h23 h24 h25 h26 h27 h28 h29 h30 h31 h32 h33 h34 h35 h36 h37 h38 h39 h40 h41 h42 h43 h44 h45 h46 h47 z0 z1 z2 v_clock v_nodes v_meetings v_letters v_rooms v_meetingRows v_letterRows v_rules v_counts v_refused v_tokens v_hops v_since v_notes v_lasts v_deliveredAt v_deliveredHops v_images0_clock v_images0_nodes v_images0_meetings v_images0_letters v_images0_rooms v_images0_meetingRows v_images0_letterRows v_images0_rules v_images0_counts v_images0_refused v_images0_tokens v_images0_hops v_images0_since v_images0_notes v_images0_lasts v_images0_deliveredAt v_images0_deliveredHops v_images1_clock v_images1_nodes v_images1_meetings v_images1_letters v_images1_rooms v_images1_meetingRows v_images1_letterRows v_images1_rules v_images1_counts v_images1_refused v_images1_tokens v_images1_hops v_images1_since v_images1_notes v_images1_lasts v_images1_deliveredAt v_images1_deliveredHops v_kept) q.1 (wX5_keep k h0 h1 h2 h3 h4 h5 h6 h7 h8 h9 h10 h11 h12 h13 h14 h15 h16 h17 h18 h19 h20 h21 h22 h23 h24 h25 h26 h27 h28 h29 h30 h31 h32 h33 h34 h35 h36 h37 h38 h39 h40 h41 h42 h43 h44 h45 h46 h47 z0 z1 z2 v_clock v_nodes v_meetings v_letters v_rooms v_meetingRows v_letterRows v_rules v_counts v_refused v_tokens v_hops v_since v_notes v_lasts v_deliveredAt v_deliveredHops q.2.1 q.2.2.1 q.2.2.2.1 q.2.2.2.2.1 q.2.2.2.2.2.1 q.2.2.2.2.2.2.1 q.2.2.2.2.2.2.2.1 q.2.2.2.2.2.2.2.2.1 q.2.2.2.2.2.2.2.2.2.1 q.2.2.2.2.2.2.2.2.2.2.1 q.2.2.2.2.2.2.2.2.2.2.2.1 q.2.2.2.2.2.2.2.2.2.2.2.2.1 q.2.2.2.2.2.2.2.2.2.2.2.2.2.1 q.2.2.2.2.2.2.2.2.2.2.2.2.2.2.1 q.2.2.2.2.2.2.2.2.2.2.2.2.2.2.2.1 q.2.2.2.2.2.2.2.2.2.2.2.2.2.2.2.2.1 q.2.2.2.2.2.2.2.2.2.2.2.2.2.2.2.2.2.1 q.2.2.2.2.2.2.2.2.2.2.2.2.2.2.2.2.2.2.1 q.2.2.2.2.2.2.2.2.2.2.2.2.2.2.2.2.2.2.2.1 q.2.2.2.2.2.2.2.2.2.2.2.2.2.2.2.2.2.2.2.2.1 q.2.2.2.2.2.2.2.2.2.2.2.2.2.2.2.2.2.2.2.2.2.1 q.2.2.2.2.2.2.2.2.2.2.2.2.2.2.2.2.2.2.2.2.2.2.1 q.2.2.2.2.2.2.2.2.2.2.2.2.2.2.2.2.2.2.2.2.2.2.2.1 q.2.2.2.2.2.2.2.2.2.2.2.2.2.2.2.2.2.2.2.2.2.2.2.2.1 q.2.2.2.2.2.2.2.2.2.2.2.2.2.2.2.2.2.2.2.2.2.2.2.2.2.1 q.2.2.2.2.2.2.2.2.2.2.2.2.2.2.2.2.2.2.2.2.2.2.2.2.2.2.1 q.2.2.2.2.2.2.2.2.2.2.2.2.2.2.2.2.2.2.2.2.2.2.2.2.2.2.2.1 q.2.2.2.2.2.2.2.2.2.2.2.2.2.2.2.2.2.2.2.2.2.2.2.2.2.2.2.2.1 q.2.2.2.2.2.2.2.2.2.2.2.2.2.2.2.2.2.2.2.2.2.2.2.2.2.2.2.2.2.1 q.2.2.2.2.2.2.2.2.2.2.2.2.2.2.2.2.2.2.2.2.2.2.2.2.2.2.2.2.2.2.1 q.2.2.2.2.2.2.2.2.2.2.2.2.2.2.2.2.2.2.2.2.2.2.2.2.2.2.2.2.2.2.2.1 q.2.2.2.2.2.2.2.2.2.2.2.2.2.2.2.2.2.2.2.2.2.2.2.2.2.2.2.2.2.2.2.2.1 q.2.2.2.2.2.2.2.2.2.2.2.2.2.2.2.2.2.2.2.2.2.2.2.2.2.2.2.2.2.2.2.2.2.1 q.2.2.2.2.2.2.2.2.2.2.2.2.2.2.2.2.2.2.2.2.2.2.2.2.2.2.2.2.2.2.2.2.2.2.1 q.2.2.2.2.2.2.2.2.2.2.2.2.2.2.2.2.2.2.2.2.2.2.2.2.2.2.2.2.2.2.2.2.2.2.2) := by
  refine kent_i (by decide) (Nat.le_of_ble_eq_true rfl) ?_
  intro p e s m below meth c A Q ls C hP hD hS hl hret
  obtain ⟨hx, hb, -⟩ := id C
  have hl : lv_has ls 3 [(0, .ref h0), (1, .int x1)] := hl
  unfold fX5_keep at hf
  generalize ([.ref h0, .int x1] : List Value).toArray = args at *
  refine lv_iload_n hx hb dX5_keep_0 rfl (lv_at hl 1 rfl) ?_
  refine lv_if_lt (tgt := 9) hx hb dX5_keep_1 (by decide) (fun hc => ?_) (fun hc => ?_)
  · rw [if_pos hc] at hf
    refine lv_iconst (v := (-1 : Int32)) hx hb dX5_keep_9 (by decide) ?_
    obtain rfl := Option.some.inj hf
    exact hret _ _ _ _ dX5_keep_10 hP hS
  · rw [if_neg hc] at hf
    refine lv_iload_n hx hb dX5_keep_4 rfl (lv_at hl 1 rfl) ?_
    refine lv_iconst (v := (2 : Int32)) hx hb dX5_keep_5 (by decide) ?_
    refine lv_icmp_lt (tgt := 11) hx hb dX5_keep_6 (by decide) (fun hc => ?_) (fun hc => ?_)
    · rw [if_pos hc] at hf
      refine lv_aload_n hx hb dX5_keep_11 rfl (lv_at hl 0 rfl) ?_
      refine kget C inX5 hP 0 rfl rfl 5 (by decide) mw_220 rfl dX5_keep_12 ?_
      refine lv_iload_n hx hb dX5_keep_15 rfl (lv_at hl 1 rfl) ?_
      obtain ⟨hin, hf⟩ := gd_some hf
      refine kzald C hP 47 rfl hin dX5_keep_16 (j := x1.toNatClampNeg) rfl ?_
      obtain ⟨v25, hv25, hf⟩ := bd_some hf
      have hj25 : ∀ (H : Heap) (locs : List Loc) (ls : Array Slot), va_P D vwCl (wX5_keep k h0 h1 h2 h3 h4 h5 h6 h7 h8 h9 h10 h11 h12 h13 h14 h15 h16 h17 h18 h19 h20 h21 h22 h23 h24 h25 h26 h27 h28 h29 h30 h31 h32 h33 h34 h35 h36 h37 h38 h39 h40 h41 h42 h43 h44 h45 h46 h47 z0 z1 z2 v_clock v_nodes v_meetings v_letters v_rooms v_meetingRows v_letterRows v_rules v_counts v_refused v_tokens v_hops v_since v_notes v_lasts v_deliveredAt v_deliveredHops v_images0_clock v_images0_nodes v_images0_meetings v_images0_letters v_images0_rooms v_images0_meetingRows v_images0_letterRows v_images0_rules v_images0_counts v_images0_refused v_images0_tokens v_images0_hops v_images0_since v_images0_notes v_images0_lasts v_images0_deliveredAt v_images0_deliveredHops v_images1_clock v_images1_nodes v_images1_meetings v_images1_letters v_images1_rooms v_images1_meetingRows v_images1_letterRows v_images1_rules v_images1_counts v_images1_refused v_images1_tokens v_images1_hops v_images1_since v_images1_notes v_images1_lasts v_images1_deliveredAt v_images1_deliveredHops v_kept) H → va_D A (wX5_keep k h0 h1 h2 h3 h4 h5 h6 h7 h8 h9 h10 h11 h12 h13 h14 h15 h16 h17 h18 h19 h20 h21 h22 h23 h24 h25 h26 h27 h28 h29 h30 h31 h32 h33 h34 h35 h36 h37 h38 h39 h40 h41 h42 h43 h44 h45 h46 h47 z0 z1 z2 v_clock v_nodes v_meetings v_letters v_rooms v_meetingRows v_letterRows v_rules v_counts v_refused v_tokens v_hops v_since v_notes v_lasts v_deliveredAt v_deliveredHops v_images0_clock v_images0_nodes v_images0_meetings v_images0_letters v_images0_rooms v_images0_meetingRows v_images0_letterRows v_images0_rules v_images0_counts v_images0_refused v_images0_tokens v_images0_hops v_images0_since v_images0_notes v_images0_lasts v_images0_deliveredAt v_images0_deliveredHops v_images1_clock v_images1_nodes v_images1_meetings v_images1_letters v_images1_rooms v_images1_meetingRows v_images1_letterRows v_images1_rules v_images1_counts v_images1_refused v_images1_tokens v_images1_hops v_images1_since v_images1_notes v_images1_lasts v_images1_deliveredAt v_images1_deliveredHops v_kept) → va_S A s.heap H locs → lv_has ls 3 [(0, .ref h0), (1, .int x1)] → W p l e ({ frames := 3, cells := 0, slots := 0, locals := 90 } : Room) s m args below meth c H locs 0 0 Q (F0 m 25 ls [.int v25]) := by
        intro H locs ls hP hD hS hl
        refine lv_istore_n (lv' := [(2, .int v25), (0, .ref h0), (1, .int x1)]) hx hb dX5_keep_25 rfl hl (by decide) rfl (fun ls hl => ?_)
        refine lv_aload_n hx hb dX5_keep_26 rfl (lv_at hl 1 rfl) ?_
        refine kget C inX5 hP 0 rfl rfl 4 (by decide) mw_219 rfl dX5_keep_27 ?_
        refine lv_iload_n hx hb dX5_keep_30 rfl (lv_at hl 2 rfl) ?_
        by_cases hc : x1 = 0
        · rw [if_pos hc] at hf
          refine va_aldq hx hb C.2.2.2.2.2.2 hP 16 3 rfl rfl (by rw [hc]; unfold vp_in; decide) dX5_keep_31 ?_
          rw [hc]
          refine W.eq (g2 := F0 m 32 ls [.ref h17]) rfl ?_
          refine lv_aload_n hx hb dX5_keep_32 rfl (lv_at hl 1 rfl) ?_
          refine kget C inX5 hP 0 rfl rfl 2 (by decide) mw_217 rfl dX5_keep_33 ?_
          obtain ⟨q36, hq36, hf⟩ := bd_some hf
          refine kcVv C (kX4_copyFrom (l := l) (D := D) (k := k) h17 h18 h19 h20 h21 h22 h23 h24 h25 h26 h27 h28 h29 h30 h31 h1 h2 h3 h4 h5 h6 h7 h8 h9 h10 h11 h12 h13 h14 h15 v_images0_clock v_images0_nodes v_images0_meetings v_images0_letters v_images0_rooms v_images0_meetingRows v_images0_letterRows v_images0_rules v_images0_counts v_images0_refused v_images0_tokens v_images0_hops v_images0_since v_images0_notes v_images0_lasts v_images0_deliveredAt v_images0_deliveredHops v_clock v_nodes v_meetings v_letters v_rooms v_meetingRows v_letterRows v_rules v_counts v_refused v_tokens v_hops v_since v_notes v_lasts v_deliveredAt v_deliveredHops q36 hq36) mt_X4_copyFrom mw_665 ⟨rfl, rfl, Nat.le_of_ble_eq_true rfl, Nat.le_of_ble_eq_true rfl⟩ hP hD hS 17 rfl rfl rfl [17, 18, 19, 20, 21, 22, 23, 24, 25, 26, 27, 28, 29, 30, 31, 1, 2, 3, 4, 5, 6, 7, 8, 9, 10, 11, 12, 13, 14, 15] rfl rfl [none, some 15, some 16, some 17, some 18, some 19, some 20, some 21, some 22, some 23, some 24, some 25, some 26, some 27, some 28, some 29, none, some 0, some 1, some 2, some 3, some 4, some 5, some 6, some 7, some 8, some 9, some 10, some 11, some 12, some 13, some 14, none, none, none, none, none, none, none, none, none, none, none, none, none, none, none, none] rfl rfl (w2 := (wX5_keep k h0 h1 h2 h3 h4 h5 h6 h7 h8 h9 h10 h11 h12 h13 h14 h15 h16 h17 h18 h19 h20 h21 h22 h23 h24 h25 h26 h27 h28 h29 h30 h31 h32 h33 h34 h35 h36 h37 h38 h39 h40 h41 h42 h43 h44 h45 h46 h47 z0 z1 z2 v_clock v_nodes v_meetings v_letters v_rooms v_meetingRows v_letterRows v_rules v_counts v_refused v_tokens v_hops v_since v_notes v_lasts v_deliveredAt v_deliveredHops q36.1 q36.2.1 q36.2.2.1 q36.2.2.2.1 q36.2.2.2.2.1 q36.2.2.2.2.2.1 q36.2.2.2.2.2.2.1 q36.2.2.2.2.2.2.2.1 q36.2.2.2.2.2.2.2.2.1 q36.2.2.2.2.2.2.2.2.2.1 q36.2.2.2.2.2.2.2.2.2.2.1 q36.2.2.2.2.2.2.2.2.2.2.2.1 q36.2.2.2.2.2.2.2.2.2.2.2.2.1 q36.2.2.2.2.2.2.2.2.2.2.2.2.2.1 q36.2.2.2.2.2.2.2.2.2.2.2.2.2.2.1 q36.2.2.2.2.2.2.2.2.2.2.2.2.2.2.2.1 q36.2.2.2.2.2.2.2.2.2.2.2.2.2.2.2.2 v_images1_clock v_images1_nodes v_images1_meetings v_images1_letters v_images1_rooms v_images1_meetingRows v_images1_letterRows v_images1_rules v_images1_counts v_images1_refused v_images1_tokens v_images1_hops v_images1_since v_images1_notes v_images1_lasts v_images1_deliveredAt v_images1_deliveredHops v_kept)) rfl rfl rfl hl.1 (rest := []) (Nat.le_of_ble_eq_true rfl) rfl dX5_keep_36 ⟨Nat.zero_le _, Nat.zero_le _⟩ (fun H locs hP hD hS => ?_)
          refine lv_aload_n hx hb dX5_keep_39 rfl (lv_at hl 1 rfl) ?_
          refine kget C inX5 hP 0 rfl rfl 5 (by decide) mw_220 rfl dX5_keep_40 ?_
          refine lv_iload_n hx hb dX5_keep_43 rfl (lv_at hl 2 rfl) ?_
          refine lv_iconst (v := (1 : Int32)) hx hb dX5_keep_44 (by decide) ?_
          obtain ⟨hin, hf⟩ := gd_some hf
          obtain ⟨v_kept_45, hn45, hf⟩ := nm_some hf
          refine kzast C hP hD hS 47 rfl hin dX5_keep_45 (j := x1.toNatClampNeg) rfl (g := v_kept_45) hn45 (w2 := (wX5_keep k h0 h1 h2 h3 h4 h5 h6 h7 h8 h9 h10 h11 h12 h13 h14 h15 h16 h17 h18 h19 h20 h21 h22 h23 h24 h25 h26 h27 h28 h29 h30 h31 h32 h33 h34 h35 h36 h37 h38 h39 h40 h41 h42 h43 h44 h45 h46 h47 z0 z1 z2 v_clock v_nodes v_meetings v_letters v_rooms v_meetingRows v_letterRows v_rules v_counts v_refused v_tokens v_hops v_since v_notes v_lasts v_deliveredAt v_deliveredHops q36.1 q36.2.1 q36.2.2.1 q36.2.2.2.1 q36.2.2.2.2.1 q36.2.2.2.2.2.1 q36.2.2.2.2.2.2.1 q36.2.2.2.2.2.2.2.1 q36.2.2.2.2.2.2.2.2.1 q36.2.2.2.2.2.2.2.2.2.1 q36.2.2.2.2.2.2.2.2.2.2.1 q36.2.2.2.2.2.2.2.2.2.2.2.1 q36.2.2.2.2.2.2.2.2.2.2.2.2.1 q36.2.2.2.2.2.2.2.2.2.2.2.2.2.1 q36.2.2.2.2.2.2.2.2.2.2.2.2.2.2.1 q36.2.2.2.2.2.2.2.2.2.2.2.2.2.2.2.1 q36.2.2.2.2.2.2.2.2.2.2.2.2.2.2.2.2 v_images1_clock v_images1_nodes v_images1_meetings v_images1_letters v_images1_rooms v_images1_meetingRows v_images1_letterRows v_images1_rules v_images1_counts v_images1_refused v_images1_tokens v_images1_hops v_images1_since v_images1_notes v_images1_lasts v_images1_deliveredAt v_images1_deliveredHops v_kept_45)) rfl (fun H locs hP hD hS => ?_)
          refine lv_iload_n hx hb dX5_keep_46 rfl (lv_at hl 0 rfl) ?_
          obtain rfl := Option.some.inj hf
          exact hret _ _ _ _ dX5_keep_47 hP hS
        · rw [if_neg hc] at hf
          by_cases hc : x1 = 1
          · rw [if_pos hc] at hf
            refine va_aldq hx hb C.2.2.2.2.2.2 hP 16 3 rfl rfl (by rw [hc]; unfold vp_in; decide) dX5_keep_31 ?_
            rw [hc]
            refine W.eq (g2 := F0 m 32 ls [.ref h32]) rfl ?_
            refine lv_aload_n hx hb dX5_keep_32 rfl (lv_at hl 1 rfl) ?_
            refine kget C inX5 hP 0 rfl rfl 2 (by decide) mw_217 rfl dX5_keep_33 ?_
            obtain ⟨q36, hq36, hf⟩ := bd_some hf
            refine kcVv C (kX4_copyFrom (l := l) (D := D) (k := k) h32 h33 h34 h35 h36 h37 h38 h39 h40 h41 h42 h43 h44 h45 h46 h1 h2 h3 h4 h5 h6 h7 h8 h9 h10 h11 h12 h13 h14 h15 v_images1_clock v_images1_nodes v_images1_meetings v_images1_letters v_images1_rooms v_images1_meetingRows v_images1_letterRows v_images1_rules v_images1_counts v_images1_refused v_images1_tokens v_images1_hops v_images1_since v_images1_notes v_images1_lasts v_images1_deliveredAt v_images1_deliveredHops v_clock v_nodes v_meetings v_letters v_rooms v_meetingRows v_letterRows v_rules v_counts v_refused v_tokens v_hops v_since v_notes v_lasts v_deliveredAt v_deliveredHops q36 hq36) mt_X4_copyFrom mw_665 ⟨rfl, rfl, Nat.le_of_ble_eq_true rfl, Nat.le_of_ble_eq_true rfl⟩ hP hD hS 32 rfl rfl rfl [32, 33, 34, 35, 36, 37, 38, 39, 40, 41, 42, 43, 44, 45, 46, 1, 2, 3, 4, 5, 6, 7, 8, 9, 10, 11, 12, 13, 14, 15] rfl rfl [none, some 15, some 16, some 17, some 18, some 19, some 20, some 21, some 22, some 23, some 24, some 25, some 26, some 27, some 28, some 29, none, none, none, none, none, none, none, none, none, none, none, none, none, none, none, none, some 0, some 1, some 2, some 3, some 4, some 5, some 6, some 7, some 8, some 9, some 10, some 11, some 12, some 13, some 14, none] rfl rfl (w2 := (wX5_keep k h0 h1 h2 h3 h4 h5 h6 h7 h8 h9 h10 h11 h12 h13 h14 h15 h16 h17 h18 h19 h20 h21 h22 h23 h24 h25 h26 h27 h28 h29 h30 h31 h32 h33 h34 h35 h36 h37 h38 h39 h40 h41 h42 h43 h44 h45 h46 h47 z0 z1 z2 v_clock v_nodes v_meetings v_letters v_rooms v_meetingRows v_letterRows v_rules v_counts v_refused v_tokens v_hops v_since v_notes v_lasts v_deliveredAt v_deliveredHops v_images0_clock v_images0_nodes v_images0_meetings v_images0_letters v_images0_rooms v_images0_meetingRows v_images0_letterRows v_images0_rules v_images0_counts v_images0_refused v_images0_tokens v_images0_hops v_images0_since v_images0_notes v_images0_lasts v_images0_deliveredAt v_images0_deliveredHops q36.1 q36.2.1 q36.2.2.1 q36.2.2.2.1 q36.2.2.2.2.1 q36.2.2.2.2.2.1 q36.2.2.2.2.2.2.1 q36.2.2.2.2.2.2.2.1 q36.2.2.2.2.2.2.2.2.1 q36.2.2.2.2.2.2.2.2.2.1 q36.2.2.2.2.2.2.2.2.2.2.1 q36.2.2.2.2.2.2.2.2.2.2.2.1 q36.2.2.2.2.2.2.2.2.2.2.2.2.1 q36.2.2.2.2.2.2.2.2.2.2.2.2.2.1 q36.2.2.2.2.2.2.2.2.2.2.2.2.2.2.1 q36.2.2.2.2.2.2.2.2.2.2.2.2.2.2.2.1 q36.2.2.2.2.2.2.2.2.2.2.2.2.2.2.2.2 v_kept)) rfl rfl rfl hl.1 (rest := []) (Nat.le_of_ble_eq_true rfl) rfl dX5_keep_36 ⟨Nat.zero_le _, Nat.zero_le _⟩ (fun H locs hP hD hS => ?_)
            refine lv_aload_n hx hb dX5_keep_39 rfl (lv_at hl 1 rfl) ?_
            refine kget C inX5 hP 0 rfl rfl 5 (by decide) mw_220 rfl dX5_keep_40 ?_
            refine lv_iload_n hx hb dX5_keep_43 rfl (lv_at hl 2 rfl) ?_
            refine lv_iconst (v := (1 : Int32)) hx hb dX5_keep_44 (by decide) ?_
            obtain ⟨hin, hf⟩ := gd_some hf
            obtain ⟨v_kept_45, hn45, hf⟩ := nm_some hf
            refine kzast C hP hD hS 47 rfl hin dX5_keep_45 (j := x1.toNatClampNeg) rfl (g := v_kept_45) hn45 (w2 := (wX5_keep k h0 h1 h2 h3 h4 h5 h6 h7 h8 h9 h10 h11 h12 h13 h14 h15 h16 h17 h18 h19 h20 h21 h22 h23 h24 h25 h26 h27 h28 h29 h30 h31 h32 h33 h34 h35 h36 h37 h38 h39 h40 h41 h42 h43 h44 h45 h46 h47 z0 z1 z2 v_clock v_nodes v_meetings v_letters v_rooms v_meetingRows v_letterRows v_rules v_counts v_refused v_tokens v_hops v_since v_notes v_lasts v_deliveredAt v_deliveredHops v_images0_clock v_images0_nodes v_images0_meetings v_images0_letters v_images0_rooms v_images0_meetingRows v_images0_letterRows v_images0_rules v_images0_counts v_images0_refused v_images0_tokens v_images0_hops v_images0_since v_images0_notes v_images0_lasts v_images0_deliveredAt v_images0_deliveredHops q36.1 q36.2.1 q36.2.2.1 q36.2.2.2.1 q36.2.2.2.2.1 q36.2.2.2.2.2.1 q36.2.2.2.2.2.2.1 q36.2.2.2.2.2.2.2.1 q36.2.2.2.2.2.2.2.2.1 q36.2.2.2.2.2.2.2.2.2.1 q36.2.2.2.2.2.2.2.2.2.2.1 q36.2.2.2.2.2.2.2.2.2.2.2.1 q36.2.2.2.2.2.2.2.2.2.2.2.2.1 q36.2.2.2.2.2.2.2.2.2.2.2.2.2.1 q36.2.2.2.2.2.2.2.2.2.2.2.2.2.2.1 q36.2.2.2.2.2.2.2.2.2.2.2.2.2.2.2.1 q36.2.2.2.2.2.2.2.2.2.2.2.2.2.2.2.2 v_kept_45)) rfl (fun H locs hP hD hS => ?_)
            refine lv_iload_n hx hb dX5_keep_46 rfl (lv_at hl 0 rfl) ?_
            obtain rfl := Option.some.inj hf
            exact hret _ _ _ _ dX5_keep_47 hP hS
          · rw [if_neg hc] at hf
            cases hf
      clear hf
      have hf := hv25
      refine lv_if_eq (tgt := 24) hx hb dX5_keep_17 (by decide) (fun hc => ?_) (fun hc => ?_)
      · rw [if_pos hc] at hf
        refine lv_iconst (v := (0 : Int32)) hx hb dX5_keep_24 (by decide) ?_
        obtain rfl := Option.some.inj hf
        exact hj25 _ _ _ hP hD hS (lv_sub hl [0, 1] rfl)
      · rw [if_neg hc] at hf
        refine lv_iconst (v := (1 : Int32)) hx hb dX5_keep_20 (by decide) ?_
        refine lv_goto (tgt := 25) hx hb dX5_keep_21 (by decide) ?_
        obtain rfl := Option.some.inj hf
        exact hj25 _ _ _ hP hD hS (lv_sub hl [0, 1] rfl)
    · rw [if_neg hc] at hf
      refine lv_iconst (v := (-1 : Int32)) hx hb dX5_keep_9 (by decide) ?_
      obtain rfl := Option.some.inj hf
      exact hret _ _ _ _ dX5_keep_10 hP hS
set_option maxHeartbeats 4000000 in
set_option maxRecDepth 100000 in
theorem kX5_back {l : Launch} {D : va_G} {k : Nat → ClassId} (h0 h1 h2 h3 h4 h5 h6 h7 h8 h9 h10 h11 h12 h13 h14 h15 h16 h17 h18 h19 h20 h21 h22 h23 h24 h25 h26 h27 h28 h29 h30 h31 h32 h33 h34 h35 h36 h37 h38 h39 h40 h41 h42 h43 h44 h45 h46 h47 : Nat) (z0 z1 z2 : Value) (v_clock : Int32) (v_nodes : Int32) (v_meetings : Int32) (v_letters : Int32) (v_rooms : Nat → Int32) (v_meetingRows : Nat → Int32) (v_letterRows : Nat → Int32) (v_rules : Nat → Int32) (v_counts : Nat → Int32) (v_refused : Nat → Int32) (v_tokens : Nat → Int32) (v_hops : Nat → Int32) (v_since : Nat → Int32) (v_notes : Nat → Int32) (v_lasts : Nat → Int32) (v_deliveredAt : Nat → Int32) (v_deliveredHops : Nat → Int32) (v_images0_clock : Int32) (v_images0_nodes : Int32) (v_images0_meetings : Int32) (v_images0_letters : Int32) (v_images0_rooms : Nat → Int32) (v_images0_meetingRows : Nat → Int32) (v_images0_letterRows : Nat → Int32) (v_images0_rules : Nat → Int32) (v_images0_counts : Nat → Int32) (v_images0_refused : Nat → Int32) (v_images0_tokens : Nat → Int32) (v_images0_hops : Nat → Int32) (v_images0_since : Nat → Int32) (v_images0_notes : Nat → Int32) (v_images0_lasts : Nat → Int32) (v_images0_deliveredAt : Nat → Int32) (v_images0_deliveredHops : Nat → Int32) (v_images1_clock : Int32) (v_images1_nodes : Int32) (v_images1_meetings : Int32) (v_images1_letters : Int32) (v_images1_rooms : Nat → Int32) (v_images1_meetingRows : Nat → Int32) (v_images1_letterRows : Nat → Int32) (v_images1_rules : Nat → Int32) (v_images1_counts : Nat → Int32) (v_images1_refused : Nat → Int32) (v_images1_tokens : Nat → Int32) (v_images1_hops : Nat → Int32) (v_images1_since : Nat → Int32) (v_images1_notes : Nat → Int32) (v_images1_lasts : Nat → Int32) (v_images1_deliveredAt : Nat → Int32) (v_images1_deliveredHops : Nat → Int32) (v_kept : Nat → Int32) (x1 : Int32) (q : Int32 × Int32 × Int32 × Int32 × Int32 × (Nat → Int32) × (Nat → Int32) × (Nat → Int32) × (Nat → Int32) × (Nat → Int32) × (Nat → Int32) × (Nat → Int32) × (Nat → Int32) × (Nat → Int32) × (Nat → Int32) × (Nat → Int32) × (Nat → Int32) × (Nat → Int32)) (hf : fX5_back v_clock v_nodes v_meetings v_letters v_rooms v_meetingRows v_letterRows v_rules v_counts v_refused v_tokens v_hops v_since v_notes v_lasts v_deliveredAt v_deliveredHops v_images0_clock v_images0_nodes v_images0_meetings v_images0_letters v_images0_rooms v_images0_meetingRows v_images0_letterRows v_images0_rules v_images0_counts v_images0_refused v_images0_tokens v_images0_hops v_images0_since v_images0_notes v_images0_lasts v_images0_deliveredAt v_images0_deliveredHops v_images1_clock v_images1_nodes v_images1_meetings v_images1_letters v_images1_rooms v_images1_meetingRows v_images1_letterRows v_images1_rules v_images1_counts v_images1_refused v_images1_tokens v_images1_hops v_images1_since v_images1_notes v_images1_lasts v_images1_deliveredAt v_images1_deliveredHops v_kept x1 = some q) : KMi l yX5_back cX5_back 2 (some .int) ({ frames := 3, cells := 0, slots := 0, locals := 90 } : Room) D k [.ref h0, .int x1] (wX5_back k h0 h1 h2 h3 h4 h5 h6 h7 h8 h9 h10 h11 h12 h13 h14 h15 h16 h17 h18 h19 h20 h21 h22 h23 h24 h25 h26 h27 h28 h29 h30 h31 h32 h33 h34 h35 h36 h37 h38 h39 h40 h41 h42 h43 h44 h45 h46 h47 z0 z1 z2 v_clock v_nodes v_meetings v_letters v_rooms v_meetingRows v_letterRows v_rules v_counts v_refused v_tokens v_hops v_since v_notes v_lasts v_deliveredAt v_deliveredHops v_images0_clock v_images0_nodes v_images0_meetings v_images0_letters v_images0_rooms v_images0_meetingRows v_images0_letterRows v_images0_rules v_images0_counts v_images0_refused v_images0_tokens v_images0_hops v_images0_since v_images0_notes v_images0_lasts v_images0_deliveredAt v_images0_deliveredHops v_images1_clock v_images1_nodes v_images1_meetings v_images1_letters v_images1_rooms v_images1_meetingRows v_images1_letterRows v_images1_rules v_images1_counts v_images1_refused v_images1_tokens v_images1_hops v_images1_since v_images1_notes v_images1_lasts v_images1_deliveredAt v_images1_deliveredHops v_kept) q.1 (wX5_back k h0 h1 h2 h3 h4 h5 h6 h7 h8 h9 h10 h11 h12 h13 h14 h15 h16 h17 h18 h19 h20 h21 h22 h23 h24 h25 h26 h27 h28 h29 h30 h31 h32 h33 h34 h35 h36 h37 h38 h39 h40 h41 h42 h43 h44 h45 h46 h47 z0 z1 z2 q.2.1 q.2.2.1 q.2.2.2.1 q.2.2.2.2.1 q.2.2.2.2.2.1 q.2.2.2.2.2.2.1 q.2.2.2.2.2.2.2.1 q.2.2.2.2.2.2.2.2.1 q.2.2.2.2.2.2.2.2.2.1 q.2.2.2.2.2.2.2.2.2.2.1 q.2.2.2.2.2.2.2.2.2.2.2.1 q.2.2.2.2.2.2.2.2.2.2.2.2.1 q.2.2.2.2.2.2.2.2.2.2.2.2.2.1 q.2.2.2.2.2.2.2.2.2.2.2.2.2.2.1 q.2.2.2.2.2.2.2.2.2.2.2.2.2.2.2.1 q.2.2.2.2.2.2.2.2.2.2.2.2.2.2.2.2.1 q.2.2.2.2.2.2.2.2.2.2.2.2.2.2.2.2.2 v_images0_clock v_images0_nodes v_images0_meetings v_images0_letters v_images0_rooms v_images0_meetingRows v_images0_letterRows v_images0_rules v_images0_counts v_images0_refused v_images0_tokens v_images0_hops v_images0_since v_images0_notes v_images0_lasts v_images0_deliveredAt v_images0_deliveredHops v_images1_clock v_images1_nodes v_images1_meetings v_images1_letters v_images1_rooms v_images1_meetingRows v_images1_letterRows v_images1_rules v_images1_counts v_images1_refused v_images1_tokens v_images1_hops v_images1_since v_images1_notes v_images1_lasts v_images1_deliveredAt v_images1_deliveredHops v_kept) := by
  refine kent_i (by decide) (Nat.le_of_ble_eq_true rfl) ?_
  intro p e s m below meth c A Q ls C hP hD hS hl hret
  obtain ⟨hx, hb, -⟩ := id C
  have hl : lv_has ls 2 [(0, .ref h0), (1, .int x1)] := hl
  unfold fX5_back at hf
  generalize ([.ref h0, .int x1] : List Value).toArray = args at *
  refine lv_iload_n hx hb dX5_back_0 rfl (lv_at hl 1 rfl) ?_
  refine lv_if_lt (tgt := 9) hx hb dX5_back_1 (by decide) (fun hc => ?_) (fun hc => ?_)
  · rw [if_pos hc] at hf
    refine lv_iconst (v := (-1 : Int32)) hx hb dX5_back_9 (by decide) ?_
    obtain rfl := Option.some.inj hf
    exact hret _ _ _ _ dX5_back_10 hP hS
  · rw [if_neg hc] at hf
    refine lv_iload_n hx hb dX5_back_4 rfl (lv_at hl 1 rfl) ?_
    refine lv_iconst (v := (2 : Int32)) hx hb dX5_back_5 (by decide) ?_
    refine lv_icmp_lt (tgt := 11) hx hb dX5_back_6 (by decide) (fun hc => ?_) (fun hc => ?_)
    · rw [if_pos hc] at hf
      refine lv_aload_n hx hb dX5_back_11 rfl (lv_at hl 0 rfl) ?_
      refine kget C inX5 hP 0 rfl rfl 5 (by decide) mw_220 rfl dX5_back_12 ?_
      refine lv_iload_n hx hb dX5_back_15 rfl (lv_at hl 1 rfl) ?_
      obtain ⟨hin, hf⟩ := gd_some hf
      refine kzald C hP 47 rfl hin dX5_back_16 (j := x1.toNatClampNeg) rfl ?_
      refine lv_if_ne (tgt := 23) hx hb dX5_back_17 (by decide) (fun hc => ?_) (fun hc => ?_)
      · rw [if_neg hc] at hf
        refine lv_aload_n hx hb dX5_back_23 rfl (lv_at hl 0 rfl) ?_
        refine kget C inX5 hP 0 rfl rfl 2 (by decide) mw_217 rfl dX5_back_24 ?_
        refine lv_aload_n hx hb dX5_back_27 rfl (lv_at hl 0 rfl) ?_
        refine kget C inX5 hP 0 rfl rfl 4 (by decide) mw_219 rfl dX5_back_28 ?_
        refine lv_iload_n hx hb dX5_back_31 rfl (lv_at hl 1 rfl) ?_
        by_cases hc : x1 = 0
        · rw [if_pos hc] at hf
          refine va_aldq hx hb C.2.2.2.2.2.2 hP 16 3 rfl rfl (by rw [hc]; unfold vp_in; decide) dX5_back_32 ?_
          rw [hc]
          refine W.eq (g2 := F0 m 33 ls [.ref h17, .ref h1]) rfl ?_
          obtain ⟨q33, hq33, hf⟩ := bd_some hf
          refine kcVv C (kX4_copyFrom (l := l) (D := D) (k := k) h1 h2 h3 h4 h5 h6 h7 h8 h9 h10 h11 h12 h13 h14 h15 h17 h18 h19 h20 h21 h22 h23 h24 h25 h26 h27 h28 h29 h30 h31 v_clock v_nodes v_meetings v_letters v_rooms v_meetingRows v_letterRows v_rules v_counts v_refused v_tokens v_hops v_since v_notes v_lasts v_deliveredAt v_deliveredHops v_images0_clock v_images0_nodes v_images0_meetings v_images0_letters v_images0_rooms v_images0_meetingRows v_images0_letterRows v_images0_rules v_images0_counts v_images0_refused v_images0_tokens v_images0_hops v_images0_since v_images0_notes v_images0_lasts v_images0_deliveredAt v_images0_deliveredHops q33 hq33) mt_X4_copyFrom mw_665 ⟨rfl, rfl, Nat.le_of_ble_eq_true rfl, Nat.le_of_ble_eq_true rfl⟩ hP hD hS 1 rfl rfl rfl [1, 2, 3, 4, 5, 6, 7, 8, 9, 10, 11, 12, 13, 14, 15, 17, 18, 19, 20, 21, 22, 23, 24, 25, 26, 27, 28, 29, 30, 31] rfl rfl [none, some 0, some 1, some 2, some 3, some 4, some 5, some 6, some 7, some 8, some 9, some 10, some 11, some 12, some 13, some 14, none, some 15, some 16, some 17, some 18, some 19, some 20, some 21, some 22, some 23, some 24, some 25, some 26, some 27, some 28, some 29, none, none, none, none, none, none, none, none, none, none, none, none, none, none, none, none] rfl rfl (w2 := (wX5_back k h0 h1 h2 h3 h4 h5 h6 h7 h8 h9 h10 h11 h12 h13 h14 h15 h16 h17 h18 h19 h20 h21 h22 h23 h24 h25 h26 h27 h28 h29 h30 h31 h32 h33 h34 h35 h36 h37 h38 h39 h40 h41 h42 h43 h44 h45 h46 h47 z0 z1 z2 q33.1 q33.2.1 q33.2.2.1 q33.2.2.2.1 q33.2.2.2.2.1 q33.2.2.2.2.2.1 q33.2.2.2.2.2.2.1 q33.2.2.2.2.2.2.2.1 q33.2.2.2.2.2.2.2.2.1 q33.2.2.2.2.2.2.2.2.2.1 q33.2.2.2.2.2.2.2.2.2.2.1 q33.2.2.2.2.2.2.2.2.2.2.2.1 q33.2.2.2.2.2.2.2.2.2.2.2.2.1 q33.2.2.2.2.2.2.2.2.2.2.2.2.2.1 q33.2.2.2.2.2.2.2.2.2.2.2.2.2.2.1 q33.2.2.2.2.2.2.2.2.2.2.2.2.2.2.2.1 q33.2.2.2.2.2.2.2.2.2.2.2.2.2.2.2.2 v_images0_clock v_images0_nodes v_images0_meetings v_images0_letters v_images0_rooms v_images0_meetingRows v_images0_letterRows v_images0_rules v_images0_counts v_images0_refused v_images0_tokens v_images0_hops v_images0_since v_images0_notes v_images0_lasts v_images0_deliveredAt v_images0_deliveredHops v_images1_clock v_images1_nodes v_images1_meetings v_images1_letters v_images1_rooms v_images1_meetingRows v_images1_letterRows v_images1_rules v_images1_counts v_images1_refused v_images1_tokens v_images1_hops v_images1_since v_images1_notes v_images1_lasts v_images1_deliveredAt v_images1_deliveredHops v_kept)) rfl rfl rfl hl.1 (rest := []) (Nat.le_of_ble_eq_true rfl) rfl dX5_back_33 ⟨Nat.zero_le _, Nat.zero_le _⟩ (fun H locs hP hD hS => ?_)
          refine lv_aload_n hx hb dX5_back_36 rfl (lv_at hl 0 rfl) ?_
          refine kget C inX5 hP 0 rfl rfl 2 (by decide) mw_217 rfl dX5_back_37 ?_
          refine kget C inX4 hP 1 rfl rfl 11 (by decide) mw_162 rfl dX5_back_40 ?_
          obtain rfl := Option.some.inj hf
          exact hret _ _ _ _ dX5_back_43 hP hS
        · rw [if_neg hc] at hf
          by_cases hc : x1 = 1
          · rw [if_pos hc] at hf
            refine va_aldq hx hb C.2.2.2.2.2.2 hP 16 3 rfl rfl (by rw [hc]; unfold vp_in; decide) dX5_back_32 ?_
            rw [hc]
            refine W.eq (g2 := F0 m 33 ls [.ref h32, .ref h1]) rfl ?_
            obtain ⟨q33, hq33, hf⟩ := bd_some hf
            refine kcVv C (kX4_copyFrom (l := l) (D := D) (k := k) h1 h2 h3 h4 h5 h6 h7 h8 h9 h10 h11 h12 h13 h14 h15 h32 h33 h34 h35 h36 h37 h38 h39 h40 h41 h42 h43 h44 h45 h46 v_clock v_nodes v_meetings v_letters v_rooms v_meetingRows v_letterRows v_rules v_counts v_refused v_tokens v_hops v_since v_notes v_lasts v_deliveredAt v_deliveredHops v_images1_clock v_images1_nodes v_images1_meetings v_images1_letters v_images1_rooms v_images1_meetingRows v_images1_letterRows v_images1_rules v_images1_counts v_images1_refused v_images1_tokens v_images1_hops v_images1_since v_images1_notes v_images1_lasts v_images1_deliveredAt v_images1_deliveredHops q33 hq33) mt_X4_copyFrom mw_665 ⟨rfl, rfl, Nat.le_of_ble_eq_true rfl, Nat.le_of_ble_eq_true rfl⟩ hP hD hS 1 rfl rfl rfl [1, 2, 3, 4, 5, 6, 7, 8, 9, 10, 11, 12, 13, 14, 15, 32, 33, 34, 35, 36, 37, 38, 39, 40, 41, 42, 43, 44, 45, 46] rfl rfl [none, some 0, some 1, some 2, some 3, some 4, some 5, some 6, some 7, some 8, some 9, some 10, some 11, some 12, some 13, some 14, none, none, none, none, none, none, none, none, none, none, none, none, none, none, none, none, some 15, some 16, some 17, some 18, some 19, some 20, some 21, some 22, some 23, some 24, some 25, some 26, some 27, some 28, some 29, none] rfl rfl (w2 := (wX5_back k h0 h1 h2 h3 h4 h5 h6 h7 h8 h9 h10 h11 h12 h13 h14 h15 h16 h17 h18 h19 h20 h21 h22 h23 h24 h25 h26 h27 h28 h29 h30 h31 h32 h33 h34 h35 h36 h37 h38 h39 h40 h41 h42 h43 h44 h45 h46 h47 z0 z1 z2 q33.1 q33.2.1 q33.2.2.1 q33.2.2.2.1 q33.2.2.2.2.1 q33.2.2.2.2.2.1 q33.2.2.2.2.2.2.1 q33.2.2.2.2.2.2.2.1 q33.2.2.2.2.2.2.2.2.1 q33.2.2.2.2.2.2.2.2.2.1 q33.2.2.2.2.2.2.2.2.2.2.1 q33.2.2.2.2.2.2.2.2.2.2.2.1 q33.2.2.2.2.2.2.2.2.2.2.2.2.1 q33.2.2.2.2.2.2.2.2.2.2.2.2.2.1 q33.2.2.2.2.2.2.2.2.2.2.2.2.2.2.1 q33.2.2.2.2.2.2.2.2.2.2.2.2.2.2.2.1 q33.2.2.2.2.2.2.2.2.2.2.2.2.2.2.2.2 v_images0_clock v_images0_nodes v_images0_meetings v_images0_letters v_images0_rooms v_images0_meetingRows v_images0_letterRows v_images0_rules v_images0_counts v_images0_refused v_images0_tokens v_images0_hops v_images0_since v_images0_notes v_images0_lasts v_images0_deliveredAt v_images0_deliveredHops v_images1_clock v_images1_nodes v_images1_meetings v_images1_letters v_images1_rooms v_images1_meetingRows v_images1_letterRows v_images1_rules v_images1_counts v_images1_refused v_images1_tokens v_images1_hops v_images1_since v_images1_notes v_images1_lasts v_images1_deliveredAt v_images1_deliveredHops v_kept)) rfl rfl rfl hl.1 (rest := []) (Nat.le_of_ble_eq_true rfl) rfl dX5_back_33 ⟨Nat.zero_le _, Nat.zero_le _⟩ (fun H locs hP hD hS => ?_)
            refine lv_aload_n hx hb dX5_back_36 rfl (lv_at hl 0 rfl) ?_
            refine kget C inX5 hP 0 rfl rfl 2 (by decide) mw_217 rfl dX5_back_37 ?_
            refine kget C inX4 hP 1 rfl rfl 11 (by decide) mw_162 rfl dX5_back_40 ?_
            obtain rfl := Option.some.inj hf
            exact hret _ _ _ _ dX5_back_43 hP hS
          · rw [if_neg hc] at hf
            cases hf
      · rw [if_pos hc] at hf
        refine lv_bipush (v := (-2 : Int32)) hx hb dX5_back_20 (by decide) ?_
        obtain rfl := Option.some.inj hf
        exact hret _ _ _ _ dX5_back_22 hP hS
    · rw [if_neg hc] at hf
      refine lv_iconst (v := (-1 : Int32)) hx hb dX5_back_9 (by decide) ?_
      obtain rfl := Option.some.inj hf
      exact hret _ _ _ _ dX5_back_10 hP hS
