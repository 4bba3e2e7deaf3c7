set_option maxHeartbeats 4000000 in
set_option maxRecDepth 100000 in
theorem kX2_byteAt {l : Launch} {D : va_G} {k : Nat → ClassId} (h0 h1 h2 : Nat) (z0 z1 z2 z3 z4 z5 z6 z7 : Value) (v_tape_bytes : Nat → Int32) (x1 : Int32) (q : Int32) (hf : fX2_byteAt v_tape_bytes x1 = some q) : KMi l yX2_byteAt cX2_byteAt 2 (some .int) ({ frames := 0, cells := 0, slots := 0, locals := 0 } : Room) D k [.ref h0, .int x1] (wX2_byteAt k h0 h1 h2 z0 z1 z2 z3 z4 z5 z6 z7 v_tape_bytes) q (wX2_byteAt k h0 h1 h2 z0 z1 z2 z3 z4 z5 z6 z7 v_tape_bytes) := by
  refine kent_i (by decide) (Nat.le_of_ble_eq_true rfl) ?_
  intro p e s m below meth c A Q ls C hP hD hS hl hret
  obtain ⟨hx, hb, -⟩ := id C
  have hl : lv_has ls 2 [(0, .ref h0), (1, .int x1)] := hl
  unfold fX2_byteAt at hf
  generalize ([.ref h0, .int x1] : List Value).toArray = args at *
  refine lv_iload_n hx hb dX2_byteAt_0 rfl (lv_at hl 1 rfl) ?_
  refine lv_if_lt (tgt := 23) hx hb dX2_byteAt_1 (by decide) (fun hc => ?_) (fun hc => ?_)
  · rw [if_pos hc] at hf
    refine lv_iconst (v := (0 : Int32)) hx hb dX2_byteAt_23 (by decide) ?_
    obtain rfl := Option.some.inj hf
    exact hret _ _ _ _ dX2_byteAt_24 hP hS
  · rw [if_neg hc] at hf
    refine lv_iload_n hx hb dX2_byteAt_4 rfl (lv_at hl 1 rfl) ?_
    refine lv_sipush (v := (300 : Int32)) hx hb dX2_byteAt_5 (by decide) ?_
    refine lv_icmp_ge (tgt := 23) hx hb dX2_byteAt_8 (by decide) (fun hc => ?_) (fun hc => ?_)
    · rw [if_pos hc] at hf
      refine lv_iconst (v := (0 : Int32)) hx hb dX2_byteAt_23 (by decide) ?_
      obtain rfl := Option.some.inj hf
      exact hret _ _ _ _ dX2_byteAt_24 hP hS
    · rw [if_neg hc] at hf
      refine lv_aload_n hx hb dX2_byteAt_11 rfl (lv_at hl 0 rfl) ?_
      refine kget C inX2 hP 0 rfl rfl 3 (by decide) mw_92 rfl dX2_byteAt_12 ?_
      refine kget C inX3 hP 1 rfl rfl 0 (by decide) mw_31 rfl dX2_byteAt_15 ?_
      refine lv_iload_n hx hb dX2_byteAt_18 rfl (lv_at hl 1 rfl) ?_
      obtain ⟨hin, hf⟩ := gd_some hf
      refine kbald C hP 2 rfl hin dX2_byteAt_19 (j := x1.toNatClampNeg) rfl ?_
      refine lv_goto (tgt := 24) hx hb dX2_byteAt_20 (by decide) ?_
      obtain rfl := Option.some.inj hf
      exact hret _ _ _ _ dX2_byteAt_24 hP hS
set_option maxHeartbeats 4000000 in
set_option maxRecDepth 100000 in
theorem kX2_kindOf {l : Launch} {D : va_G} {k : Nat → ClassId} (x0 : Int32) (q : Int32) (hf : fX2_kindOf x0 = some q) : KMi l yX2_kindOf cX2_kindOf 1 (some .int) ({ frames := 0, cells := 0, slots := 0, locals := 0 } : Room) D k [.int x0] (wX2_kindOf k) q (wX2_kindOf k) := by
  refine kent_i (by decide) (Nat.le_of_ble_eq_true rfl) ?_
  intro p e s m below meth c A Q ls C hP hD hS hl hret
  obtain ⟨hx, hb, -⟩ := id C
  have hl : lv_has ls 1 [(0, .int x0)] := hl
  unfold fX2_kindOf at hf
  generalize ([.int x0] : List Value).toArray = args at *
  refine lv_iload_n hx hb dX2_kindOf_0 rfl (lv_at hl 0 rfl) ?_
  refine lv_bipush (v := (97 : Int32)) hx hb dX2_kindOf_1 (by decide) ?_
  obtain ⟨u14, hv14, hf⟩ := lp_some hf
  have hr14 : ∀ t, u14 = .inl t → ∀ (H : Heap) (locs : List Loc) (ls : Array Slot) (pc : Nat), decode cX2_kindOf pc = .ok (.ireturn, 1) → va_P D vwCl (wX2_kindOf k) H → va_S A s.heap H locs → W p l e ({ frames := 0, cells := 0, slots := 0, locals := 0 } : Room) s m args below meth c H locs 0 0 Q (F0 m pc ls [.int t]) := by
    intro t ht H locs ls pc hdg hP hS
    subst ht
    obtain rfl := Option.some.inj hf
    exact hret _ _ _ _ hdg hP hS
  have hj14 : ∀ v14, u14 = .inr v14 → ∀ (H : Heap) (locs : List Loc) (ls : Array Slot), va_P D vwCl (wX2_kindOf k) H → va_D A (wX2_kindOf k) → va_S A s.heap H locs → lv_has ls 1 [(0, .int x0)] → W p l e ({ frames := 0, cells := 0, slots := 0, locals := 0 } : Room) s m args below meth c H locs 0 0 Q (F0 m 14 ls []) := by
    intro v14 ht H locs ls hP hD hS hl
    subst ht
    refine lv_iload_n hx hb dX2_kindOf_14 rfl (lv_at hl 0 rfl) ?_
    refine lv_bipush (v := (48 : Int32)) hx hb dX2_kindOf_15 (by decide) ?_
    refine lv_icmp_lt (tgt := 28) hx hb dX2_kindOf_17 (by decide) (fun hc => ?_) (fun hc => ?_)
    · rw [if_pos hc] at hf
      refine lv_iload_n hx hb dX2_kindOf_28 rfl (lv_at hl 0 rfl) ?_
      refine lv_bipush (v := (59 : Int32)) hx hb dX2_kindOf_29 (by decide) ?_
      refine lv_icmp_ne (tgt := 38) hx hb dX2_kindOf_31 (by decide) (fun hc => ?_) (fun hc => ?_)
      · rw [if_neg hc] at hf
        refine lv_iconst (v := (4 : Int32)) hx hb dX2_kindOf_38 (by decide) ?_
        obtain rfl := Option.some.inj hf
        exact hret _ _ _ _ dX2_kindOf_39 hP hS
      · rw [if_pos hc] at hf
        refine lv_iconst (v := (3 : Int32)) hx hb dX2_kindOf_34 (by decide) ?_
        refine lv_goto (tgt := 39) hx hb dX2_kindOf_35 (by decide) ?_
        obtain rfl := Option.some.inj hf
        exact hret _ _ _ _ dX2_kindOf_39 hP hS
    · rw [if_neg hc] at hf
      refine lv_iload_n hx hb dX2_kindOf_20 rfl (lv_at hl 0 rfl) ?_
      refine lv_bipush (v := (57 : Int32)) hx hb dX2_kindOf_21 (by decide) ?_
      refine lv_icmp_gt (tgt := 28) hx hb dX2_kindOf_23 (by decide) (fun hc => ?_) (fun hc => ?_)
      · rw [if_pos hc] at hf
        refine lv_iload_n hx hb dX2_kindOf_28 rfl (lv_at hl 0 rfl) ?_
        refine lv_bipush (v := (59 : Int32)) hx hb dX2_kindOf_29 (by decide) ?_
        refine lv_icmp_ne (tgt := 38) hx hb dX2_kindOf_31 (by decide) (fun hc => ?_) (fun hc => ?_)
        · rw [if_neg hc] at hf
          refine lv_iconst (v := (4 : Int32)) hx hb dX2_kindOf_38 (by decide) ?_
          obtain rfl := Option.some.inj hf
          exact hret _ _ _ _ dX2_kindOf_39 hP hS
        · rw [if_pos hc] at hf
          refine lv_iconst (v := (3 : Int32)) hx hb dX2_kindOf_34 (by decide) ?_
          refine lv_goto (tgt := 39) hx hb dX2_kindOf_35 (by decide) ?_
          obtain rfl := Option.some.inj hf
          exact hret _ _ _ _ dX2_kindOf_39 hP hS
      · rw [if_neg hc] at hf
        refine lv_iconst (v := (2 : Int32)) hx hb dX2_kindOf_26 (by decide) ?_
        obtain rfl := Option.some.inj hf
        exact hret _ _ _ _ dX2_kindOf_27 hP hS
  clear hf
  have hf := hv14
  refine lv_icmp_lt (tgt := 14) hx hb dX2_kindOf_3 (by decide) (fun hc => ?_) (fun hc => ?_)
  · rw [if_pos hc] at hf
    obtain rfl := Option.some.inj hf
    exact hj14 _ rfl _ _ _ hP hD hS (lv_sub hl [0] rfl)
  · rw [if_neg hc] at hf
    refine lv_iload_n hx hb dX2_kindOf_6 rfl (lv_at hl 0 rfl) ?_
    refine lv_bipush (v := (122 : Int32)) hx hb dX2_kindOf_7 (by decide) ?_
    refine lv_icmp_gt (tgt := 14) hx hb dX2_kindOf_9 (by decide) (fun hc => ?_) (fun hc => ?_)
    · rw [if_pos hc] at hf
      obtain rfl := Option.some.inj hf
      exact hj14 _ rfl _ _ _ hP hD hS (lv_sub hl [0] rfl)
    · rw [if_neg hc] at hf
      refine lv_iconst (v := (1 : Int32)) hx hb dX2_kindOf_12 (by decide) ?_
      obtain rfl := Option.some.inj hf
      exact hr14 _ rfl _ _ _ _ dX2_kindOf_13 hP hS
set_option maxHeartbeats 4000000 in
set_option maxRecDepth 100000 in
theorem kX2_refuse {l : Launch} {D : va_G} {k : Nat → ClassId} (h0 : Nat) (z0 z1 z2 z3 z4 z5 : Value) (v_fault : Int32) (v_faultPlace : Int32) (x1 : Int32) (x2 : Int32) (q : Int32 × Int32) (hf : fX2_refuse v_fault v_faultPlace x1 x2 = some q) : KMv l yX2_refuse cX2_refuse 3 ({ frames := 0, cells := 0, slots := 0, locals := 0 } : Room) D k [.ref h0, .int x1, .int x2] (wX2_refuse k h0 z0 z1 z2 z3 z4 z5 v_fault v_faultPlace) (wX2_refuse k h0 z0 z1 z2 z3 z4 z5 q.1 q.2) := by
  refine kent_v (by decide) (Nat.le_of_ble_eq_true rfl) ?_
  intro p e s m below meth c A Q ls C hP hD hS hl hret
  obtain ⟨hx, hb, -⟩ := id C
  have hl : lv_has ls 3 [(0, .ref h0), (1, .int x1), (2, .int x2)] := hl
  unfold fX2_refuse at hf
  generalize ([.ref h0, .int x1, .int x2] : List Value).toArray = args at *
  refine lv_aload_n hx hb dX2_refuse_0 rfl (lv_at hl 0 rfl) ?_
  refine lv_iload_n hx hb dX2_refuse_1 rfl (lv_at hl 1 rfl) ?_
  refine kput C inX2 tyX2_ok nmX2 hP hD hS 0 rfl rfl 1 (by decide) mw_88 rfl rfl rfl (Nat.le_of_ble_eq_true rfl) dX2_refuse_2 (w2 := (wX2_refuse k h0 z0 z1 z2 z3 z4 z5 x1 v_faultPlace)) rfl (fun H locs hP hD hS => ?_)
  refine lv_aload_n hx hb dX2_refuse_5 rfl (lv_at hl 0 rfl) ?_
  refine lv_iload_n hx hb dX2_refuse_6 rfl (lv_at hl 2 rfl) ?_
  refine kput C inX2 tyX2_ok nmX2 hP hD hS 0 rfl rfl 2 (by decide) mw_90 rfl rfl rfl (Nat.le_of_ble_eq_true rfl) dX2_refuse_7 (w2 := (wX2_refuse k h0 z0 z1 z2 z3 z4 z5 x1 x2)) rfl (fun H locs hP hD hS => ?_)
  obtain rfl := Option.some.inj hf
  exact hret _ _ _ _ dX2_refuse_10 hP hS
set_option maxHeartbeats 4000000 in
set_option maxRecDepth 100000 in
theorem wX2_readToken_0 {p : Program} {l : Launch} {e : Env} {s : State} {m : MethodId} {args : Array Value} {below : List Frame} {meth : Method} {c : Code} {A : Nat → Prop} {Q : State → Prop} {D : va_G} {k : Nat → ClassId} (C : Cx p s m args c cX2_readToken 1 RX2 A D k) (h0 h1 h2 : Nat) (z0 z1 : Value) (v_fault : Int32) (v_faultPlace : Int32) (v_kind : Int32) (v_start : Int32) (v_tape_length : Int32) (v_tape_bytes : Nat → Int32) : ∀ (f : Nat) (v_next : Int32) (ex : (Int32)) (H : Heap) (locs : List Loc) (ls : Array Slot), fX2_readToken_0 v_tape_length v_tape_bytes f v_next = some ex → va_P D vwCl (wX2_readToken k h0 h1 h2 z0 z1 v_fault v_faultPlace v_next v_kind v_start v_tape_length v_tape_bytes) H → va_D A (wX2_readToken k h0 h1 h2 z0 z1 v_fault v_faultPlace v_next v_kind v_start v_tape_length v_tape_bytes) → va_S A s.heap H locs → lv_has ls 1 [(0, .ref h0)] → (∀ (H : Heap) (locs : List Loc) (ls : Array Slot), va_P D vwCl (wX2_readToken k h0 h1 h2 z0 z1 v_fault v_faultPlace ex v_kind v_start v_tape_length v_tape_bytes) H → va_D A (wX2_readToken k h0 h1 h2 z0 z1 v_fault v_faultPlace ex v_kind v_start v_tape_length v_tape_bytes) → va_S A s.heap H locs → lv_has ls 1 [(0, .ref h0)] → W p l e ({ frames := 1, cells := 0, slots := 0, locals := 22 } : Room) s m args below meth c H locs 0 0 Q (F0 m 40 ls [])) → W p l e ({ frames := 1, cells := 0, slots := 0, locals := 22 } : Room) s m args below meth c H locs 0 0 Q (F0 m 0 ls []) := by
  obtain ⟨hx, hb, -⟩ := id C
  intro f
  induction f with
  | zero =>
    intro v_next ex H locs ls hf hP hD hS hl hk
    cases hf
  | succ f ih =>
    intro v_next ex H locs ls hf hP hD hS hl hk
    rw [fX2_readToken_0] at hf
    refine lv_aload_n hx hb dX2_readToken_0 rfl (lv_at hl 0 rfl) ?_
    refine kget C inX2 hP 0 rfl rfl 5 (by decide) mw_94 rfl dX2_readToken_1 ?_
    refine lv_aload_n hx hb dX2_readToken_4 rfl (lv_at hl 0 rfl) ?_
    refine kget C inX2 hP 0 rfl rfl 3 (by decide) mw_92 rfl dX2_readToken_5 ?_
    refine kget C inX3 hP 1 rfl rfl 1 (by decide) mw_33 rfl dX2_readToken_8 ?_
    refine lv_icmp_ge (tgt := 40) hx hb dX2_readToken_11 (by decide) (fun hc => ?_) (fun hc => ?_)
    · rw [if_pos hc] at hf
      obtain rfl := Option.some.inj hf
      exact hk _ _ _ hP hD hS (lv_sub hl [0] rfl)
    · rw [if_neg hc] at hf
      refine lv_aload_n hx hb dX2_readToken_14 rfl (lv_at hl 0 rfl) ?_
      refine lv_aload_n hx hb dX2_readToken_15 rfl (lv_at hl 0 rfl) ?_
      refine kget C inX2 hP 0 rfl rfl 5 (by decide) mw_94 rfl dX2_readToken_16 ?_
      obtain ⟨q19, hq19, hf⟩ := bd_some hf
      refine kcVi C (kX2_byteAt (l := l) (D := D) (k := k) h0 h1 h2 z0 (.int v_fault) (.int v_faultPlace) z1 (.int v_next) (.int v_kind) (.int v_start) (.int v_tape_length) v_tape_bytes v_next q19 hq19) mt_X2_byteAt mw_258 ⟨rfl, rfl, Nat.le_of_ble_eq_true rfl, Nat.le_of_ble_eq_true rfl⟩ hP hD hS 0 rfl rfl rfl [0, 1, 2] rfl rfl [some 0, some 1, some 2] rfl rfl (w2 := (wX2_readToken k h0 h1 h2 z0 z1 v_fault v_faultPlace v_next v_kind v_start v_tape_length v_tape_bytes)) rfl rfl rfl hl.1 (rest := []) (Nat.le_of_ble_eq_true rfl) rfl dX2_readToken_19 ⟨Nat.zero_le _, Nat.zero_le _⟩ (fun H locs hP hD hS => ?_)
      refine lv_bipush (v := (32 : Int32)) hx hb dX2_readToken_22 (by decide) ?_
      refine lv_icmp_ne (tgt := 40) hx hb dX2_readToken_24 (by decide) (fun hc => ?_) (fun hc => ?_)
      · rw [if_neg hc] at hf
        obtain rfl := Option.some.inj hf
        exact hk _ _ _ hP hD hS (lv_sub hl [0] rfl)
      · rw [if_pos hc] at hf
        refine lv_aload_n hx hb dX2_readToken_27 rfl (lv_at hl 0 rfl) ?_
        refine lv_dup hx hb dX2_readToken_28 rfl ?_
        refine kget C inX2 hP 0 rfl rfl 5 (by decide) mw_94 rfl dX2_readToken_29 ?_
        refine lv_iconst (v := (1 : Int32)) hx hb dX2_readToken_32 (by decide) ?_
        refine lv_iadd hx hb dX2_readToken_33 ?_
        refine kput C inX2 tyX2_ok nmX2 hP hD hS 0 rfl rfl 5 (by decide) mw_94 rfl rfl rfl (Nat.le_of_ble_eq_true rfl) dX2_readToken_34 (w2 := (wX2_readToken k h0 h1 h2 z0 z1 v_fault v_faultPlace (v_next + (1 : Int32)) v_kind v_start v_tape_length v_tape_bytes)) rfl (fun H locs hP hD hS => ?_)
        refine lv_goto (tgt := 0) hx hb dX2_readToken_37 (by decide) ?_
        exact ih (v_next + (1 : Int32)) _ _ _ _ hf hP hD hS (lv_sub hl [0] rfl) hk
set_option maxHeartbeats 4000000 in
set_option maxRecDepth 100000 in
theorem wX2_readToken_109 {p : Program} {l : Launch} {e : Env} {s : State} {m : MethodId} {args : Array Value} {below : List Frame} {meth : Method} {c : Code} {A : Nat → Prop} {Q : State → Prop} {D : va_G} {k : Nat → ClassId} (C : Cx p s m args c cX2_readToken 1 RX2 A D k) (h0 h1 h2 : Nat) (z0 z1 : Value) (v_fault : Int32) (v_faultPlace : Int32) (v_kind : Int32) (v_start : Int32) (v_tape_length : Int32) (v_tape_bytes : Nat → Int32) : ∀ (f : Nat) (v_next : Int32) (ex : (Int32)) (H : Heap) (locs : List Loc) (ls : Array Slot), fX2_readToken_109 v_kind v_tape_length v_tape_bytes f v_next = some ex → va_P D vwCl (wX2_readToken k h0 h1 h2 z0 z1 v_fault v_faultPlace v_next v_kind v_start v_tape_length v_tape_bytes) H → va_D A (wX2_readToken k h0 h1 h2 z0 z1 v_fault v_faultPlace v_next v_kind v_start v_tape_length v_tape_bytes) → va_S A s.heap H locs → lv_has ls 1 [(0, .ref h0)] → (∀ (H : Heap) (locs : List Loc) (ls : Array Slot), va_P D vwCl (wX2_readToken k h0 h1 h2 z0 z1 v_fault v_faultPlace ex v_kind v_start v_tape_length v_tape_bytes) H → va_D A (wX2_readToken k h0 h1 h2 z0 z1 v_fault v_faultPlace ex v_kind v_start v_tape_length v_tape_bytes) → va_S A s.heap H locs → lv_has ls 1 [(0, .ref h0)] → W p l e ({ frames := 1, cells := 0, slots := 0, locals := 22 } : Room) s m args below meth c H locs 0 0 Q (F0 m 154 ls [])) → W p l e ({ frames := 1, cells := 0, slots := 0, locals := 22 } : Room) s m args below meth c H locs 0 0 Q (F0 m 109 ls []) := by
  obtain ⟨hx, hb, -⟩ := id C
  intro f
  induction f with
  | zero =>
    intro v_next ex H locs ls hf hP hD hS hl hk
    cases hf
  | succ f ih =>
    intro v_next ex H locs ls hf hP hD hS hl hk
    rw [fX2_readToken_109] at hf
    refine lv_aload_n hx hb dX2_readToken_109 rfl (lv_at hl 0 rfl) ?_
    refine kget C inX2 hP 0 rfl rfl 5 (by decide) mw_94 rfl dX2_readToken_110 ?_
    refine lv_aload_n hx hb dX2_readToken_113 rfl (lv_at hl 0 rfl) ?_
    refine kget C inX2 hP 0 rfl rfl 3 (by decide) mw_92 rfl dX2_readToken_114 ?_
    refine kget C inX3 hP 1 rfl rfl 1 (by decide) mw_33 rfl dX2_readToken_117 ?_
    refine lv_icmp_ge (tgt := 154) hx hb dX2_readToken_120 (by decide) (fun hc => ?_) (fun hc => ?_)
    · rw [if_pos hc] at hf
      obtain rfl := Option.some.inj hf
      exact hk _ _ _ hP hD hS (lv_sub hl [0] rfl)
    · rw [if_neg hc] at hf
      refine lv_aload_n hx hb dX2_readToken_123 rfl (lv_at hl 0 rfl) ?_
      refine lv_aload_n hx hb dX2_readToken_124 rfl (lv_at hl 0 rfl) ?_
      refine kget C inX2 hP 0 rfl rfl 5 (by decide) mw_94 rfl dX2_readToken_125 ?_
      obtain ⟨q128, hq128, hf⟩ := bd_some hf
      refine kcVi C (kX2_byteAt (l := l) (D := D) (k := k) h0 h1 h2 z0 (.int v_fault) (.int v_faultPlace) z1 (.int v_next) (.int v_kind) (.int v_start) (.int v_tape_length) v_tape_bytes v_next q128 hq128) mt_X2_byteAt mw_258 ⟨rfl, rfl, Nat.le_of_ble_eq_true rfl, Nat.le_of_ble_eq_true rfl⟩ hP hD hS 0 rfl rfl rfl [0, 1, 2] rfl rfl [some 0, some 1, some 2] rfl rfl (w2 := (wX2_readToken k h0 h1 h2 z0 z1 v_fault v_faultPlace v_next v_kind v_start v_tape_length v_tape_bytes)) rfl rfl rfl hl.1 (rest := []) (Nat.le_of_ble_eq_true rfl) rfl dX2_readToken_128 ⟨Nat.zero_le _, Nat.zero_le _⟩ (fun H locs hP hD hS => ?_)
      obtain ⟨q131, hq131, hf⟩ := bd_some hf
      refine kcSi C (kX2_kindOf (l := l) (D := D) (k := k) q128 q131 hq131) mt_X2_kindOf mw_262 ⟨rfl, rfl, Nat.le_of_ble_eq_true rfl, Nat.le_of_ble_eq_true rfl⟩ hP hD hS [] rfl rfl [none, none, none] rfl rfl (w2 := (wX2_readToken k h0 h1 h2 z0 z1 v_fault v_faultPlace v_next v_kind v_start v_tape_length v_tape_bytes)) rfl rfl rfl hl.1 (rest := []) (Nat.le_of_ble_eq_true rfl) rfl dX2_readToken_131 ⟨Nat.zero_le _, Nat.zero_le _⟩ (fun H locs hP hD hS => ?_)
      refine lv_aload_n hx hb dX2_readToken_134 rfl (lv_at hl 0 rfl) ?_
      refine kget C inX2 hP 0 rfl rfl 6 (by decide) mw_95 rfl dX2_readToken_135 ?_
      refine lv_icmp_ne (tgt := 154) hx hb dX2_readToken_138 (by decide) (fun hc => ?_) (fun hc => ?_)
      · rw [if_neg hc] at hf
        obtain rfl := Option.some.inj hf
        exact hk _ _ _ hP hD hS (lv_sub hl [0] rfl)
      · rw [if_pos hc] at hf
        refine lv_aload_n hx hb dX2_readToken_141 rfl (lv_at hl 0 rfl) ?_
        refine lv_dup hx hb dX2_readToken_142 rfl ?_
        refine kget C inX2 hP 0 rfl rfl 5 (by decide) mw_94 rfl dX2_readToken_143 ?_
        refine lv_iconst (v := (1 : Int32)) hx hb dX2_readToken_146 (by decide) ?_
        refine lv_iadd hx hb dX2_readToken_147 ?_
        refine kput C inX2 tyX2_ok nmX2 hP hD hS 0 rfl rfl 5 (by decide) mw_94 rfl rfl rfl (Nat.le_of_ble_eq_true rfl) dX2_readToken_148 (w2 := (wX2_readToken k h0 h1 h2 z0 z1 v_fault v_faultPlace (v_next + (1 : Int32)) v_kind v_start v_tape_length v_tape_bytes)) rfl (fun H locs hP hD hS => ?_)
        refine lv_goto (tgt := 109) hx hb dX2_readToken_151 (by decide) ?_
        exact ih (v_next + (1 : Int32)) _ _ _ _ hf hP hD hS (lv_sub hl [0] rfl) hk
set_option maxHeartbeats 4000000 in
set_option maxRecDepth 100000 in
theorem kX2_readToken {l : Launch} {D : va_G} {k : Nat → ClassId} (h0 h1 h2 : Nat) (z0 z1 : Value) (v_fault : Int32) (v_faultPlace : Int32) (v_next : Int32) (v_kind : Int32) (v_start : Int32) (v_tape_length : Int32) (v_tape_bytes : Nat → Int32) (q : Int32 × Int32 × Int32 × Int32 × Int32) (hf : fX2_readToken v_fault v_faultPlace v_next v_kind v_start v_tape_length v_tape_bytes = some q) : KMv l yX2_readToken cX2_readToken 1 ({ frames := 1, cells := 0, slots := 0, locals := 22 } : Room) D k [.ref h0] (wX2_readToken k h0 h1 h2 z0 z1 v_fault v_faultPlace v_next v_kind v_start v_tape_length v_tape_bytes) (wX2_readToken k h0 h1 h2 z0 z1 q.1 q.2.1 q.2.2.1 q.2.2.2.1 q.2.2.2.2 v_tape_length v_tape_bytes) := by
  refine kent_v (by decide) (Nat.le_of_ble_eq_true rfl) ?_
  intro p e s m below meth c A Q ls C hP hD hS hl hret
  obtain ⟨hx, hb, -⟩ := id C
  have hl : lv_has ls 1 [(0, .ref h0)] := hl
  unfold fX2_readToken at hf
  generalize ([.ref h0] : List Value).toArray = args at *
  obtain ⟨ex0, hv, hf⟩ := bd_some hf
  refine wX2_readToken_0 C h0 h1 h2 z0 z1 v_fault v_faultPlace v_kind v_start v_tape_length v_tape_bytes FU v_next ex0 _ _ _ hv hP hD hS (lv_sub hl [0] rfl) (fun H locs ls hP hD hS hl => ?_)
  refine lv_aload_n hx hb dX2_readToken_40 rfl (lv_at hl 0 rfl) ?_
  refine lv_aload_n hx hb dX2_readToken_41 rfl (lv_at hl 0 rfl) ?_
  refine kget C inX2 hP 0 rfl rfl 5 (by decide) mw_94 rfl dX2_readToken_42 ?_
  refine kput C inX2 tyX2_ok nmX2 hP hD hS 0 rfl rfl 7 (by decide) mw_96 rfl rfl rfl (Nat.le_of_ble_eq_true rfl) dX2_readToken_45 (w2 := (wX2_readToken k h0 h1 h2 z0 z1 v_fault v_faultPlace ex0 v_kind ex0 v_tape_length v_tape_bytes)) rfl (fun H locs hP hD hS => ?_)
  refine lv_aload_n hx hb dX2_readToken_48 rfl (lv_at hl 0 rfl) ?_
  refine kget C inX2 hP 0 rfl rfl 7 (by decide) mw_96 rfl dX2_readToken_49 ?_
  refine lv_aload_n hx hb dX2_readToken_52 rfl (lv_at hl 0 rfl) ?_
  refine kget C inX2 hP 0 rfl rfl 3 (by decide) mw_92 rfl dX2_readToken_53 ?_
  refine kget C inX3 hP 1 rfl rfl 1 (by decide) mw_33 rfl dX2_readToken_56 ?_
  refine lv_icmp_lt (tgt := 68) hx hb dX2_readToken_59 (by decide) (fun hc => ?_) (fun hc => ?_)
  · rw [if_pos hc] at hf
    refine lv_aload_n hx hb dX2_readToken_68 rfl (lv_at hl 0 rfl) ?_
    refine lv_aload_n hx hb dX2_readToken_69 rfl (lv_at hl 0 rfl) ?_
    refine lv_aload_n hx hb dX2_readToken_70 rfl (lv_at hl 0 rfl) ?_
    refine kget C inX2 hP 0 rfl rfl 7 (by decide) mw_96 rfl dX2_readToken_71 ?_
    obtain ⟨q74, hq74, hf⟩ := bd_some hf
    refine kcVi C (kX2_byteAt (l := l) (D := D) (k := k) h0 h1 h2 z0 (.int v_fault) (.int v_faultPlace) z1 (.int ex0) (.int v_kind) (.int ex0) (.int v_tape_length) v_tape_bytes ex0 q74 hq74) mt_X2_byteAt mw_258 ⟨rfl, rfl, Nat.le_of_ble_eq_true rfl, Nat.le_of_ble_eq_true rfl⟩ hP hD hS 0 rfl rfl rfl [0, 1, 2] rfl rfl [some 0, some 1, some 2] rfl rfl (w2 := (wX2_readToken k h0 h1 h2 z0 z1 v_fault v_faultPlace ex0 v_kind ex0 v_tape_length v_tape_bytes)) rfl rfl rfl hl.1 (rest := [.ref h0]) (Nat.le_of_ble_eq_true rfl) rfl dX2_readToken_74 ⟨Nat.zero_le _, Nat.zero_le _⟩ (fun H locs hP hD hS => ?_)
    obtain ⟨q77, hq77, hf⟩ := bd_some hf
    refine kcSi C (kX2_kindOf (l := l) (D := D) (k := k) q74 q77 hq77) mt_X2_kindOf mw_262 ⟨rfl, rfl, Nat.le_of_ble_eq_true rfl, Nat.le_of_ble_eq_true rfl⟩ hP hD hS [] rfl rfl [none, none, none] rfl rfl (w2 := (wX2_readToken k h0 h1 h2 z0 z1 v_fault v_faultPlace ex0 v_kind ex0 v_tape_length v_tape_bytes)) rfl rfl rfl hl.1 (rest := [.ref h0]) (Nat.le_of_ble_eq_true rfl) rfl dX2_readToken_77 ⟨Nat.zero_le _, Nat.zero_le _⟩ (fun H locs hP hD hS => ?_)
    refine kput C inX2 tyX2_ok nmX2 hP hD hS 0 rfl rfl 6 (by decide) mw_95 rfl rfl rfl (Nat.le_of_ble_eq_true rfl) dX2_readToken_80 (w2 := (wX2_readToken k h0 h1 h2 z0 z1 v_fault v_faultPlace ex0 q77 ex0 v_tape_length v_tape_bytes)) rfl (fun H locs hP hD hS => ?_)
    refine lv_aload_n hx hb dX2_readToken_83 rfl (lv_at hl 0 rfl) ?_
    refine lv_dup hx hb dX2_readToken_84 rfl ?_
    refine kget C inX2 hP 0 rfl rfl 5 (by decide) mw_94 rfl dX2_readToken_85 ?_
    refine lv_iconst (v := (1 : Int32)) hx hb dX2_readToken_88 (by decide) ?_
    refine lv_iadd hx hb dX2_readToken_89 ?_
    refine kput C inX2 tyX2_ok nmX2 hP hD hS 0 rfl rfl 5 (by decide) mw_94 rfl rfl rfl (Nat.le_of_ble_eq_true rfl) dX2_readToken_90 (w2 := (wX2_readToken k h0 h1 h2 z0 z1 v_fault v_faultPlace (ex0 + (1 : Int32)) q77 ex0 v_tape_length v_tape_bytes)) rfl (fun H locs hP hD hS => ?_)
    refine lv_aload_n hx hb dX2_readToken_93 rfl (lv_at hl 0 rfl) ?_
    refine kget C inX2 hP 0 rfl rfl 6 (by decide) mw_95 rfl dX2_readToken_94 ?_
    refine lv_iconst (v := (1 : Int32)) hx hb dX2_readToken_97 (by decide) ?_
    obtain ⟨v154, hv154, hf⟩ := bd_some hf
    have hj154 : ∀ (H : Heap) (locs : List Loc) (ls : Array Slot), va_P D vwCl (wX2_readToken k h0 h1 h2 z0 z1 v_fault v_faultPlace v154 q77 ex0 v_tape_length v_tape_bytes) H → va_D A (wX2_readToken k h0 h1 h2 z0 z1 v_fault v_faultPlace v154 q77 ex0 v_tape_length v_tape_bytes) → va_S A s.heap H locs → lv_has ls 1 [(0, .ref h0)] → W p l e ({ frames := 1, cells := 0, slots := 0, locals := 22 } : Room) s m args below meth c H locs 0 0 Q (F0 m 154 ls []) := by
      intro H locs ls hP hD hS hl
      refine lv_aload_n hx hb dX2_readToken_154 rfl (lv_at hl 0 rfl) ?_
      refine kget C inX2 hP 0 rfl rfl 6 (by decide) mw_95 rfl dX2_readToken_155 ?_
      refine lv_iconst (v := (4 : Int32)) hx hb dX2_readToken_158 (by decide) ?_
      refine lv_icmp_eq (tgt := 183) hx hb dX2_readToken_159 (by decide) (fun hc => ?_) (fun hc => ?_)
      · rw [if_pos hc] at hf
        refine lv_aload_n hx hb dX2_readToken_183 rfl (lv_at hl 0 rfl) ?_
        refine lv_iconst (v := (1 : Int32)) hx hb dX2_readToken_184 (by decide) ?_
        refine lv_aload_n hx hb dX2_readToken_185 rfl (lv_at hl 0 rfl) ?_
        refine kget C inX2 hP 0 rfl rfl 7 (by decide) mw_96 rfl dX2_readToken_186 ?_
        obtain ⟨q189, hq189, hf⟩ := bd_some hf
        refine kcVv C (kX2_refuse (l := l) (D := D) (k := k) h0 z0 (.ref h1) z1 (.int v154) (.int q77) (.int ex0) v_fault v_faultPlace (1 : Int32) ex0 q189 hq189) mt_X2_refuse mw_265 ⟨rfl, rfl, Nat.le_of_ble_eq_true rfl, Nat.le_of_ble_eq_true rfl⟩ hP hD hS 0 rfl rfl rfl [0] rfl rfl [some 0, none, none] rfl rfl (w2 := (wX2_readToken k h0 h1 h2 z0 z1 q189.1 q189.2 v154 q77 ex0 v_tape_length v_tape_bytes)) rfl rfl rfl hl.1 (rest := []) (Nat.le_of_ble_eq_true rfl) rfl dX2_readToken_189 ⟨Nat.zero_le _, Nat.zero_le _⟩ (fun H locs hP hD hS => ?_)
        obtain rfl := Option.some.inj hf
        exact hret _ _ _ _ dX2_readToken_192 hP hS
      · rw [if_neg hc] at hf
        refine lv_aload_n hx hb dX2_readToken_162 rfl (lv_at hl 0 rfl) ?_
        refine kget C inX2 hP 0 rfl rfl 6 (by decide) mw_95 rfl dX2_readToken_163 ?_
        refine lv_iconst (v := (2 : Int32)) hx hb dX2_readToken_166 (by decide) ?_
        refine lv_icmp_ne (tgt := 192) hx hb dX2_readToken_167 (by decide) (fun hc => ?_) (fun hc => ?_)
        · rw [if_neg hc] at hf
          obtain rfl := Option.some.inj hf
          exact hret _ _ _ _ dX2_readToken_192 hP hS
        · rw [if_pos hc] at hf
          refine lv_aload_n hx hb dX2_readToken_170 rfl (lv_at hl 0 rfl) ?_
          refine kget C inX2 hP 0 rfl rfl 5 (by decide) mw_94 rfl dX2_readToken_171 ?_
          refine lv_aload_n hx hb dX2_readToken_174 rfl (lv_at hl 0 rfl) ?_
          refine kget C inX2 hP 0 rfl rfl 7 (by decide) mw_96 rfl dX2_readToken_175 ?_
          refine lv_isub hx hb dX2_readToken_178 ?_
          refine lv_iconst (v := (2 : Int32)) hx hb dX2_readToken_179 (by decide) ?_
          refine lv_icmp_le (tgt := 192) hx hb dX2_readToken_180 (by decide) (fun hc => ?_) (fun hc => ?_)
          · rw [if_pos hc] at hf
            obtain rfl := Option.some.inj hf
            exact hret _ _ _ _ dX2_readToken_192 hP hS
          · rw [if_neg hc] at hf
            refine lv_aload_n hx hb dX2_readToken_183 rfl (lv_at hl 0 rfl) ?_
            refine lv_iconst (v := (1 : Int32)) hx hb dX2_readToken_184 (by decide) ?_
            refine lv_aload_n hx hb dX2_readToken_185 rfl (lv_at hl 0 rfl) ?_
            refine kget C inX2 hP 0 rfl rfl 7 (by decide) mw_96 rfl dX2_readToken_186 ?_
            obtain ⟨q189, hq189, hf⟩ := bd_some hf
            refine kcVv C (kX2_refuse (l := l) (D := D) (k := k) h0 z0 (.ref h1) z1 (.int v154) (.int q77) (.int ex0) v_fault v_faultPlace (1 : Int32) ex0 q189 hq189) mt_X2_refuse mw_265 ⟨rfl, rfl, Nat.le_of_ble_eq_true rfl, Nat.le_of_ble_eq_true rfl⟩ hP hD hS 0 rfl rfl rfl [0] rfl rfl [some 0, none, none] rfl rfl (w2 := (wX2_readToken k h0 h1 h2 z0 z1 q189.1 q189.2 v154 q77 ex0 v_tape_length v_tape_bytes)) rfl rfl rfl hl.1 (rest := []) (Nat.le_of_ble_eq_true rfl) rfl dX2_readToken_189 ⟨Nat.zero_le _, Nat.zero_le _⟩ (fun H locs hP hD hS => ?_)
            obtain rfl := Option.some.inj hf
            exact hret _ _ _ _ dX2_readToken_192 hP hS
    clear hf
    have hf := hv154
    refine lv_icmp_eq (tgt := 109) hx hb dX2_readToken_98 (by decide) (fun hc => ?_) (fun hc => ?_)
    · rw [if_pos hc] at hf
      obtain ⟨ex109, hv, hf⟩ := bd_some hf
      refine wX2_readToken_109 C h0 h1 h2 z0 z1 v_fault v_faultPlace q77 ex0 v_tape_length v_tape_bytes FU (ex0 + (1 : Int32)) ex109 _ _ _ hv hP hD hS (lv_sub hl [0] rfl) (fun H locs ls hP hD hS hl => ?_)
      obtain rfl := Option.some.inj hf
      exact hj154 _ _ _ hP hD hS (lv_sub hl [0] rfl)
    · rw [if_neg hc] at hf
      refine lv_aload_n hx hb dX2_readToken_101 rfl (lv_at hl 0 rfl) ?_
      refine kget C inX2 hP 0 rfl rfl 6 (by decide) mw_95 rfl dX2_readToken_102 ?_
      refine lv_iconst (v := (2 : Int32)) hx hb dX2_readToken_105 (by decide) ?_
      refine lv_icmp_ne (tgt := 154) hx hb dX2_readToken_106 (by decide) (fun hc => ?_) (fun hc => ?_)
      · rw [if_neg hc] at hf
        obtain rfl := Option.some.inj hf
        exact hj154 _ _ _ hP hD hS (lv_sub hl [0] rfl)
      · rw [if_pos hc] at hf
        obtain ⟨ex109, hv, hf⟩ := bd_some hf
        refine wX2_readToken_109 C h0 h1 h2 z0 z1 v_fault v_faultPlace q77 ex0 v_tape_length v_tape_bytes FU (ex0 + (1 : Int32)) ex109 _ _ _ hv hP hD hS (lv_sub hl [0] rfl) (fun H locs ls hP hD hS hl => ?_)
        obtain rfl := Option.some.inj hf
        exact hj154 _ _ _ hP hD hS (lv_sub hl [0] rfl)
  · rw [if_neg hc] at hf
    refine lv_aload_n hx hb dX2_readToken_62 rfl (lv_at hl 0 rfl) ?_
    refine lv_iconst (v := (0 : Int32)) hx hb dX2_readToken_63 (by decide) ?_
    refine kput C inX2 tyX2_ok nmX2 hP hD hS 0 rfl rfl 6 (by decide) mw_95 rfl rfl rfl (Nat.le_of_ble_eq_true rfl) dX2_readToken_64 (w2 := (wX2_readToken k h0 h1 h2 z0 z1 v_fault v_faultPlace ex0 (0 : Int32) ex0 v_tape_length v_tape_bytes)) rfl (fun H locs hP hD hS => ?_)
    obtain rfl := Option.some.inj hf
    exact hret _ _ _ _ dX2_readToken_67 hP hS
set_option maxHeartbeats 4000000 in
set_option maxRecDepth 100000 in
theorem kX2_isFull {l : Launch} {D : va_G} {k : Nat → ClassId} (h0 h1 : Nat) (z0 z1 z2 z3 z4 z5 z6 z7 z8 z9 : Value) (v_nodes : Int32) (v_meetings : Int32) (v_letters : Int32) (x1 : Int32) (q : Int32) (hf : fX2_isFull v_nodes v_meetings v_letters x1 = some q) : KMi l yX2_isFull cX2_isFull 2 (some .boolean) ({ frames := 0, cells := 0, slots := 0, locals := 0 } : Room) D k [.ref h0, .int x1] (wX2_isFull k h0 h1 z0 z1 z2 z3 z4 z5 z6 z7 z8 z9 v_nodes v_meetings v_letters) q (wX2_isFull k h0 h1 z0 z1 z2 z3 z4 z5 z6 z7 z8 z9 v_nodes v_meetings v_letters) := by
  refine kent_z (by decide) (Nat.le_of_ble_eq_true rfl) ?_
  intro p e s m below meth c A Q ls C hP hD hS hl hret
  obtain ⟨hx, hb, -⟩ := id C
  have hl : lv_has ls 2 [(0, .ref h0), (1, .int x1)] := hl
  unfold fX2_isFull at hf
  generalize ([.ref h0, .int x1] : List Value).toArray = args at *
  refine lv_iload_n hx hb dX2_isFull_0 rfl (lv_at hl 1 rfl) ?_
  by_cases hc0 : x1 = (0 : Int32)
  · rw [if_pos hc0] at hf
    refine lv_lookup (tgt := 28) hx hb dX2_isFull_1 rfl (by rw [hc0]; first | done | rfl) (by decide) ?_
    refine lv_aload_n hx hb dX2_isFull_28 rfl (lv_at hl 0 rfl) ?_
    refine kget C inX2 hP 0 rfl rfl 0 (by decide) mw_86 rfl dX2_isFull_29 ?_
    refine kget C inX0 hP 1 rfl rfl 3 (by decide) mw_60 rfl dX2_isFull_32 ?_
    refine lv_bipush (v := (8 : Int32)) hx hb dX2_isFull_35 (by decide) ?_
    refine lv_icmp_lt (tgt := 44) hx hb dX2_isFull_37 (by decide) (fun hc => ?_) (fun hc => ?_)
    · rw [if_pos hc] at hf
      refine lv_iconst (v := (0 : Int32)) hx hb dX2_isFull_44 (by decide) ?_
      obtain rfl := Option.some.inj hf
      exact hret _ _ _ _ dX2_isFull_45 (by decide) hP hS
    · rw [if_neg hc] at hf
      refine lv_iconst (v := (1 : Int32)) hx hb dX2_isFull_40 (by decide) ?_
      refine lv_goto (tgt := 45) hx hb dX2_isFull_41 (by decide) ?_
      obtain rfl := Option.some.inj hf
      exact hret _ _ _ _ dX2_isFull_45 (by decide) hP hS
  · rw [if_neg hc0] at hf
    by_cases hc1 : x1 = (1 : Int32)
    · rw [if_pos hc1] at hf
      refine lv_lookup (tgt := 46) hx hb dX2_isFull_1 rfl (by rw [hc1]; first | done | rfl) (by decide) ?_
      refine lv_aload_n hx hb dX2_isFull_46 rfl (lv_at hl 0 rfl) ?_
      refine kget C inX2 hP 0 rfl rfl 0 (by decide) mw_86 rfl dX2_isFull_47 ?_
      refine kget C inX0 hP 1 rfl rfl 4 (by decide) mw_65 rfl dX2_isFull_50 ?_
      refine lv_bipush (v := (24 : Int32)) hx hb dX2_isFull_53 (by decide) ?_
      refine lv_icmp_lt (tgt := 62) hx hb dX2_isFull_55 (by decide) (fun hc => ?_) (fun hc => ?_)
      · rw [if_pos hc] at hf
        refine lv_iconst (v := (0 : Int32)) hx hb dX2_isFull_62 (by decide) ?_
        obtain rfl := Option.some.inj hf
        exact hret _ _ _ _ dX2_isFull_63 (by decide) hP hS
      · rw [if_neg hc] at hf
        refine lv_iconst (v := (1 : Int32)) hx hb dX2_isFull_58 (by decide) ?_
        refine lv_goto (tgt := 63) hx hb dX2_isFull_59 (by decide) ?_
        obtain rfl := Option.some.inj hf
        exact hret _ _ _ _ dX2_isFull_63 (by decide) hP hS
    · rw [if_neg hc1] at hf
      have hd : W p l e ({ frames := 0, cells := 0, slots := 0, locals := 0 } : Room) s m args below meth c s.heap [] 0 0 Q (F0 m 64 ls []) := by
        refine lv_aload_n hx hb dX2_isFull_64 rfl (lv_at hl 0 rfl) ?_
        refine kget C inX2 hP 0 rfl rfl 0 (by decide) mw_86 rfl dX2_isFull_65 ?_
        refine kget C inX0 hP 1 rfl rfl 5 (by decide) mw_69 rfl dX2_isFull_68 ?_
        refine lv_bipush (v := (16 : Int32)) hx hb dX2_isFull_71 (by decide) ?_
        refine lv_icmp_lt (tgt := 80) hx hb dX2_isFull_73 (by decide) (fun hc => ?_) (fun hc => ?_)
        · rw [if_pos hc] at hf
          refine lv_iconst (v := (0 : Int32)) hx hb dX2_isFull_80 (by decide) ?_
          obtain rfl := Option.some.inj hf
          exact hret _ _ _ _ dX2_isFull_81 (by decide) hP hS
        · rw [if_neg hc] at hf
          refine lv_iconst (v := (1 : Int32)) hx hb dX2_isFull_76 (by decide) ?_
          refine lv_goto (tgt := 81) hx hb dX2_isFull_77 (by decide) ?_
          obtain rfl := Option.some.inj hf
          exact hret _ _ _ _ dX2_isFull_81 (by decide) hP hS
      exact lv_lookup (off := 63) (tgt := 64) hx hb dX2_isFull_1 rfl (by show Op.lookupswitch.offset [(0, 27), (1, 45)] _ _ = _; rw [lv_osw hc0 (show ((0 : Int32)).toInt = 0 from rfl), lv_osw hc1 (show ((1 : Int32)).toInt = 1 from rfl)]; first | done | rfl) (by decide) hd
set_option maxHeartbeats 4000000 in
set_option maxRecDepth 100000 in
theorem wX2_numberRead_7 {p : Program} {l : Launch} {e : Env} {s : State} {m : MethodId} {args : Array Value} {below : List Frame} {meth : Method} {c : Code} {A : Nat → Prop} {Q : State → Prop} {D : va_G} {k : Nat → ClassId} (C : Cx p s m args c cX2_numberRead 3 RX2 A D k) (h0 h1 h2 : Nat) (z0 z1 z2 z3 z4 z5 : Value) (v_next : Int32) (v_start : Int32) (v_tape_bytes : Nat → Int32) : ∀ (f : Nat) (y1 : Int32) (y2 : Int32) (ex : (Int32)) (H : Heap) (locs : List Loc) (ls : Array Slot), fX2_numberRead_7 v_next v_tape_bytes f y1 y2 = some ex → va_P D vwCl (wX2_numberRead k h0 h1 h2 z0 z1 z2 z3 z4 z5 v_next v_start v_tape_bytes) H → va_D A (wX2_numberRead k h0 h1 h2 z0 z1 z2 z3 z4 z5 v_next v_start v_tape_bytes) → va_S A s.heap H locs → lv_has ls 3 [(0, .ref h0), (1, .int y1), (2, .int y2)] → (∀ (H : Heap) (locs : List Loc) (ls : Array Slot), va_P D vwCl (wX2_numberRead k h0 h1 h2 z0 z1 z2 z3 z4 z5 v_next v_start v_tape_bytes) H → va_D A (wX2_numberRead k h0 h1 h2 z0 z1 z2 z3 z4 z5 v_next v_start v_tape_bytes) → va_S A s.heap H locs → lv_has ls 3 [(1, .int ex)] → W p l e ({ frames := 1, cells := 0, slots := 0, locals := 21 } : Room) s m args below meth c H locs 0 0 Q (F0 m 35 ls [])) → W p l e ({ frames := 1, cells := 0, slots := 0, locals := 21 } : Room) s m args below meth c H locs 0 0 Q (F0 m 7 ls []) := by
  obtain ⟨hx, hb, -⟩ := id C
  intro f
  induction f with
  | zero =>
    intro y1 y2 ex H locs ls hf hP hD hS hl hk
    cases hf
  | succ f ih =>
    intro y1 y2 ex H locs ls hf hP hD hS hl hk
    rw [fX2_numberRead_7] at hf
    refine lv_iload_n hx hb dX2_numberRead_7 rfl (lv_at hl 2 rfl) ?_
    refine lv_aload_n hx hb dX2_numberRead_8 rfl (lv_at hl 0 rfl) ?_
    refine kget C inX2 hP 0 rfl rfl 5 (by decide) mw_94 rfl dX2_numberRead_9 ?_
    refine lv_icmp_ge (tgt := 35) hx hb dX2_numberRead_12 (by decide) (fun hc => ?_) (fun hc => ?_)
    · rw [if_pos hc] at hf
      obtain rfl := Option.some.inj hf
      exact hk _ _ _ hP hD hS (lv_sub hl [1] rfl)
    · rw [if_neg hc] at hf
      refine lv_iload_n hx hb dX2_numberRead_15 rfl (lv_at hl 1 rfl) ?_
      refine lv_bipush (v := (10 : Int32)) hx hb dX2_numberRead_16 (by decide) ?_
      refine lv_imul hx hb dX2_numberRead_18 ?_
      refine lv_aload_n hx hb dX2_numberRead_19 rfl (lv_at hl 0 rfl) ?_
      refine lv_iload_n hx hb dX2_numberRead_20 rfl (lv_at hl 2 rfl) ?_
      obtain ⟨q21, hq21, hf⟩ := bd_some hf
      refine kcVi C (kX2_byteAt (l := l) (D := D) (k := k) h0 h1 h2 z0 z1 z2 z3 (.int v_next) z4 (.int v_start) z5 v_tape_bytes y2 q21 hq21) mt_X2_byteAt mw_258 ⟨rfl, rfl, Nat.le_of_ble_eq_true rfl, Nat.le_of_ble_eq_true rfl⟩ hP hD hS 0 rfl rfl rfl [0, 1, 2] rfl rfl [some 0, some 1, some 2] rfl rfl (w2 := (wX2_numberRead k h0 h1 h2 z0 z1 z2 z3 z4 z5 v_next v_start v_tape_bytes)) rfl rfl rfl hl.1 (rest := [.int (y1 * (10 : Int32))]) (Nat.le_of_ble_eq_true rfl) rfl dX2_numberRead_21 ⟨Nat.zero_le _, Nat.zero_le _⟩ (fun H locs hP hD hS => ?_)
      refine lv_iadd hx hb dX2_numberRead_24 ?_
      refine lv_bipush (v := (48 : Int32)) hx hb dX2_numberRead_25 (by decide) ?_
      refine lv_isub hx hb dX2_numberRead_27 ?_
      refine lv_istore_n (lv' := [(1, .int (((y1 * (10 : Int32)) + q21) - (48 : Int32))), (0, .ref h0), (2, .int y2)]) hx hb dX2_numberRead_28 rfl hl (by decide) rfl (fun ls hl => ?_)
      refine lv_iinc (v := (y2 + (1 : Int32))) (lv' := [(2, .int (y2 + (1 : Int32))), (1, .int (((y1 * (10 : Int32)) + q21) - (48 : Int32))), (0, .ref h0)]) hx hb dX2_numberRead_29 hl (k := 2) rfl rfl (by decide) rfl (fun ls hl => ?_)
      refine lv_goto (tgt := 7) hx hb dX2_numberRead_32 (by decide) ?_
      exact ih (((y1 * (10 : Int32)) + q21) - (48 : Int32)) (y2 + (1 : Int32)) _ _ _ _ hf hP hD hS (lv_sub hl [2, 1, 0] rfl) hk
set_option maxHeartbeats 4000000 in
set_option maxRecDepth 100000 in
theorem kX2_numberRead {l : Launch} {D : va_G} {k : Nat → ClassId} (h0 h1 h2 : Nat) (z0 z1 z2 z3 z4 z5 : Value) (v_next : Int32) (v_start : Int32) (v_tape_bytes : Nat → Int32) (q : Int32) (hf : fX2_numberRead v_next v_start v_tape_bytes = some q) : KMi l yX2_numberRead cX2_numberRead 3 (some .int) ({ frames := 1, cells := 0, slots := 0, locals := 21 } : Room) D k [.ref h0] (wX2_numberRead k h0 h1 h2 z0 z1 z2 z3 z4 z5 v_next v_start v_tape_bytes) q (wX2_numberRead k h0 h1 h2 z0 z1 z2 z3 z4 z5 v_next v_start v_tape_bytes) := by
  refine kent_i (by decide) (Nat.le_of_ble_eq_true rfl) ?_
  intro p e s m below meth c A Q ls C hP hD hS hl hret
  obtain ⟨hx, hb, -⟩ := id C
  have hl : lv_has ls 3 [(0, .ref h0)] := hl
  unfold fX2_numberRead at hf
  generalize ([.ref h0] : List Value).toArray = args at *
  refine lv_iconst (v := (0 : Int32)) hx hb dX2_numberRead_0 (by decide) ?_
  refine lv_istore_n (lv' := [(1, .int (0 : Int32)), (0, .ref h0)]) hx hb dX2_numberRead_1 rfl hl (by decide) rfl (fun ls hl => ?_)
  refine lv_aload_n hx hb dX2_numberRead_2 rfl (lv_at hl 1 rfl) ?_
  refine kget C inX2 hP 0 rfl rfl 7 (by decide) mw_96 rfl dX2_numberRead_3 ?_
  refine lv_istore_n (lv' := [(2, .int v_start), (1, .int (0 : Int32)), (0, .ref h0)]) hx hb dX2_numberRead_6 rfl hl (by decide) rfl (fun ls hl => ?_)
  obtain ⟨ex7, hv, hf⟩ := bd_some hf
  refine wX2_numberRead_7 C h0 h1 h2 z0 z1 z2 z3 z4 z5 v_next v_start v_tape_bytes FU (0 : Int32) v_start ex7 _ _ _ hv hP hD hS (lv_sub hl [2, 1, 0] rfl) (fun H locs ls hP hD hS hl => ?_)
  refine lv_iload_n hx hb dX2_numberRead_35 rfl (lv_at hl 0 rfl) ?_
  obtain rfl := Option.some.inj hf
  exact hret _ _ _ _ dX2_numberRead_36 hP hS
set_option maxHeartbeats 4000000 in
set_option maxRecDepth 100000 in
theorem kX2_takeLine {l : Launch} {D : va_G} {k : Nat → ClassId} (h0 h1 h2 h3 h4 h5 : Nat) (z0 z1 z2 z3 z4 z5 : Value) (v_nodes : Int32) (v_meetings : Int32) (v_letters : Int32) (v_rooms : Nat → Int32) (v_meetingRows : Nat → Int32) (v_letterRows : Nat → Int32) (v_numbers : Nat → Int32) (x1 : Int32) (q : Int32 × Int32 × Int32 × (Nat → Int32) × (Nat → Int32) × (Nat → Int32)) (hf : fX2_takeLine v_nodes v_meetings v_letters v_rooms v_meetingRows v_letterRows v_numbers x1 = some q) : KMv l yX2_takeLine cX2_takeLine 3 ({ frames := 1, cells := 0, slots := 0, locals := 27 } : Room) D k [.ref h0, .int x1] (wX2_takeLine k h0 h1 h2 h3 h4 h5 z0 z1 z2 z3 z4 z5 v_nodes v_meetings v_letters v_rooms v_meetingRows v_letterRows v_numbers) (wX2_takeLine k h0 h1 h2 h3 h4 h5 z0 z1 z2 z3 z4 z5 q.1 q.2.1 q.2.2.1 q.2.2.2.1 q.2.2.2.2.1 q.2.2.2.2.2 v_numbers) := by
  refine kent_v (by decide) (Nat.le_of_ble_eq_true rfl) ?_
  intro p e s m below meth c A Q ls C hP hD hS hl hret
  obtain ⟨hx, hb, -⟩ := id C
  have hl : lv_has ls 3 [(0, .ref h0), (1, .int x1)] := hl
  unfold fX2_takeLine at hf
  generalize ([.ref h0, .int x1] : List Value).toArray = args at *
  refine lv_aload_n hx hb dX2_takeLine_0 rfl (lv_at hl 0 rfl) ?_
  refine kget C inX2 hP 0 rfl rfl 4 (by decide) mw_93 rfl dX2_takeLine_1 ?_
  refine lv_astore_n (lv' := [(2, .ref h5), (0, .ref h0), (1, .int x1)]) hx hb dX2_takeLine_4 rfl hl (by decide) rfl (fun ls hl => ?_)
  refine lv_iload_n hx hb dX2_takeLine_5 rfl (lv_at hl 2 rfl) ?_
  by_cases hc0 : x1 = (0 : Int32)
  · rw [if_pos hc0] at hf
    refine lv_lookup (tgt := 32) hx hb dX2_takeLine_6 rfl (by rw [hc0]; first | done | rfl) (by decide) ?_
    refine lv_aload_n hx hb dX2_takeLine_32 rfl (lv_at hl 1 rfl) ?_
    refine kget C inX2 hP 0 rfl rfl 0 (by decide) mw_86 rfl dX2_takeLine_33 ?_
    refine lv_aload_n hx hb dX2_takeLine_36 rfl (lv_at hl 0 rfl) ?_
    refine lv_iconst (v := (0 : Int32)) hx hb dX2_takeLine_37 (by decide) ?_
    refine kiald C hP 5 rfl (by unfold vp_in; decide) dX2_takeLine_38 (j := 0) (by decide) ?_
    obtain ⟨q39, hq39, hf⟩ := bd_some hf
    refine kcVv C (kX0_addNode (l := l) (D := D) (k := k) h1 h2 (.ref h3) (.ref h4) (.int v_meetings) (.int v_letters) v_nodes v_rooms (v_numbers 0) q39 hq39) mt_X0_addNode mw_364 ⟨rfl, rfl, Nat.le_of_ble_eq_true rfl, Nat.le_of_ble_eq_true rfl⟩ hP hD hS 1 rfl rfl rfl [1, 2] rfl rfl [none, some 0, some 1, none, none, none] rfl rfl (w2 := (wX2_takeLine k h0 h1 h2 h3 h4 h5 z0 z1 z2 z3 z4 z5 q39.1 v_meetings v_letters q39.2 v_meetingRows v_letterRows v_numbers)) rfl rfl rfl hl.1 (rest := []) (Nat.le_of_ble_eq_true rfl) rfl dX2_takeLine_39 ⟨Nat.zero_le _, Nat.zero_le _⟩ (fun H locs hP hD hS => ?_)
    refine lv_goto (tgt := 92) hx hb dX2_takeLine_42 (by decide) ?_
    obtain rfl := Option.some.inj hf
    exact hret _ _ _ _ dX2_takeLine_92 hP hS
  · rw [if_neg hc0] at hf
    by_cases hc1 : x1 = (1 : Int32)
    · rw [if_pos hc1] at hf
      refine lv_lookup (tgt := 45) hx hb dX2_takeLine_6 rfl (by rw [hc1]; first | done | rfl) (by decide) ?_
      refine lv_aload_n hx hb dX2_takeLine_45 rfl (lv_at hl 1 rfl) ?_
      refine kget C inX2 hP 0 rfl rfl 0 (by decide) mw_86 rfl dX2_takeLine_46 ?_
      refine lv_aload_n hx hb dX2_takeLine_49 rfl (lv_at hl 0 rfl) ?_
      refine lv_iconst (v := (0 : Int32)) hx hb dX2_takeLine_50 (by decide) ?_
      refine kiald C hP 5 rfl (by unfold vp_in; decide) dX2_takeLine_51 (j := 0) (by decide) ?_
      refine lv_aload_n hx hb dX2_takeLine_52 rfl (lv_at hl 0 rfl) ?_
      refine lv_iconst (v := (1 : Int32)) hx hb dX2_takeLine_53 (by decide) ?_
      refine kiald C hP 5 rfl (by unfold vp_in; decide) dX2_takeLine_54 (j := 1) (by decide) ?_
      refine lv_aload_n hx hb dX2_takeLine_55 rfl (lv_at hl 0 rfl) ?_
      refine lv_iconst (v := (2 : Int32)) hx hb dX2_takeLine_56 (by decide) ?_
      refine kiald C hP 5 rfl (by unfold vp_in; decide) dX2_takeLine_57 (j := 2) (by decide) ?_
      refine lv_aload_n hx hb dX2_takeLine_58 rfl (lv_at hl 0 rfl) ?_
      refine lv_iconst (v := (3 : Int32)) hx hb dX2_takeLine_59 (by decide) ?_
      refine kiald C hP 5 rfl (by unfold vp_in; decide) dX2_takeLine_60 (j := 3) (by decide) ?_
      obtain ⟨q61, hq61, hf⟩ := bd_some hf
      refine kcVv C (kX0_addMeeting (l := l) (D := D) (k := k) h1 h3 (.ref h2) (.ref h4) (.int v_nodes) (.int v_letters) v_meetings v_meetingRows (v_numbers 0) (v_numbers 1) (v_numbers 2) (v_numbers 3) q61 hq61) mt_X0_addMeeting mw_368 ⟨rfl, rfl, Nat.le_of_ble_eq_true rfl, Nat.le_of_ble_eq_true rfl⟩ hP hD hS 1 rfl rfl rfl [1, 3] rfl rfl [none, some 0, none, some 1, none, none] rfl rfl (w2 := (wX2_takeLine k h0 h1 h2 h3 h4 h5 z0 z1 z2 z3 z4 z5 v_nodes q61.1 v_letters v_rooms q61.2 v_letterRows v_numbers)) rfl rfl rfl hl.1 (rest := []) (Nat.le_of_ble_eq_true rfl) rfl dX2_takeLine_61 ⟨Nat.zero_le _, Nat.zero_le _⟩ (fun H locs hP hD hS => ?_)
      refine lv_goto (tgt := 92) hx hb dX2_takeLine_64 (by decide) ?_
      obtain rfl := Option.some.inj hf
      exact hret _ _ _ _ dX2_takeLine_92 hP hS
    · rw [if_neg hc1] at hf
      have hd : W p l e ({ frames := 1, cells := 0, slots := 0, locals := 27 } : Room) s m args below meth c s.heap [] 0 0 Q (F0 m 67 ls []) := by
        refine lv_aload_n hx hb dX2_takeLine_67 rfl (lv_at hl 1 rfl) ?_
        refine kget C inX2 hP 0 rfl rfl 0 (by decide) mw_86 rfl dX2_takeLine_68 ?_
        refine lv_aload_n hx hb dX2_takeLine_71 rfl (lv_at hl 0 rfl) ?_
        refine lv_iconst (v := (0 : Int32)) hx hb dX2_takeLine_72 (by decide) ?_
        refine kiald C hP 5 rfl (by unfold vp_in; decide) dX2_takeLine_73 (j := 0) (by decide) ?_
        refine lv_aload_n hx hb dX2_takeLine_74 rfl (lv_at hl 0 rfl) ?_
        refine lv_iconst (v := (1 : Int32)) hx hb dX2_takeLine_75 (by decide) ?_
        refine kiald C hP 5 rfl (by unfold vp_in; decide) dX2_takeLine_76 (j := 1) (by decide) ?_
        refine lv_aload_n hx hb dX2_takeLine_77 rfl (lv_at hl 0 rfl) ?_
        refine lv_iconst (v := (2 : Int32)) hx hb dX2_takeLine_78 (by decide) ?_
        refine kiald C hP 5 rfl (by unfold vp_in; decide) dX2_takeLine_79 (j := 2) (by decide) ?_
        refine lv_aload_n hx hb dX2_takeLine_80 rfl (lv_at hl 0 rfl) ?_
        refine lv_iconst (v := (3 : Int32)) hx hb dX2_takeLine_81 (by decide) ?_
        refine kiald C hP 5 rfl (by unfold vp_in; decide) dX2_takeLine_82 (j := 3) (by decide) ?_
        refine lv_aload_n hx hb dX2_takeLine_83 rfl (lv_at hl 0 rfl) ?_
        refine lv_iconst (v := (4 : Int32)) hx hb dX2_takeLine_84 (by decide) ?_
        refine kiald C hP 5 rfl (by unfold vp_in; decide) dX2_takeLine_85 (j := 4) (by decide) ?_
        refine lv_aload_n hx hb dX2_takeLine_86 rfl (lv_at hl 0 rfl) ?_
        refine lv_iconst (v := (5 : Int32)) hx hb dX2_takeLine_87 (by decide) ?_
        refine kiald C hP 5 rfl (by unfold vp_in; decide) dX2_takeLine_88 (j := 5) (by decide) ?_
        obtain ⟨q89, hq89, hf⟩ := bd_some hf
        refine kcVv C (kX0_addLetter (l := l) (D := D) (k := k) h1 h4 (.ref h2) (.ref h3) (.int v_nodes) (.int v_meetings) v_letters v_letterRows (v_numbers 0) (v_numbers 1) (v_numbers 2) (v_numbers 3) (v_numbers 4) (v_numbers 5) q89 hq89) mt_X0_addLetter mw_372 ⟨rfl, rfl, Nat.le_of_ble_eq_true rfl, Nat.le_of_ble_eq_true rfl⟩ hP hD hS 1 rfl rfl rfl [1, 4] rfl rfl [none, some 0, none, none, some 1, none] rfl rfl (w2 := (wX2_takeLine k h0 h1 h2 h3 h4 h5 z0 z1 z2 z3 z4 z5 v_nodes v_meetings q89.1 v_rooms v_meetingRows q89.2 v_numbers)) rfl rfl rfl hl.1 (rest := []) (Nat.le_of_ble_eq_true rfl) rfl dX2_takeLine_89 ⟨Nat.zero_le _, Nat.zero_le _⟩ (fun H locs hP hD hS => ?_)
        obtain rfl := Option.some.inj hf
        exact hret _ _ _ _ dX2_takeLine_92 hP hS
      exact lv_lookup (off := 61) (tgt := 67) hx hb dX2_takeLine_6 rfl (by show Op.lookupswitch.offset [(0, 26), (1, 39)] _ _ = _; rw [lv_osw hc0 (show ((0 : Int32)).toInt = 0 from rfl), lv_osw hc1 (show ((1 : Int32)).toInt = 1 from rfl)]; first | done | rfl) (by decide) hd
