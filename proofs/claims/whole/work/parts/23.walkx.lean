set_option maxHeartbeats 4000000 in
set_option maxRecDepth 100000 in
theorem wX2_isWord_20 {p : Program} {l : Launch} {e : Env} {s : State} {m : MethodId} {args : Array Value} {below : List Frame} {meth : Method} {c : Code} {A : Nat → Prop} {Q : State → Prop} {D : va_G} {k : Nat → ClassId} (ta tv tn : Nat) (tf : Nat → Int32) (C : Cx p s m args c cX2_isWord 3 RX2 A D k) (hX : (XStr ta tv tn tf) A s) (h0 h1 h2 : Nat) (z0 z1 z2 z3 z4 z5 : Value) (v_next : Int32) (v_start : Int32) (v_tape_bytes : Nat → Int32) : ∀ (f : Nat) (y2 : Int32) (u : (Int32) ⊕ (Unit)) (H : Heap) (locs : List Loc) (ls : Array Slot), fX2_isWord_20 tn tf v_start v_tape_bytes f y2 = some u → va_P D vwCl (wX2_isWord k h0 h1 h2 z0 z1 z2 z3 z4 z5 v_next v_start v_tape_bytes) H → va_D A (wX2_isWord k h0 h1 h2 z0 z1 z2 z3 z4 z5 v_next v_start v_tape_bytes) → va_S A s.heap H locs → lv_has ls 3 [(0, .ref h0), (1, .ref ta), (2, .int y2)] → (∀ ex, u = .inr ex → ∀ (H : Heap) (locs : List Loc) (ls : Array Slot), va_P D vwCl (wX2_isWord k h0 h1 h2 z0 z1 z2 z3 z4 z5 v_next v_start v_tape_bytes) H → va_D A (wX2_isWord k h0 h1 h2 z0 z1 z2 z3 z4 z5 v_next v_start v_tape_bytes) → va_S A s.heap H locs → lv_has ls 3 [] → W p l e ({ frames := 4, cells := 0, slots := 0, locals := 85 } : Room) s m args below meth c H locs 0 0 Q (F0 m 54 ls [])) → (∀ t, u = .inl t → ∀ (H : Heap) (locs : List Loc) (ls : Array Slot) (pc : Nat), decode cX2_isWord pc = .ok (.ireturn, 1) → t = 0 ∨ t = 1 → va_P D vwCl (wX2_isWord k h0 h1 h2 z0 z1 z2 z3 z4 z5 v_next v_start v_tape_bytes) H → va_S A s.heap H locs → W p l e ({ frames := 4, cells := 0, slots := 0, locals := 85 } : Room) s m args below meth c H locs 0 0 Q (F0 m pc ls [.int t])) → W p l e ({ frames := 4, cells := 0, slots := 0, locals := 85 } : Room) s m args below meth c H locs 0 0 Q (F0 m 20 ls []) := by
  obtain ⟨hx, hb, -⟩ := id C
  intro f
  induction f with
  | zero =>
    intro y2 u H locs ls hf hP hD hS hl hk hr
    cases hf
  | succ f ih =>
    intro y2 u H locs ls hf hP hD hS hl hk hr
    rw [fX2_isWord_20] at hf
    refine lv_iload_n hx hb dX2_isWord_20 rfl (lv_at hl 2 rfl) ?_
    refine lv_aload_n hx hb dX2_isWord_21 rfl (lv_at hl 1 rfl) ?_
    refine kcViX C (XStr_S ta tv tn tf) hX (kJ0_length (l := l) (D := D) (k := k) ta tv tn tf) mt_J0_length_8abf5 mw_282 ⟨rfl, rfl, Nat.le_of_ble_eq_true rfl, Nat.le_of_ble_eq_true rfl⟩ hP hD hS (str_recv hX.1 hS) [] rfl rfl [none, none, none] rfl rfl (w2 := (wX2_isWord k h0 h1 h2 z0 z1 z2 z3 z4 z5 v_next v_start v_tape_bytes)) rfl rfl rfl hl.1 (rest := [.int y2]) (Nat.le_of_ble_eq_true rfl) rfl dX2_isWord_22 ⟨Nat.zero_le _, Nat.zero_le _⟩ (fun H locs hP hD hS => ?_)
    refine lv_icmp_ge (tgt := 54) hx hb dX2_isWord_25 (by decide) (fun hc => ?_) (fun hc => ?_)
    · rw [if_pos hc] at hf
      obtain rfl := Option.some.inj hf
      exact hk _ rfl _ _ _ hP hD hS (lv_sub hl [] rfl)
    · rw [if_neg hc] at hf
      refine lv_aload_n hx hb dX2_isWord_28 rfl (lv_at hl 0 rfl) ?_
      refine lv_aload_n hx hb dX2_isWord_29 rfl (lv_at hl 0 rfl) ?_
      refine kget C inX2 hP 0 rfl rfl 7 (by decide) mw_96 rfl dX2_isWord_30 ?_
      refine lv_iload_n hx hb dX2_isWord_33 rfl (lv_at hl 2 rfl) ?_
      refine lv_iadd hx hb dX2_isWord_34 ?_
      obtain ⟨q35, hq35, hf⟩ := bd_some hf
      refine kcVi C (kX2_byteAt (l := l) (D := D) (k := k) h0 h1 h2 z0 z1 z2 z3 (.int v_next) z4 (.int v_start) z5 v_tape_bytes (v_start + y2) q35 hq35) mt_X2_byteAt mw_258 ⟨rfl, rfl, Nat.le_of_ble_eq_true rfl, Nat.le_of_ble_eq_true rfl⟩ hP hD hS 0 rfl rfl rfl [0, 1, 2] rfl rfl [some 0, some 1, some 2] rfl rfl (w2 := (wX2_isWord k h0 h1 h2 z0 z1 z2 z3 z4 z5 v_next v_start v_tape_bytes)) rfl rfl rfl hl.1 (rest := []) (Nat.le_of_ble_eq_true rfl) rfl dX2_isWord_35 ⟨Nat.zero_le _, Nat.zero_le _⟩ (fun H locs hP hD hS => ?_)
      refine lv_aload_n hx hb dX2_isWord_38 rfl (lv_at hl 1 rfl) ?_
      refine lv_iload_n hx hb dX2_isWord_39 rfl (lv_at hl 2 rfl) ?_
      obtain ⟨r40, hin, hn31, c0, hc0, hr0, hfc, hf⟩ := chg_some hf
      refine kcViX C (XStr_S ta tv tn tf) hX (kJ0_charAt' (l := l) (D := D) (k := k) ta tv tn tf y2 hn31 hin c0 hc0 hfc r40 hr0) mt_J0_charAt_5068e mw_292 ⟨rfl, rfl, Nat.le_of_ble_eq_true rfl, Nat.le_of_ble_eq_true rfl⟩ hP hD hS (str_recv hX.1 hS) [] rfl rfl [none, none, none] rfl rfl (w2 := (wX2_isWord k h0 h1 h2 z0 z1 z2 z3 z4 z5 v_next v_start v_tape_bytes)) rfl rfl rfl hl.1 (rest := [.int q35]) (Nat.le_of_ble_eq_true rfl) rfl dX2_isWord_40 ⟨Nat.zero_le _, Nat.zero_le _⟩ (fun H locs hP hD hS => ?_)
      refine lv_icmp_eq (tgt := 48) hx hb dX2_isWord_43 (by decide) (fun hc => ?_) (fun hc => ?_)
      · rw [if_pos hc] at hf
        refine lv_iinc (v := (y2 + (1 : Int32))) (lv' := [(2, .int (y2 + (1 : Int32))), (0, .ref h0), (1, .ref ta)]) hx hb dX2_isWord_48 hl (k := 2) rfl rfl (by decide) rfl (fun ls hl => ?_)
        refine lv_goto (tgt := 20) hx hb dX2_isWord_51 (by decide) ?_
        exact ih (y2 + (1 : Int32)) _ _ _ _ hf hP hD hS (lv_sub hl [1, 2, 0] rfl) hk hr
      · rw [if_neg hc] at hf
        refine lv_iconst (v := (0 : Int32)) hx hb dX2_isWord_46 (by decide) ?_
        obtain rfl := Option.some.inj hf
        exact hr _ rfl _ _ _ _ dX2_isWord_47 (by decide) hP hS
set_option maxHeartbeats 4000000 in
set_option maxRecDepth 100000 in
theorem kX2_isWord {l : Launch} {D : va_G} {k : Nat → ClassId} (ta tv tn : Nat) (tf : Nat → Int32) (h0 h1 h2 : Nat) (z0 z1 z2 z3 z4 z5 : Value) (v_next : Int32) (v_start : Int32) (v_tape_bytes : Nat → Int32) (q : Int32) (hf : fX2_isWord tn tf v_next v_start v_tape_bytes = some q) : KMiX (XStr ta tv tn tf) l yX2_isWord cX2_isWord 3 (some .boolean) ({ frames := 4, cells := 0, slots := 0, locals := 85 } : Room) D k [.ref h0, .ref ta] (wX2_isWord k h0 h1 h2 z0 z1 z2 z3 z4 z5 v_next v_start v_tape_bytes) q (wX2_isWord k h0 h1 h2 z0 z1 z2 z3 z4 z5 v_next v_start v_tape_bytes) := by
  refine kent_zX (by decide) (Nat.le_of_ble_eq_true rfl) ?_
  intro p e s m below meth c A Q ls C hX hP hD hS hl hret
  obtain ⟨hx, hb, -⟩ := id C
  have hl : lv_has ls 3 [(0, .ref h0), (1, .ref ta)] := hl
  unfold fX2_isWord at hf
  generalize ([.ref h0, .ref ta] : List Value).toArray = args at *
  refine lv_aload_n hx hb dX2_isWord_0 rfl (lv_at hl 0 rfl) ?_
  refine kget C inX2 hP 0 rfl rfl 5 (by decide) mw_94 rfl dX2_isWord_1 ?_
  refine lv_aload_n hx hb dX2_isWord_4 rfl (lv_at hl 0 rfl) ?_
  refine kget C inX2 hP 0 rfl rfl 7 (by decide) mw_96 rfl dX2_isWord_5 ?_
  refine lv_isub hx hb dX2_isWord_8 ?_
  refine lv_aload_n hx hb dX2_isWord_9 rfl (lv_at hl 1 rfl) ?_
  refine kcViX C (XStr_S ta tv tn tf) hX (kJ0_length (l := l) (D := D) (k := k) ta tv tn tf) mt_J0_length_8abf5 mw_282 ⟨rfl, rfl, Nat.le_of_ble_eq_true rfl, Nat.le_of_ble_eq_true rfl⟩ hP hD hS (str_recv hX.1 hS) [] rfl rfl [none, none, none] rfl rfl (w2 := (wX2_isWord k h0 h1 h2 z0 z1 z2 z3 z4 z5 v_next v_start v_tape_bytes)) rfl rfl rfl hl.1 (rest := [.int (v_next - v_start)]) (Nat.le_of_ble_eq_true rfl) rfl dX2_isWord_10 ⟨Nat.zero_le _, Nat.zero_le _⟩ (fun H locs hP hD hS => ?_)
  refine lv_icmp_eq (tgt := 18) hx hb dX2_isWord_13 (by decide) (fun hc => ?_) (fun hc => ?_)
  · rw [if_pos hc] at hf
    refine lv_iconst (v := (0 : Int32)) hx hb dX2_isWord_18 (by decide) ?_
    refine lv_istore_n (lv' := [(2, .int (0 : Int32)), (0, .ref h0), (1, .ref ta)]) hx hb dX2_isWord_19 rfl hl (by decide) rfl (fun ls hl => ?_)
    obtain ⟨u20, hv, hf⟩ := lp_some hf
    refine wX2_isWord_20 ta tv tn tf C hX h0 h1 h2 z0 z1 z2 z3 z4 z5 v_next v_start v_tape_bytes FU (0 : Int32) u20 _ _ _ hv hP hD hS (lv_sub hl [1, 2, 0] rfl) (fun ex20 ht H locs ls hP hD hS hl => ?_) (fun t ht H locs ls pc hdg h01 hP hS => ?_)
    · subst ht
      refine lv_iconst (v := (1 : Int32)) hx hb dX2_isWord_54 (by decide) ?_
      obtain rfl := Option.some.inj hf
      exact hret _ _ _ _ dX2_isWord_55 (by decide) hP hS
    · subst ht
      obtain rfl := Option.some.inj hf
      exact hret _ _ _ _ hdg h01 hP hS
  · rw [if_neg hc] at hf
    refine lv_iconst (v := (0 : Int32)) hx hb dX2_isWord_16 (by decide) ?_
    obtain rfl := Option.some.inj hf
    exact hret _ _ _ _ dX2_isWord_17 (by decide) hP hS
set_option maxHeartbeats 4000000 in
set_option maxRecDepth 100000 in
theorem kX2_lineBegun {l : Launch} {D : va_G} {k : Nat → ClassId} (t : Nat → Nat) (h0 h1 h2 : Nat) (z0 z1 z2 z3 z4 : Value) (v_next : Int32) (v_kind : Int32) (v_start : Int32) (v_tape_bytes : Nat → Int32) (q : Int32) (hf : fX2_lineBegun v_next v_kind v_start v_tape_bytes = some q) : KMiX (Ev t) l yX2_lineBegun cX2_lineBegun 1 (some .int) ({ frames := 5, cells := 0, slots := 0, locals := 107 } : Room) D k [.ref h0] (wX2_lineBegun k h0 h1 h2 z0 z1 z2 z3 z4 v_next v_kind v_start v_tape_bytes) q (wX2_lineBegun k h0 h1 h2 z0 z1 z2 z3 z4 v_next v_kind v_start v_tape_bytes) := by
  refine kent_iX (by decide) (Nat.le_of_ble_eq_true rfl) ?_
  intro p e s m below meth c A Q ls C hX hP hD hS hl hret
  obtain ⟨hx, hb, -⟩ := id C
  have hl : lv_has ls 1 [(0, .ref h0)] := hl
  unfold fX2_lineBegun at hf
  generalize ([.ref h0] : List Value).toArray = args at *
  refine lv_aload_n hx hb dX2_lineBegun_0 rfl (lv_at hl 0 rfl) ?_
  refine kget C inX2 hP 0 rfl rfl 6 (by decide) mw_95 rfl dX2_lineBegun_1 ?_
  refine lv_iconst (v := (1 : Int32)) hx hb dX2_lineBegun_4 (by decide) ?_
  refine lv_icmp_eq (tgt := 10) hx hb dX2_lineBegun_5 (by decide) (fun hc => ?_) (fun hc => ?_)
  · rw [if_pos hc] at hf
    refine lv_aload_n hx hb dX2_lineBegun_10 rfl (lv_at hl 0 rfl) ?_
    refine va_ldcS hx hb C.2.2.2.1 (Ev_r0 hX) dX2_lineBegun_11 ?_
    obtain ⟨q13, hq13, hf⟩ := bd_some hf
    refine kcViX C (XStr_S _ _ _ _) (Ev_s0 hX) (kX2_isWord (l := l) (D := D) (k := k) (t 7) (t 10) 4 sw0 h0 h1 h2 z0 z1 z2 z3 (.int v_kind) z4 v_next v_start v_tape_bytes q13 hq13) mt_X2_isWord mw_278 ⟨rfl, rfl, Nat.le_of_ble_eq_true rfl, Nat.le_of_ble_eq_true rfl⟩ hP hD hS (va_recv C.2.2.2.2.2.2 hP (q0 := 0) (ci := 2) rfl rfl) [0, 1, 2] rfl rfl [some 0, some 1, some 2] rfl rfl (w2 := (wX2_lineBegun k h0 h1 h2 z0 z1 z2 z3 z4 v_next v_kind v_start v_tape_bytes)) rfl rfl rfl hl.1 (rest := []) (Nat.le_of_ble_eq_true rfl) rfl dX2_lineBegun_13 ⟨Nat.zero_le _, Nat.zero_le _⟩ (fun H locs hP hD hS => ?_)
    refine lv_if_eq (tgt := 21) hx hb dX2_lineBegun_16 (by decide) (fun hc => ?_) (fun hc => ?_)
    · rw [if_pos hc] at hf
      refine lv_aload_n hx hb dX2_lineBegun_21 rfl (lv_at hl 0 rfl) ?_
      refine va_ldcS hx hb C.2.2.2.1 (Ev_r1 hX) dX2_lineBegun_22 ?_
      obtain ⟨q24, hq24, hf⟩ := bd_some hf
      refine kcViX C (XStr_S _ _ _ _) (Ev_s1 hX) (kX2_isWord (l := l) (D := D) (k := k) (t 8) (t 11) 4 sw1 h0 h1 h2 z0 z1 z2 z3 (.int v_kind) z4 v_next v_start v_tape_bytes q24 hq24) mt_X2_isWord mw_278 ⟨rfl, rfl, Nat.le_of_ble_eq_true rfl, Nat.le_of_ble_eq_true rfl⟩ hP hD hS (va_recv C.2.2.2.2.2.2 hP (q0 := 0) (ci := 2) rfl rfl) [0, 1, 2] rfl rfl [some 0, some 1, some 2] rfl rfl (w2 := (wX2_lineBegun k h0 h1 h2 z0 z1 z2 z3 z4 v_next v_kind v_start v_tape_bytes)) rfl rfl rfl hl.1 (rest := []) (Nat.le_of_ble_eq_true rfl) rfl dX2_lineBegun_24 ⟨Nat.zero_le _, Nat.zero_le _⟩ (fun H locs hP hD hS => ?_)
      refine lv_if_eq (tgt := 32) hx hb dX2_lineBegun_27 (by decide) (fun hc => ?_) (fun hc => ?_)
      · rw [if_pos hc] at hf
        refine lv_aload_n hx hb dX2_lineBegun_32 rfl (lv_at hl 0 rfl) ?_
        refine va_ldcS hx hb C.2.2.2.1 (Ev_r2 hX) dX2_lineBegun_33 ?_
        obtain ⟨q35, hq35, hf⟩ := bd_some hf
        refine kcViX C (XStr_S _ _ _ _) (Ev_s2 hX) (kX2_isWord (l := l) (D := D) (k := k) (t 9) (t 12) 6 sw2 h0 h1 h2 z0 z1 z2 z3 (.int v_kind) z4 v_next v_start v_tape_bytes q35 hq35) mt_X2_isWord mw_278 ⟨rfl, rfl, Nat.le_of_ble_eq_true rfl, Nat.le_of_ble_eq_true rfl⟩ hP hD hS (va_recv C.2.2.2.2.2.2 hP (q0 := 0) (ci := 2) rfl rfl) [0, 1, 2] rfl rfl [some 0, some 1, some 2] rfl rfl (w2 := (wX2_lineBegun k h0 h1 h2 z0 z1 z2 z3 z4 v_next v_kind v_start v_tape_bytes)) rfl rfl rfl hl.1 (rest := []) (Nat.le_of_ble_eq_true rfl) rfl dX2_lineBegun_35 ⟨Nat.zero_le _, Nat.zero_le _⟩ (fun H locs hP hD hS => ?_)
        refine lv_if_eq (tgt := 45) hx hb dX2_lineBegun_38 (by decide) (fun hc => ?_) (fun hc => ?_)
        · rw [if_pos hc] at hf
          refine lv_iconst (v := (-1 : Int32)) hx hb dX2_lineBegun_45 (by decide) ?_
          obtain rfl := Option.some.inj hf
          exact hret _ _ _ _ dX2_lineBegun_46 hP hS
        · rw [if_neg hc] at hf
          refine lv_iconst (v := (2 : Int32)) hx hb dX2_lineBegun_41 (by decide) ?_
          refine lv_goto (tgt := 46) hx hb dX2_lineBegun_42 (by decide) ?_
          obtain rfl := Option.some.inj hf
          exact hret _ _ _ _ dX2_lineBegun_46 hP hS
      · rw [if_neg hc] at hf
        refine lv_iconst (v := (1 : Int32)) hx hb dX2_lineBegun_30 (by decide) ?_
        obtain rfl := Option.some.inj hf
        exact hret _ _ _ _ dX2_lineBegun_31 hP hS
    · rw [if_neg hc] at hf
      refine lv_iconst (v := (0 : Int32)) hx hb dX2_lineBegun_19 (by decide) ?_
      obtain rfl := Option.some.inj hf
      exact hret _ _ _ _ dX2_lineBegun_20 hP hS
  · rw [if_neg hc] at hf
    refine lv_iconst (v := (-1 : Int32)) hx hb dX2_lineBegun_8 (by decide) ?_
    obtain rfl := Option.some.inj hf
    exact hret _ _ _ _ dX2_lineBegun_9 hP hS
set_option maxHeartbeats 4000000 in
set_option maxRecDepth 100000 in
theorem wX2_readNumbersWithin_2 {p : Program} {l : Launch} {e : Env} {s : State} {m : MethodId} {args : Array Value} {below : List Frame} {meth : Method} {c : Code} {A : Nat → Prop} {Q : State → Prop} {D : va_G} {k : Nat → ClassId} (ta1 n_a1 : Nat) (f_a1 : Nat → Int32) (ta2 n_a2 : Nat) (f_a2 : Nat → Int32) (C : Cx p s m args c cX2_readNumbersWithin 5 RX2 A D k) (hX : (XTab ta1 n_a1 f_a1 ta2 n_a2 f_a2) A s) (h0 h1 h2 h3 : Nat) (z0 : Value) (v_tape_length : Int32) (v_tape_bytes : Nat → Int32) : ∀ (f : Nat) (v_fault : Int32) (v_faultPlace : Int32) (v_next : Int32) (v_kind : Int32) (v_start : Int32) (v_numbers : Nat → Int32) (y3 : Int32) (u : (Int32 × Int32 × Int32 × Int32 × Int32 × (Nat → Int32)) ⊕ (Int32 × Int32 × Int32 × Int32 × Int32 × (Nat → Int32))) (H : Heap) (locs : List Loc) (ls : Array Slot), fX2_readNumbersWithin_2 n_a1 f_a1 n_a2 f_a2 v_tape_length v_tape_bytes f v_fault v_faultPlace v_next v_kind v_start v_numbers y3 = some u → va_P D vwCl (wX2_readNumbersWithin k h0 h1 h2 h3 z0 v_fault v_faultPlace v_next v_kind v_start v_tape_length v_tape_bytes v_numbers) H → va_D A (wX2_readNumbersWithin k h0 h1 h2 h3 z0 v_fault v_faultPlace v_next v_kind v_start v_tape_length v_tape_bytes v_numbers) → va_S A s.heap H locs → lv_has ls 5 [(0, .ref h0), (1, .ref ta1), (2, .ref ta2), (3, .int y3)] → (∀ ex, u = .inr ex → ∀ (H : Heap) (locs : List Loc) (ls : Array Slot), va_P D vwCl (wX2_readNumbersWithin k h0 h1 h2 h3 z0 ex.1 ex.2.1 ex.2.2.1 ex.2.2.2.1 ex.2.2.2.2.1 v_tape_length v_tape_bytes ex.2.2.2.2.2) H → va_D A (wX2_readNumbersWithin k h0 h1 h2 h3 z0 ex.1 ex.2.1 ex.2.2.1 ex.2.2.2.1 ex.2.2.2.2.1 v_tape_length v_tape_bytes ex.2.2.2.2.2) → va_S A s.heap H locs → lv_has ls 5 [] → W p l e ({ frames := 2, cells := 0, slots := 0, locals := 43 } : Room) s m args below meth c H locs 0 0 Q (F0 m 122 ls [])) → (∀ t, u = .inl t → ∀ (H : Heap) (locs : List Loc) (ls : Array Slot) (pc : Nat), decode cX2_readNumbersWithin pc = .ok (.return_, 1) → va_P D vwCl (wX2_readNumbersWithin k h0 h1 h2 h3 z0 t.1 t.2.1 t.2.2.1 t.2.2.2.1 t.2.2.2.2.1 v_tape_length v_tape_bytes t.2.2.2.2.2) H → va_S A s.heap H locs → W p l e ({ frames := 2, cells := 0, slots := 0, locals := 43 } : Room) s m args below meth c H locs 0 0 Q (F0 m pc ls [])) → W p l e ({ frames := 2, cells := 0, slots := 0, locals := 43 } : Room) s m args below meth c H locs 0 0 Q (F0 m 2 ls []) := by
  obtain ⟨hx, hb, -⟩ := id C
  intro f
  induction f with
  | zero =>
    intro v_fault v_faultPlace v_next v_kind v_start v_numbers y3 u H locs ls hf hP hD hS hl hk hr
    cases hf
  | succ f ih =>
    intro v_fault v_faultPlace v_next v_kind v_start v_numbers y3 u H locs ls hf hP hD hS hl hk hr
    rw [fX2_readNumbersWithin_2] at hf
    refine lv_iload_n hx hb dX2_readNumbersWithin_2 rfl (lv_at hl 3 rfl) ?_
    refine lv_aload_n hx hb dX2_readNumbersWithin_3 rfl (lv_at hl 1 rfl) ?_
    refine va_tlen hx hb hX.1 hS (v := (Int32.ofNat n_a1)) rfl dX2_readNumbersWithin_4 ?_
    refine lv_icmp_ge (tgt := 122) hx hb dX2_readNumbersWithin_5 (by decide) (fun hc => ?_) (fun hc => ?_)
    · rw [if_pos hc] at hf
      obtain rfl := Option.some.inj hf
      exact hk _ rfl _ _ _ hP hD hS (lv_sub hl [] rfl)
    · rw [if_neg hc] at hf
      refine lv_iload_n hx hb dX2_readNumbersWithin_8 rfl (lv_at hl 3 rfl) ?_
      refine lv_aload_n hx hb dX2_readNumbersWithin_9 rfl (lv_at hl 2 rfl) ?_
      refine va_tlen hx hb hX.2 hS (v := (Int32.ofNat n_a2)) rfl dX2_readNumbersWithin_10 ?_
      refine lv_icmp_ge (tgt := 122) hx hb dX2_readNumbersWithin_11 (by decide) (fun hc => ?_) (fun hc => ?_)
      · rw [if_pos hc] at hf
        obtain rfl := Option.some.inj hf
        exact hk _ rfl _ _ _ hP hD hS (lv_sub hl [] rfl)
      · rw [if_neg hc] at hf
        refine lv_iload_n hx hb dX2_readNumbersWithin_14 rfl (lv_at hl 3 rfl) ?_
        refine lv_bipush (v := (6 : Int32)) hx hb dX2_readNumbersWithin_15 (by decide) ?_
        refine lv_icmp_ge (tgt := 122) hx hb dX2_readNumbersWithin_17 (by decide) (fun hc => ?_) (fun hc => ?_)
        · rw [if_pos hc] at hf
          obtain rfl := Option.some.inj hf
          exact hk _ rfl _ _ _ hP hD hS (lv_sub hl [] rfl)
        · rw [if_neg hc] at hf
          refine lv_aload_n hx hb dX2_readNumbersWithin_20 rfl (lv_at hl 0 rfl) ?_
          obtain ⟨q21, hq21, hf⟩ := bd_some hf
          refine kcVv C (kX2_readToken (l := l) (D := D) (k := k) h0 h1 h2 z0 (.ref h3) v_fault v_faultPlace v_next v_kind v_start v_tape_length v_tape_bytes q21 hq21) mt_X2_readToken mw_254 ⟨rfl, rfl, Nat.le_of_ble_eq_true rfl, Nat.le_of_ble_eq_true rfl⟩ hP hD hS 0 rfl rfl rfl [0, 1, 2] rfl rfl [some 0, some 1, some 2, none] rfl rfl (w2 := (wX2_readNumbersWithin k h0 h1 h2 h3 z0 q21.1 q21.2.1 q21.2.2.1 q21.2.2.2.1 q21.2.2.2.2 v_tape_length v_tape_bytes v_numbers)) rfl rfl rfl hl.1 (rest := []) (Nat.le_of_ble_eq_true rfl) rfl dX2_readNumbersWithin_21 ⟨Nat.zero_le _, Nat.zero_le _⟩ (fun H locs hP hD hS => ?_)
          refine lv_aload_n hx hb dX2_readNumbersWithin_24 rfl (lv_at hl 0 rfl) ?_
          refine kget C inX2 hP 0 rfl rfl 1 (by decide) mw_88 rfl dX2_readNumbersWithin_25 ?_
          refine lv_if_eq (tgt := 32) hx hb dX2_readNumbersWithin_28 (by decide) (fun hc => ?_) (fun hc => ?_)
          · rw [if_pos hc] at hf
            refine lv_aload_n hx hb dX2_readNumbersWithin_32 rfl (lv_at hl 0 rfl) ?_
            refine kget C inX2 hP 0 rfl rfl 6 (by decide) mw_95 rfl dX2_readNumbersWithin_33 ?_
            refine lv_iconst (v := (2 : Int32)) hx hb dX2_readNumbersWithin_36 (by decide) ?_
            refine lv_icmp_eq (tgt := 50) hx hb dX2_readNumbersWithin_37 (by decide) (fun hc => ?_) (fun hc => ?_)
            · rw [if_pos hc] at hf
              refine lv_aload_n hx hb dX2_readNumbersWithin_50 rfl (lv_at hl 0 rfl) ?_
              obtain ⟨q51, hq51, hf⟩ := bd_some hf
              refine kcVi C (kX2_numberRead (l := l) (D := D) (k := k) h0 h1 h2 z0 (.int q21.1) (.int q21.2.1) (.ref h3) (.int q21.2.2.2.1) (.int v_tape_length) q21.2.2.1 q21.2.2.2.2 v_tape_bytes q51 hq51) mt_X2_numberRead mw_348 ⟨rfl, rfl, Nat.le_of_ble_eq_true rfl, Nat.le_of_ble_eq_true rfl⟩ hP hD hS 0 rfl rfl rfl [0, 1, 2] rfl rfl [some 0, some 1, some 2, none] rfl rfl (w2 := (wX2_readNumbersWithin k h0 h1 h2 h3 z0 q21.1 q21.2.1 q21.2.2.1 q21.2.2.2.1 q21.2.2.2.2 v_tape_length v_tape_bytes v_numbers)) rfl rfl rfl hl.1 (rest := []) (Nat.le_of_ble_eq_true rfl) rfl dX2_readNumbersWithin_51 ⟨Nat.zero_le _, Nat.zero_le _⟩ (fun H locs hP hD hS => ?_)
              refine lv_istore (lv' := [(4, .int q51), (0, .ref h0), (1, .ref ta1), (2, .ref ta2), (3, .int y3)]) hx hb dX2_readNumbersWithin_54 hl (by decide) rfl (fun ls hl => ?_)
              refine lv_iload hx hb dX2_readNumbersWithin_56 (lv_at hl 0 rfl) ?_
              refine lv_aload_n hx hb dX2_readNumbersWithin_58 rfl (lv_at hl 2 rfl) ?_
              refine lv_iload_n hx hb dX2_readNumbersWithin_59 rfl (lv_at hl 4 rfl) ?_
              obtain ⟨hin, hf⟩ := gd_some hf
              refine va_ti hx hb hX.1 hS hin (v := .int (f_a1 y3.toNatClampNeg)) rfl dX2_readNumbersWithin_60 ?_
              refine lv_icmp_lt (tgt := 72) hx hb dX2_readNumbersWithin_61 (by decide) (fun hc => ?_) (fun hc => ?_)
              · rw [if_pos hc] at hf
                refine lv_aload_n hx hb dX2_readNumbersWithin_72 rfl (lv_at hl 1 rfl) ?_
                refine lv_iconst (v := (3 : Int32)) hx hb dX2_readNumbersWithin_73 (by decide) ?_
                refine lv_aload_n hx hb dX2_readNumbersWithin_74 rfl (lv_at hl 1 rfl) ?_
                refine kget C inX2 hP 0 rfl rfl 7 (by decide) mw_96 rfl dX2_readNumbersWithin_75 ?_
                obtain ⟨q78, hq78, hf⟩ := bd_some hf
                refine kcVv C (kX2_refuse (l := l) (D := D) (k := k) h0 z0 (.ref h1) (.ref h3) (.int q21.2.2.1) (.int q21.2.2.2.1) (.int q21.2.2.2.2) q21.1 q21.2.1 (3 : Int32) q21.2.2.2.2 q78 hq78) mt_X2_refuse mw_265 ⟨rfl, rfl, Nat.le_of_ble_eq_true rfl, Nat.le_of_ble_eq_true rfl⟩ hP hD hS 0 rfl rfl rfl [0] rfl rfl [some 0, none, none, none] rfl rfl (w2 := (wX2_readNumbersWithin k h0 h1 h2 h3 z0 q78.1 q78.2 q21.2.2.1 q21.2.2.2.1 q21.2.2.2.2 v_tape_length v_tape_bytes v_numbers)) rfl rfl rfl hl.1 (rest := []) (Nat.le_of_ble_eq_true rfl) rfl dX2_readNumbersWithin_78 ⟨Nat.zero_le _, Nat.zero_le _⟩ (fun H locs hP hD hS => ?_)
                obtain rfl := Option.some.inj hf
                exact hr _ rfl _ _ _ _ dX2_readNumbersWithin_81 hP hS
              · rw [if_neg hc] at hf
                refine lv_iload hx hb dX2_readNumbersWithin_64 (lv_at hl 0 rfl) ?_
                refine lv_aload_n hx hb dX2_readNumbersWithin_66 rfl (lv_at hl 3 rfl) ?_
                refine lv_iload_n hx hb dX2_readNumbersWithin_67 rfl (lv_at hl 4 rfl) ?_
                obtain ⟨hin, hf⟩ := gd_some hf
                refine va_ti hx hb hX.2 hS hin (v := .int (f_a2 y3.toNatClampNeg)) rfl dX2_readNumbersWithin_68 ?_
                refine lv_icmp_le (tgt := 82) hx hb dX2_readNumbersWithin_69 (by decide) (fun hc => ?_) (fun hc => ?_)
                · rw [if_pos hc] at hf
                  refine lv_iload_n hx hb dX2_readNumbersWithin_82 rfl (lv_at hl 4 rfl) ?_
                  refine lv_iconst (v := (2 : Int32)) hx hb dX2_readNumbersWithin_83 (by decide) ?_
                  refine lv_icmp_ne (tgt := 108) hx hb dX2_readNumbersWithin_84 (by decide) (fun hc => ?_) (fun hc => ?_)
                  · rw [if_neg hc] at hf
                    refine lv_aload_n hx hb dX2_readNumbersWithin_108 rfl (lv_at hl 1 rfl) ?_
                    refine kget C inX2 hP 0 rfl rfl 4 (by decide) mw_93 rfl dX2_readNumbersWithin_109 ?_
                    refine lv_iload_n hx hb dX2_readNumbersWithin_112 rfl (lv_at hl 4 rfl) ?_
                    refine lv_iload hx hb dX2_readNumbersWithin_113 (lv_at hl 0 rfl) ?_
                    obtain ⟨hin, hf⟩ := gd_some hf
                    obtain ⟨v_numbers_115, hn115, hf⟩ := nm_some hf
                    refine kiast C hP hD hS 3 rfl hin dX2_readNumbersWithin_115 (j := y3.toNatClampNeg) rfl (g := v_numbers_115) hn115 (w2 := (wX2_readNumbersWithin k h0 h1 h2 h3 z0 q21.1 q21.2.1 q21.2.2.1 q21.2.2.2.1 q21.2.2.2.2 v_tape_length v_tape_bytes v_numbers_115)) rfl (fun H locs hP hD hS => ?_)
                    refine lv_iinc (v := (y3 + (1 : Int32))) (lv' := [(3, .int (y3 + (1 : Int32))), (4, .int q51), (0, .ref h0), (1, .ref ta1), (2, .ref ta2)]) hx hb dX2_readNumbersWithin_116 hl (k := 4) rfl rfl (by decide) rfl (fun ls hl => ?_)
                    refine lv_goto (tgt := 2) hx hb dX2_readNumbersWithin_119 (by decide) ?_
                    exact ih q21.1 q21.2.1 q21.2.2.1 q21.2.2.2.1 q21.2.2.2.2 v_numbers_115 (y3 + (1 : Int32)) _ _ _ _ hf hP hD hS (lv_sub hl [2, 3, 4, 0] rfl) hk hr
                  · rw [if_pos hc] at hf
                    refine lv_iload hx hb dX2_readNumbersWithin_87 (lv_at hl 0 rfl) ?_
                    refine lv_aload_n hx hb dX2_readNumbersWithin_89 rfl (lv_at hl 1 rfl) ?_
                    refine kget C inX2 hP 0 rfl rfl 4 (by decide) mw_93 rfl dX2_readNumbersWithin_90 ?_
                    refine lv_iconst (v := (1 : Int32)) hx hb dX2_readNumbersWithin_93 (by decide) ?_
                    refine kiald C hP 3 rfl (by unfold vp_in; decide) dX2_readNumbersWithin_94 (j := 1) (by decide) ?_
                    refine lv_icmp_ne (tgt := 108) hx hb dX2_readNumbersWithin_95 (by decide) (fun hc => ?_) (fun hc => ?_)
                    · rw [if_neg hc] at hf
                      refine lv_aload_n hx hb dX2_readNumbersWithin_108 rfl (lv_at hl 1 rfl) ?_
                      refine kget C inX2 hP 0 rfl rfl 4 (by decide) mw_93 rfl dX2_readNumbersWithin_109 ?_
                      refine lv_iload_n hx hb dX2_readNumbersWithin_112 rfl (lv_at hl 4 rfl) ?_
                      refine lv_iload hx hb dX2_readNumbersWithin_113 (lv_at hl 0 rfl) ?_
                      obtain ⟨hin, hf⟩ := gd_some hf
                      obtain ⟨v_numbers_115, hn115, hf⟩ := nm_some hf
                      refine kiast C hP hD hS 3 rfl hin dX2_readNumbersWithin_115 (j := y3.toNatClampNeg) rfl (g := v_numbers_115) hn115 (w2 := (wX2_readNumbersWithin k h0 h1 h2 h3 z0 q21.1 q21.2.1 q21.2.2.1 q21.2.2.2.1 q21.2.2.2.2 v_tape_length v_tape_bytes v_numbers_115)) rfl (fun H locs hP hD hS => ?_)
                      refine lv_iinc (v := (y3 + (1 : Int32))) (lv' := [(3, .int (y3 + (1 : Int32))), (4, .int q51), (0, .ref h0), (1, .ref ta1), (2, .ref ta2)]) hx hb dX2_readNumbersWithin_116 hl (k := 4) rfl rfl (by decide) rfl (fun ls hl => ?_)
                      refine lv_goto (tgt := 2) hx hb dX2_readNumbersWithin_119 (by decide) ?_
                      exact ih q21.1 q21.2.1 q21.2.2.1 q21.2.2.2.1 q21.2.2.2.2 v_numbers_115 (y3 + (1 : Int32)) _ _ _ _ hf hP hD hS (lv_sub hl [2, 3, 4, 0] rfl) hk hr
                    · rw [if_pos hc] at hf
                      refine lv_aload_n hx hb dX2_readNumbersWithin_98 rfl (lv_at hl 1 rfl) ?_
                      refine lv_iconst (v := (5 : Int32)) hx hb dX2_readNumbersWithin_99 (by decide) ?_
                      refine lv_aload_n hx hb dX2_readNumbersWithin_100 rfl (lv_at hl 1 rfl) ?_
                      refine kget C inX2 hP 0 rfl rfl 7 (by decide) mw_96 rfl dX2_readNumbersWithin_101 ?_
                      obtain ⟨q104, hq104, hf⟩ := bd_some hf
                      refine kcVv C (kX2_refuse (l := l) (D := D) (k := k) h0 z0 (.ref h1) (.ref h3) (.int q21.2.2.1) (.int q21.2.2.2.1) (.int q21.2.2.2.2) q21.1 q21.2.1 (5 : Int32) q21.2.2.2.2 q104 hq104) mt_X2_refuse mw_265 ⟨rfl, rfl, Nat.le_of_ble_eq_true rfl, Nat.le_of_ble_eq_true rfl⟩ hP hD hS 0 rfl rfl rfl [0] rfl rfl [some 0, none, none, none] rfl rfl (w2 := (wX2_readNumbersWithin k h0 h1 h2 h3 z0 q104.1 q104.2 q21.2.2.1 q21.2.2.2.1 q21.2.2.2.2 v_tape_length v_tape_bytes v_numbers)) rfl rfl rfl hl.1 (rest := []) (Nat.le_of_ble_eq_true rfl) rfl dX2_readNumbersWithin_104 ⟨Nat.zero_le _, Nat.zero_le _⟩ (fun H locs hP hD hS => ?_)
                      obtain rfl := Option.some.inj hf
                      exact hr _ rfl _ _ _ _ dX2_readNumbersWithin_107 hP hS
                · rw [if_neg hc] at hf
                  refine lv_aload_n hx hb dX2_readNumbersWithin_72 rfl (lv_at hl 1 rfl) ?_
                  refine lv_iconst (v := (3 : Int32)) hx hb dX2_readNumbersWithin_73 (by decide) ?_
                  refine lv_aload_n hx hb dX2_readNumbersWithin_74 rfl (lv_at hl 1 rfl) ?_
                  refine kget C inX2 hP 0 rfl rfl 7 (by decide) mw_96 rfl dX2_readNumbersWithin_75 ?_
                  obtain ⟨q78, hq78, hf⟩ := bd_some hf
                  refine kcVv C (kX2_refuse (l := l) (D := D) (k := k) h0 z0 (.ref h1) (.ref h3) (.int q21.2.2.1) (.int q21.2.2.2.1) (.int q21.2.2.2.2) q21.1 q21.2.1 (3 : Int32) q21.2.2.2.2 q78 hq78) mt_X2_refuse mw_265 ⟨rfl, rfl, Nat.le_of_ble_eq_true rfl, Nat.le_of_ble_eq_true rfl⟩ hP hD hS 0 rfl rfl rfl [0] rfl rfl [some 0, none, none, none] rfl rfl (w2 := (wX2_readNumbersWithin k h0 h1 h2 h3 z0 q78.1 q78.2 q21.2.2.1 q21.2.2.2.1 q21.2.2.2.2 v_tape_length v_tape_bytes v_numbers)) rfl rfl rfl hl.1 (rest := []) (Nat.le_of_ble_eq_true rfl) rfl dX2_readNumbersWithin_78 ⟨Nat.zero_le _, Nat.zero_le _⟩ (fun H locs hP hD hS => ?_)
                  obtain rfl := Option.some.inj hf
                  exact hr _ rfl _ _ _ _ dX2_readNumbersWithin_81 hP hS
            · rw [if_neg hc] at hf
              refine lv_aload_n hx hb dX2_readNumbersWithin_40 rfl (lv_at hl 0 rfl) ?_
              refine lv_iconst (v := (2 : Int32)) hx hb dX2_readNumbersWithin_41 (by decide) ?_
              refine lv_aload_n hx hb dX2_readNumbersWithin_42 rfl (lv_at hl 0 rfl) ?_
              refine kget C inX2 hP 0 rfl rfl 7 (by decide) mw_96 rfl dX2_readNumbersWithin_43 ?_
              obtain ⟨q46, hq46, hf⟩ := bd_some hf
              refine kcVv C (kX2_refuse (l := l) (D := D) (k := k) h0 z0 (.ref h1) (.ref h3) (.int q21.2.2.1) (.int q21.2.2.2.1) (.int q21.2.2.2.2) q21.1 q21.2.1 (2 : Int32) q21.2.2.2.2 q46 hq46) mt_X2_refuse mw_265 ⟨rfl, rfl, Nat.le_of_ble_eq_true rfl, Nat.le_of_ble_eq_true rfl⟩ hP hD hS 0 rfl rfl rfl [0] rfl rfl [some 0, none, none, none] rfl rfl (w2 := (wX2_readNumbersWithin k h0 h1 h2 h3 z0 q46.1 q46.2 q21.2.2.1 q21.2.2.2.1 q21.2.2.2.2 v_tape_length v_tape_bytes v_numbers)) rfl rfl rfl hl.1 (rest := []) (Nat.le_of_ble_eq_true rfl) rfl dX2_readNumbersWithin_46 ⟨Nat.zero_le _, Nat.zero_le _⟩ (fun H locs hP hD hS => ?_)
              obtain rfl := Option.some.inj hf
              exact hr _ rfl _ _ _ _ dX2_readNumbersWithin_49 hP hS
          · rw [if_neg hc] at hf
            obtain rfl := Option.some.inj hf
            exact hr _ rfl _ _ _ _ dX2_readNumbersWithin_31 hP hS
set_option maxHeartbeats 4000000 in
set_option maxRecDepth 100000 in
theorem kX2_readNumbersWithin {l : Launch} {D : va_G} {k : Nat → ClassId} (ta1 n_a1 : Nat) (f_a1 : Nat → Int32) (ta2 n_a2 : Nat) (f_a2 : Nat → Int32) (h0 h1 h2 h3 : Nat) (z0 : Value) (v_fault : Int32) (v_faultPlace : Int32) (v_next : Int32) (v_kind : Int32) (v_start : Int32) (v_tape_length : Int32) (v_tape_bytes : Nat → Int32) (v_numbers : Nat → Int32) (q : Int32 × Int32 × Int32 × Int32 × Int32 × (Nat → Int32)) (hf : fX2_readNumbersWithin n_a1 f_a1 n_a2 f_a2 v_fault v_faultPlace v_next v_kind v_start v_tape_length v_tape_bytes v_numbers = some q) : KMvX (XTab ta1 n_a1 f_a1 ta2 n_a2 f_a2) l yX2_readNumbersWithin cX2_readNumbersWithin 5 ({ frames := 2, cells := 0, slots := 0, locals := 43 } : Room) D k [.ref h0, .ref ta1, .ref ta2] (wX2_readNumbersWithin k h0 h1 h2 h3 z0 v_fault v_faultPlace v_next v_kind v_start v_tape_length v_tape_bytes v_numbers) (wX2_readNumbersWithin k h0 h1 h2 h3 z0 q.1 q.2.1 q.2.2.1 q.2.2.2.1 q.2.2.2.2.1 v_tape_length v_tape_bytes q.2.2.2.2.2) := by
  refine kent_vX (by decide) (Nat.le_of_ble_eq_true rfl) ?_
  intro p e s m below meth c A Q ls C hX hP hD hS hl hret
  obtain ⟨hx, hb, -⟩ := id C
  have hl : lv_has ls 5 [(0, .ref h0), (1, .ref ta1), (2, .ref ta2)] := hl
  unfold fX2_readNumbersWithin at hf
  generalize ([.ref h0, .ref ta1, .ref ta2] : List Value).toArray = args at *
  refine lv_iconst (v := (0 : Int32)) hx hb dX2_readNumbersWithin_0 (by decide) ?_
  refine lv_istore_n (lv' := [(3, .int (0 : Int32)), (0, .ref h0), (1, .ref ta1), (2, .ref ta2)]) hx hb dX2_readNumbersWithin_1 rfl hl (by decide) rfl (fun ls hl => ?_)
  obtain ⟨u2, hv, hf⟩ := lp_some hf
  refine wX2_readNumbersWithin_2 ta1 n_a1 f_a1 ta2 n_a2 f_a2 C hX h0 h1 h2 h3 z0 v_tape_length v_tape_bytes FU v_fault v_faultPlace v_next v_kind v_start v_numbers (0 : Int32) u2 _ _ _ hv hP hD hS (lv_sub hl [1, 2, 3, 0] rfl) (fun ex2 ht H locs ls hP hD hS hl => ?_) (fun t ht H locs ls pc hdg hP hS => ?_)
  · subst ht
    obtain rfl := Option.some.inj hf
    exact hret _ _ _ _ dX2_readNumbersWithin_122 hP hS
  · subst ht
    obtain rfl := Option.some.inj hf
    exact hret _ _ _ _ hdg hP hS
set_option maxHeartbeats 4000000 in
set_option maxRecDepth 100000 in
theorem kX2_readNumbers {l : Launch} {D : va_G} {k : Nat → ClassId} (t : Nat → Nat) (h0 h1 h2 h3 : Nat) (z0 : Value) (v_fault : Int32) (v_faultPlace : Int32) (v_next : Int32) (v_kind : Int32) (v_start : Int32) (v_tape_length : Int32) (v_tape_bytes : Nat → Int32) (v_numbers : Nat → Int32) (x1 : Int32) (q : Int32 × Int32 × Int32 × Int32 × Int32 × (Nat → Int32)) (hf : fX2_readNumbers v_fault v_faultPlace v_next v_kind v_start v_tape_length v_tape_bytes v_numbers x1 = some q) : KMvX (Ev t) l yX2_readNumbers cX2_readNumbers 2 ({ frames := 3, cells := 0, slots := 0, locals := 67 } : Room) D k [.ref h0, .int x1] (wX2_readNumbers k h0 h1 h2 h3 z0 v_fault v_faultPlace v_next v_kind v_start v_tape_length v_tape_bytes v_numbers) (wX2_readNumbers k h0 h1 h2 h3 z0 q.1 q.2.1 q.2.2.1 q.2.2.2.1 q.2.2.2.2.1 v_tape_length v_tape_bytes q.2.2.2.2.2) := by
  refine kent_vX (by decide) (Nat.le_of_ble_eq_true rfl) ?_
  intro p e s m below meth c A Q ls C hX hP hD hS hl hret
  obtain ⟨hx, hb, -⟩ := id C
  have hl : lv_has ls 2 [(0, .ref h0), (1, .int x1)] := hl
  unfold fX2_readNumbers at hf
  generalize ([.ref h0, .int x1] : List Value).toArray = args at *
  refine lv_iload_n hx hb dX2_readNumbers_0 rfl (lv_at hl 1 rfl) ?_
  by_cases hc0 : x1 = (0 : Int32)
  · rw [if_pos hc0] at hf
    refine lv_lookup (tgt := 28) hx hb dX2_readNumbers_1 rfl (by rw [hc0]; first | done | rfl) (by decide) ?_
    refine lv_aload_n hx hb dX2_readNumbers_28 rfl (lv_at hl 0 rfl) ?_
    refine va_gets hx hb (Ev_z0 hX) hS C.2.2.2.1 (C.2.2.2.2.1 _ mw_340) (fun _ h => h) dX2_readNumbers_29 ?_
    refine va_gets hx hb (Ev_z1 hX) hS C.2.2.2.1 (C.2.2.2.2.1 _ mw_342) (fun _ h => h) dX2_readNumbers_32 ?_
    obtain ⟨q35, hq35, hf⟩ := bd_some hf
    refine kcVvX C (XTab_S _ _ _ _ _ _) ⟨(Ev_t0 hX), (Ev_t1 hX)⟩ (kX2_readNumbersWithin (l := l) (D := D) (k := k) (t 0) 1 sv0 (t 1) 1 sv1 h0 h1 h2 h3 z0 v_fault v_faultPlace v_next v_kind v_start v_tape_length v_tape_bytes v_numbers q35 hq35) mt_X2_readNumbersWithin mw_344 ⟨rfl, rfl, Nat.le_of_ble_eq_true rfl, Nat.le_of_ble_eq_true rfl⟩ hP hD hS (va_recv C.2.2.2.2.2.2 hP (q0 := 0) (ci := 2) rfl rfl) [0, 1, 2, 3] rfl rfl [some 0, some 1, some 2, some 3] rfl rfl (w2 := (wX2_readNumbers k h0 h1 h2 h3 z0 q35.1 q35.2.1 q35.2.2.1 q35.2.2.2.1 q35.2.2.2.2.1 v_tape_length v_tape_bytes q35.2.2.2.2.2)) rfl rfl rfl hl.1 (rest := []) (Nat.le_of_ble_eq_true rfl) rfl dX2_readNumbers_35 ⟨Nat.zero_le _, Nat.zero_le _⟩ (fun H locs hP hD hS => ?_)
    refine lv_goto (tgt := 64) hx hb dX2_readNumbers_38 (by decide) ?_
    obtain rfl := Option.some.inj hf
    exact hret _ _ _ _ dX2_readNumbers_64 hP hS
  · rw [if_neg hc0] at hf
    by_cases hc1 : x1 = (1 : Int32)
    · rw [if_pos hc1] at hf
      refine lv_lookup (tgt := 41) hx hb dX2_readNumbers_1 rfl (by rw [hc1]; first | done | rfl) (by decide) ?_
      refine lv_aload_n hx hb dX2_readNumbers_41 rfl (lv_at hl 0 rfl) ?_
      refine va_gets hx hb (Ev_z2 hX) hS C.2.2.2.1 (C.2.2.2.2.1 _ mw_352) (fun _ h => h) dX2_readNumbers_42 ?_
      refine va_gets hx hb (Ev_z3 hX) hS C.2.2.2.1 (C.2.2.2.2.1 _ mw_354) (fun _ h => h) dX2_readNumbers_45 ?_
      obtain ⟨q48, hq48, hf⟩ := bd_some hf
      refine kcVvX C (XTab_S _ _ _ _ _ _) ⟨(Ev_t2 hX), (Ev_t3 hX)⟩ (kX2_readNumbersWithin (l := l) (D := D) (k := k) (t 2) 4 sv2 (t 3) 4 sv3 h0 h1 h2 h3 z0 v_fault v_faultPlace v_next v_kind v_start v_tape_length v_tape_bytes v_numbers q48 hq48) mt_X2_readNumbersWithin mw_344 ⟨rfl, rfl, Nat.le_of_ble_eq_true rfl, Nat.le_of_ble_eq_true rfl⟩ hP hD hS (va_recv C.2.2.2.2.2.2 hP (q0 := 0) (ci := 2) rfl rfl) [0, 1, 2, 3] rfl rfl [some 0, some 1, some 2, some 3] rfl rfl (w2 := (wX2_readNumbers k h0 h1 h2 h3 z0 q48.1 q48.2.1 q48.2.2.1 q48.2.2.2.1 q48.2.2.2.2.1 v_tape_length v_tape_bytes q48.2.2.2.2.2)) rfl rfl rfl hl.1 (rest := []) (Nat.le_of_ble_eq_true rfl) rfl dX2_readNumbers_48 ⟨Nat.zero_le _, Nat.zero_le _⟩ (fun H locs hP hD hS => ?_)
      refine lv_goto (tgt := 64) hx hb dX2_readNumbers_51 (by decide) ?_
      obtain rfl := Option.some.inj hf
      exact hret _ _ _ _ dX2_readNumbers_64 hP hS
    · rw [if_neg hc1] at hf
      have hd : W p l e ({ frames := 3, cells := 0, slots := 0, locals := 67 } : Room) s m args below meth c s.heap [] 0 0 Q (F0 m 54 ls []) := by
        refine lv_aload_n hx hb dX2_readNumbers_54 rfl (lv_at hl 0 rfl) ?_
        refine va_gets hx hb (Ev_z4 hX) hS C.2.2.2.1 (C.2.2.2.2.1 _ mw_356) (fun _ h => h) dX2_readNumbers_55 ?_
        refine va_gets hx hb (Ev_z5 hX) hS C.2.2.2.1 (C.2.2.2.2.1 _ mw_358) (fun _ h => h) dX2_readNumbers_58 ?_
        obtain ⟨q61, hq61, hf⟩ := bd_some hf
        refine kcVvX C (XTab_S _ _ _ _ _ _) ⟨(Ev_t4 hX), (Ev_t5 hX)⟩ (kX2_readNumbersWithin (l := l) (D := D) (k := k) (t 4) 6 sv4 (t 5) 6 sv5 h0 h1 h2 h3 z0 v_fault v_faultPlace v_next v_kind v_start v_tape_length v_tape_bytes v_numbers q61 hq61) mt_X2_readNumbersWithin mw_344 ⟨rfl, rfl, Nat.le_of_ble_eq_true rfl, Nat.le_of_ble_eq_true rfl⟩ hP hD hS (va_recv C.2.2.2.2.2.2 hP (q0 := 0) (ci := 2) rfl rfl) [0, 1, 2, 3] rfl rfl [some 0, some 1, some 2, some 3] rfl rfl (w2 := (wX2_readNumbers k h0 h1 h2 h3 z0 q61.1 q61.2.1 q61.2.2.1 q61.2.2.2.1 q61.2.2.2.2.1 v_tape_length v_tape_bytes q61.2.2.2.2.2)) rfl rfl rfl hl.1 (rest := []) (Nat.le_of_ble_eq_true rfl) rfl dX2_readNumbers_61 ⟨Nat.zero_le _, Nat.zero_le _⟩ (fun H locs hP hD hS => ?_)
        obtain rfl := Option.some.inj hf
        exact hret _ _ _ _ dX2_readNumbers_64 hP hS
      exact lv_lookup (off := 53) (tgt := 54) hx hb dX2_readNumbers_1 rfl (by show Op.lookupswitch.offset [(0, 27), (1, 40)] _ _ = _; rw [lv_osw hc0 (show ((0 : Int32)).toInt = 0 from rfl), lv_osw hc1 (show ((1 : Int32)).toInt = 1 from rfl)]; first | done | rfl) (by decide) hd
set_option maxHeartbeats 4000000 in
set_option maxRecDepth 100000 in
theorem kX2_readLine {l : Launch} {D : va_G} {k : Nat → ClassId} (t : Nat → Nat) (h0 h1 h2 h3 h4 h5 h6 h7 : Nat) (v_fault : Int32) (v_faultPlace : Int32) (v_next : Int32) (v_kind : Int32) (v_start : Int32) (v_nodes : Int32) (v_meetings : Int32) (v_letters : Int32) (v_rooms : Nat → Int32) (v_meetingRows : Nat → Int32) (v_letterRows : Nat → Int32) (v_tape_length : Int32) (v_tape_bytes : Nat → Int32) (v_numbers : Nat → Int32) (q : Int32 × Int32 × Int32 × Int32 × Int32 × Int32 × Int32 × Int32 × (Nat → Int32) × (Nat → Int32) × (Nat → Int32) × (Nat → Int32)) (hf : fX2_readLine v_fault v_faultPlace v_next v_kind v_start v_nodes v_meetings v_letters v_rooms v_meetingRows v_letterRows v_tape_length v_tape_bytes v_numbers = some q) : KMvX (Ev t) l yX2_readLine cX2_readLine 2 ({ frames := 6, cells := 0, slots := 0, locals := 127 } : Room) D k [.ref h0] (wX2_readLine k h0 h1 h2 h3 h4 h5 h6 h7 v_fault v_faultPlace v_next v_kind v_start v_nodes v_meetings v_letters v_rooms v_meetingRows v_letterRows v_tape_length v_tape_bytes v_numbers) (wX2_readLine k h0 h1 h2 h3 h4 h5 h6 h7 q.1 q.2.1 q.2.2.1 q.2.2.2.1 q.2.2.2.2.1 q.2.2.2.2.2.1 q.2.2.2.2.2.2.1 q.2.2.2.2.2.2.2.1 q.2.2.2.2.2.2.2.2.1 q.2.2.2.2.2.2.2.2.2.1 q.2.2.2.2.2.2.2.2.2.2.1 v_tape_length v_tape_bytes q.2.2.2.2.2.2.2.2.2.2.2) := by
  refine kent_vX (by decide) (Nat.le_of_ble_eq_true rfl) ?_
  intro p e s m below meth c A Q ls C hX hP hD hS hl hret
  obtain ⟨hx, hb, -⟩ := id C
  have hl : lv_has ls 2 [(0, .ref h0)] := hl
  unfold fX2_readLine at hf
  generalize ([.ref h0] : List Value).toArray = args at *
  refine lv_aload_n hx hb dX2_readLine_0 rfl (lv_at hl 0 rfl) ?_
  obtain ⟨q1, hq1, hf⟩ := bd_some hf
  refine kcViX C (Ev_S t) hX (kX2_lineBegun (l := l) (D := D) (k := k) t h0 h5 h6 (.ref h1) (.int v_fault) (.int v_faultPlace) (.ref h7) (.int v_tape_length) v_next v_kind v_start v_tape_bytes q1 hq1) mt_X2_lineBegun mw_273 ⟨rfl, rfl, Nat.le_of_ble_eq_true rfl, Nat.le_of_ble_eq_true rfl⟩ hP hD hS (va_recv C.2.2.2.2.2.2 hP (q0 := 0) (ci := 2) rfl rfl) [0, 5, 6] rfl rfl [some 0, none, none, none, none, some 1, some 2, none] rfl rfl (w2 := (wX2_readLine k h0 h1 h2 h3 h4 h5 h6 h7 v_fault v_faultPlace v_next v_kind v_start v_nodes v_meetings v_letters v_rooms v_meetingRows v_letterRows v_tape_length v_tape_bytes v_numbers)) rfl rfl rfl hl.1 (rest := []) (Nat.le_of_ble_eq_true rfl) rfl dX2_readLine_1 ⟨Nat.zero_le _, Nat.zero_le _⟩ (fun H locs hP hD hS => ?_)
  refine lv_istore_n (lv' := [(1, .int q1), (0, .ref h0)]) hx hb dX2_readLine_4 rfl hl (by decide) rfl (fun ls hl => ?_)
  refine lv_iload_n hx hb dX2_readLine_5 rfl (lv_at hl 0 rfl) ?_
  refine lv_iconst (v := (-1 : Int32)) hx hb dX2_readLine_6 (by decide) ?_
  refine lv_icmp_ne (tgt := 20) hx hb dX2_readLine_7 (by decide) (fun hc => ?_) (fun hc => ?_)
  · rw [if_neg hc] at hf
    refine lv_aload_n hx hb dX2_readLine_20 rfl (lv_at hl 1 rfl) ?_
    refine lv_iload_n hx hb dX2_readLine_21 rfl (lv_at hl 0 rfl) ?_
    obtain ⟨q22, hq22, hf⟩ := bd_some hf
    refine kcVi C (kX2_isFull (l := l) (D := D) (k := k) h0 h1 (.int v_fault) (.int v_faultPlace) (.ref h5) (.ref h7) (.int v_next) (.int v_kind) (.int v_start) (.ref h2) (.ref h3) (.ref h4) v_nodes v_meetings v_letters q1 q22 hq22) mt_X2_isFull mw_332 ⟨rfl, rfl, Nat.le_of_ble_eq_true rfl, Nat.le_of_ble_eq_true rfl⟩ hP hD hS 0 rfl rfl rfl [0, 1] rfl rfl [some 0, some 1, none, none, none, none, none, none] rfl rfl (w2 := (wX2_readLine k h0 h1 h2 h3 h4 h5 h6 h7 v_fault v_faultPlace v_next v_kind v_start v_nodes v_meetings v_letters v_rooms v_meetingRows v_letterRows v_tape_length v_tape_bytes v_numbers)) rfl rfl rfl hl.1 (rest := []) (Nat.le_of_ble_eq_true rfl) rfl dX2_readLine_22 ⟨Nat.zero_le _, Nat.zero_le _⟩ (fun H locs hP hD hS => ?_)
    refine lv_if_eq (tgt := 38) hx hb dX2_readLine_25 (by decide) (fun hc => ?_) (fun hc => ?_)
    · rw [if_pos hc] at hf
      refine lv_aload_n hx hb dX2_readLine_38 rfl (lv_at hl 1 rfl) ?_
      refine lv_iload_n hx hb dX2_readLine_39 rfl (lv_at hl 0 rfl) ?_
      obtain ⟨q40, hq40, hf⟩ := bd_some hf
      refine kcVvX C (Ev_S t) hX (kX2_readNumbers (l := l) (D := D) (k := k) t h0 h5 h6 h7 (.ref h1) v_fault v_faultPlace v_next v_kind v_start v_tape_length v_tape_bytes v_numbers q1 q40 hq40) mt_X2_readNumbers mw_336 ⟨rfl, rfl, Nat.le_of_ble_eq_true rfl, Nat.le_of_ble_eq_true rfl⟩ hP hD hS (va_recv C.2.2.2.2.2.2 hP (q0 := 0) (ci := 2) rfl rfl) [0, 5, 6, 7] rfl rfl [some 0, none, none, none, none, some 1, some 2, some 3] rfl rfl (w2 := (wX2_readLine k h0 h1 h2 h3 h4 h5 h6 h7 q40.1 q40.2.1 q40.2.2.1 q40.2.2.2.1 q40.2.2.2.2.1 v_nodes v_meetings v_letters v_rooms v_meetingRows v_letterRows v_tape_length v_tape_bytes q40.2.2.2.2.2)) rfl rfl rfl hl.1 (rest := []) (Nat.le_of_ble_eq_true rfl) rfl dX2_readLine_40 ⟨Nat.zero_le _, Nat.zero_le _⟩ (fun H locs hP hD hS => ?_)
      refine lv_aload_n hx hb dX2_readLine_43 rfl (lv_at hl 1 rfl) ?_
      refine kget C inX2 hP 0 rfl rfl 1 (by decide) mw_88 rfl dX2_readLine_44 ?_
      refine lv_if_eq (tgt := 51) hx hb dX2_readLine_47 (by decide) (fun hc => ?_) (fun hc => ?_)
      · rw [if_pos hc] at hf
        refine lv_aload_n hx hb dX2_readLine_51 rfl (lv_at hl 1 rfl) ?_
        obtain ⟨q52, hq52, hf⟩ := bd_some hf
        refine kcVv C (kX2_readToken (l := l) (D := D) (k := k) h0 h5 h6 (.ref h1) (.ref h7) q40.1 q40.2.1 q40.2.2.1 q40.2.2.2.1 q40.2.2.2.2.1 v_tape_length v_tape_bytes q52 hq52) mt_X2_readToken mw_254 ⟨rfl, rfl, Nat.le_of_ble_eq_true rfl, Nat.le_of_ble_eq_true rfl⟩ hP hD hS 0 rfl rfl rfl [0, 5, 6] rfl rfl [some 0, none, none, none, none, some 1, some 2, none] rfl rfl (w2 := (wX2_readLine k h0 h1 h2 h3 h4 h5 h6 h7 q52.1 q52.2.1 q52.2.2.1 q52.2.2.2.1 q52.2.2.2.2 v_nodes v_meetings v_letters v_rooms v_meetingRows v_letterRows v_tape_length v_tape_bytes q40.2.2.2.2.2)) rfl rfl rfl hl.1 (rest := []) (Nat.le_of_ble_eq_true rfl) rfl dX2_readLine_52 ⟨Nat.zero_le _, Nat.zero_le _⟩ (fun H locs hP hD hS => ?_)
        refine lv_aload_n hx hb dX2_readLine_55 rfl (lv_at hl 1 rfl) ?_
        refine kget C inX2 hP 0 rfl rfl 1 (by decide) mw_88 rfl dX2_readLine_56 ?_
        refine lv_if_eq (tgt := 63) hx hb dX2_readLine_59 (by decide) (fun hc => ?_) (fun hc => ?_)
        · rw [if_pos hc] at hf
          refine lv_aload_n hx hb dX2_readLine_63 rfl (lv_at hl 1 rfl) ?_
          refine kget C inX2 hP 0 rfl rfl 6 (by decide) mw_95 rfl dX2_readLine_64 ?_
          refine lv_iconst (v := (3 : Int32)) hx hb dX2_readLine_67 (by decide) ?_
          refine lv_icmp_eq (tgt := 81) hx hb dX2_readLine_68 (by decide) (fun hc => ?_) (fun hc => ?_)
          · rw [if_pos hc] at hf
            refine lv_aload_n hx hb dX2_readLine_81 rfl (lv_at hl 1 rfl) ?_
            refine lv_iload_n hx hb dX2_readLine_82 rfl (lv_at hl 0 rfl) ?_
            obtain ⟨q83, hq83, hf⟩ := bd_some hf
            refine kcVv C (kX2_takeLine (l := l) (D := D) (k := k) h0 h1 h2 h3 h4 h7 (.int q52.1) (.int q52.2.1) (.ref h5) (.int q52.2.2.1) (.int q52.2.2.2.1) (.int q52.2.2.2.2) v_nodes v_meetings v_letters v_rooms v_meetingRows v_letterRows q40.2.2.2.2.2 q1 q83 hq83) mt_X2_takeLine mw_360 ⟨rfl, rfl, Nat.le_of_ble_eq_true rfl, Nat.le_of_ble_eq_true rfl⟩ hP hD hS 0 rfl rfl rfl [0, 1, 2, 3, 4, 7] rfl rfl [some 0, some 1, some 2, some 3, some 4, none, none, some 5] rfl rfl (w2 := (wX2_readLine k h0 h1 h2 h3 h4 h5 h6 h7 q52.1 q52.2.1 q52.2.2.1 q52.2.2.2.1 q52.2.2.2.2 q83.1 q83.2.1 q83.2.2.1 q83.2.2.2.1 q83.2.2.2.2.1 q83.2.2.2.2.2 v_tape_length v_tape_bytes q40.2.2.2.2.2)) rfl rfl rfl hl.1 (rest := []) (Nat.le_of_ble_eq_true rfl) rfl dX2_readLine_83 ⟨Nat.zero_le _, Nat.zero_le _⟩ (fun H locs hP hD hS => ?_)
            obtain rfl := Option.some.inj hf
            exact hret _ _ _ _ dX2_readLine_86 hP hS
          · rw [if_neg hc] at hf
            refine lv_aload_n hx hb dX2_readLine_71 rfl (lv_at hl 1 rfl) ?_
            refine lv_iconst (v := (2 : Int32)) hx hb dX2_readLine_72 (by decide) ?_
            refine lv_aload_n hx hb dX2_readLine_73 rfl (lv_at hl 1 rfl) ?_
            refine kget C inX2 hP 0 rfl rfl 7 (by decide) mw_96 rfl dX2_readLine_74 ?_
            obtain ⟨q77, hq77, hf⟩ := bd_some hf
            refine kcVv C (kX2_refuse (l := l) (D := D) (k := k) h0 (.ref h1) (.ref h5) (.ref h7) (.int q52.2.2.1) (.int q52.2.2.2.1) (.int q52.2.2.2.2) q52.1 q52.2.1 (2 : Int32) q52.2.2.2.2 q77 hq77) mt_X2_refuse mw_265 ⟨rfl, rfl, Nat.le_of_ble_eq_true rfl, Nat.le_of_ble_eq_true rfl⟩ hP hD hS 0 rfl rfl rfl [0] rfl rfl [some 0, none, none, none, none, none, none, none] rfl rfl (w2 := (wX2_readLine k h0 h1 h2 h3 h4 h5 h6 h7 q77.1 q77.2 q52.2.2.1 q52.2.2.2.1 q52.2.2.2.2 v_nodes v_meetings v_letters v_rooms v_meetingRows v_letterRows v_tape_length v_tape_bytes q40.2.2.2.2.2)) rfl rfl rfl hl.1 (rest := []) (Nat.le_of_ble_eq_true rfl) rfl dX2_readLine_77 ⟨Nat.zero_le _, Nat.zero_le _⟩ (fun H locs hP hD hS => ?_)
            obtain rfl := Option.some.inj hf
            exact hret _ _ _ _ dX2_readLine_80 hP hS
        · rw [if_neg hc] at hf
          obtain rfl := Option.some.inj hf
          exact hret _ _ _ _ dX2_readLine_62 hP hS
      · rw [if_neg hc] at hf
        obtain rfl := Option.some.inj hf
        exact hret _ _ _ _ dX2_readLine_50 hP hS
    · rw [if_neg hc] at hf
      refine lv_aload_n hx hb dX2_readLine_28 rfl (lv_at hl 1 rfl) ?_
      refine lv_iconst (v := (4 : Int32)) hx hb dX2_readLine_29 (by decide) ?_
      refine lv_aload_n hx hb dX2_readLine_30 rfl (lv_at hl 1 rfl) ?_
      refine kget C inX2 hP 0 rfl rfl 7 (by decide) mw_96 rfl dX2_readLine_31 ?_
      obtain ⟨q34, hq34, hf⟩ := bd_some hf
      refine kcVv C (kX2_refuse (l := l) (D := D) (k := k) h0 (.ref h1) (.ref h5) (.ref h7) (.int v_next) (.int v_kind) (.int v_start) v_fault v_faultPlace (4 : Int32) v_start q34 hq34) mt_X2_refuse mw_265 ⟨rfl, rfl, Nat.le_of_ble_eq_true rfl, Nat.le_of_ble_eq_true rfl⟩ hP hD hS 0 rfl rfl rfl [0] rfl rfl [some 0, none, none, none, none, none, none, none] rfl rfl (w2 := (wX2_readLine k h0 h1 h2 h3 h4 h5 h6 h7 q34.1 q34.2 v_next v_kind v_start v_nodes v_meetings v_letters v_rooms v_meetingRows v_letterRows v_tape_length v_tape_bytes v_numbers)) rfl rfl rfl hl.1 (rest := []) (Nat.le_of_ble_eq_true rfl) rfl dX2_readLine_34 ⟨Nat.zero_le _, Nat.zero_le _⟩ (fun H locs hP hD hS => ?_)
      obtain rfl := Option.some.inj hf
      exact hret _ _ _ _ dX2_readLine_37 hP hS
  · rw [if_pos hc] at hf
    refine lv_aload_n hx hb dX2_readLine_10 rfl (lv_at hl 1 rfl) ?_
    refine lv_iconst (v := (2 : Int32)) hx hb dX2_readLine_11 (by decide) ?_
    refine lv_aload_n hx hb dX2_readLine_12 rfl (lv_at hl 1 rfl) ?_
    refine kget C inX2 hP 0 rfl rfl 7 (by decide) mw_96 rfl dX2_readLine_13 ?_
    obtain ⟨q16, hq16, hf⟩ := bd_some hf
    refine kcVv C (kX2_refuse (l := l) (D := D) (k := k) h0 (.ref h1) (.ref h5) (.ref h7) (.int v_next) (.int v_kind) (.int v_start) v_fault v_faultPlace (2 : Int32) v_start q16 hq16) mt_X2_refuse mw_265 ⟨rfl, rfl, Nat.le_of_ble_eq_true rfl, Nat.le_of_ble_eq_true rfl⟩ hP hD hS 0 rfl rfl rfl [0] rfl rfl [some 0, none, none, none, none, none, none, none] rfl rfl (w2 := (wX2_readLine k h0 h1 h2 h3 h4 h5 h6 h7 q16.1 q16.2 v_next v_kind v_start v_nodes v_meetings v_letters v_rooms v_meetingRows v_letterRows v_tape_length v_tape_bytes v_numbers)) rfl rfl rfl hl.1 (rest := []) (Nat.le_of_ble_eq_true rfl) rfl dX2_readLine_16 ⟨Nat.zero_le _, Nat.zero_le _⟩ (fun H locs hP hD hS => ?_)
    obtain rfl := Option.some.inj hf
    exact hret _ _ _ _ dX2_readLine_19 hP hS
set_option maxHeartbeats 4000000 in
set_option maxRecDepth 100000 in
theorem wX2_readAll_26 {p : Program} {l : Launch} {e : Env} {s : State} {m : MethodId} {args : Array Value} {below : List Frame} {meth : Method} {c : Code} {A : Nat → Prop} {Q : State → Prop} {D : va_G} {k : Nat → ClassId} (t : Nat → Nat) (C : Cx p s m args c cX2_readAll 3 RX2 A D k) (hX : (Ev t) A s) (h0 h1 h2 h3 h4 h5 h6 h7 : Nat) (v_tape_length : Int32) (v_tape_bytes : Nat → Int32) : ∀ (f : Nat) (v_fault : Int32) (v_faultPlace : Int32) (v_next : Int32) (v_kind : Int32) (v_start : Int32) (v_nodes : Int32) (v_meetings : Int32) (v_letters : Int32) (v_rooms : Nat → Int32) (v_meetingRows : Nat → Int32) (v_letterRows : Nat → Int32) (v_numbers : Nat → Int32) (y1 : Int32) (y2 : Int32) (ex : (Int32 × Int32 × Int32 × Int32 × Int32 × Int32 × Int32 × Int32 × (Nat → Int32) × (Nat → Int32) × (Nat → Int32) × (Nat → Int32) × Int32)) (H : Heap) (locs : List Loc) (ls : Array Slot), fX2_readAll_26 v_tape_length v_tape_bytes f v_fault v_faultPlace v_next v_kind v_start v_nodes v_meetings v_letters v_rooms v_meetingRows v_letterRows v_numbers y1 y2 = some ex → va_P D vwCl (wX2_readAll k h0 h1 h2 h3 h4 h5 h6 h7 v_fault v_faultPlace v_next v_kind v_start v_nodes v_meetings v_letters v_rooms v_meetingRows v_letterRows v_tape_length v_tape_bytes v_numbers) H → va_D A (wX2_readAll k h0 h1 h2 h3 h4 h5 h6 h7 v_fault v_faultPlace v_next v_kind v_start v_nodes v_meetings v_letters v_rooms v_meetingRows v_letterRows v_tape_length v_tape_bytes v_numbers) → va_S A s.heap H locs → lv_has ls 3 [(0, .ref h0), (1, .int y1), (2, .int y2)] → (∀ (H : Heap) (locs : List Loc) (ls : Array Slot), va_P D vwCl (wX2_readAll k h0 h1 h2 h3 h4 h5 h6 h7 ex.1 ex.2.1 ex.2.2.1 ex.2.2.2.1 ex.2.2.2.2.1 ex.2.2.2.2.2.1 ex.2.2.2.2.2.2.1 ex.2.2.2.2.2.2.2.1 ex.2.2.2.2.2.2.2.2.1 ex.2.2.2.2.2.2.2.2.2.1 ex.2.2.2.2.2.2.2.2.2.2.1 v_tape_length v_tape_bytes ex.2.2.2.2.2.2.2.2.2.2.2.1) H → va_D A (wX2_readAll k h0 h1 h2 h3 h4 h5 h6 h7 ex.1 ex.2.1 ex.2.2.1 ex.2.2.2.1 ex.2.2.2.2.1 ex.2.2.2.2.2.1 ex.2.2.2.2.2.2.1 ex.2.2.2.2.2.2.2.1 ex.2.2.2.2.2.2.2.2.1 ex.2.2.2.2.2.2.2.2.2.1 ex.2.2.2.2.2.2.2.2.2.2.1 v_tape_length v_tape_bytes ex.2.2.2.2.2.2.2.2.2.2.2.1) → va_S A s.heap H locs → lv_has ls 3 [(0, .ref h0), (1, .int ex.2.2.2.2.2.2.2.2.2.2.2.2)] → W p l e ({ frames := 7, cells := 0, slots := 0, locals := 148 } : Room) s m args below meth c H locs 0 0 Q (F0 m 77 ls [])) → W p l e ({ frames := 7, cells := 0, slots := 0, locals := 148 } : Room) s m args below meth c H locs 0 0 Q (F0 m 26 ls []) := by
  obtain ⟨hx, hb, -⟩ := id C
  intro f
  induction f with
  | zero =>
    intro v_fault v_faultPlace v_next v_kind v_start v_nodes v_meetings v_letters v_rooms v_meetingRows v_letterRows v_numbers y1 y2 ex H locs ls hf hP hD hS hl hk
    cases hf
  | succ f ih =>
    intro v_fault v_faultPlace v_next v_kind v_start v_nodes v_meetings v_letters v_rooms v_meetingRows v_letterRows v_numbers y1 y2 ex H locs ls hf hP hD hS hl hk
    rw [fX2_readAll_26] at hf
    refine lv_iload_n hx hb dX2_readAll_26 rfl (lv_at hl 2 rfl) ?_
    refine lv_sipush (v := (300 : Int32)) hx hb dX2_readAll_27 (by decide) ?_
    refine lv_icmp_gt (tgt := 77) hx hb dX2_readAll_30 (by decide) (fun hc => ?_) (fun hc => ?_)
    · rw [if_pos hc] at hf
      obtain rfl := Option.some.inj hf
      exact hk _ _ _ hP hD hS (lv_sub hl [0, 1] rfl)
    · rw [if_neg hc] at hf
      refine lv_aload_n hx hb dX2_readAll_33 rfl (lv_at hl 0 rfl) ?_
      obtain ⟨q34, hq34, hf⟩ := bd_some hf
      refine kcVv C (kX2_readToken (l := l) (D := D) (k := k) h0 h5 h6 (.ref h1) (.ref h7) v_fault v_faultPlace v_next v_kind v_start v_tape_length v_tape_bytes q34 hq34) mt_X2_readToken mw_254 ⟨rfl, rfl, Nat.le_of_ble_eq_true rfl, Nat.le_of_ble_eq_true rfl⟩ hP hD hS 0 rfl rfl rfl [0, 5, 6] rfl rfl [some 0, none, none, none, none, some 1, some 2, none] rfl rfl (w2 := (wX2_readAll k h0 h1 h2 h3 h4 h5 h6 h7 q34.1 q34.2.1 q34.2.2.1 q34.2.2.2.1 q34.2.2.2.2 v_nodes v_meetings v_letters v_rooms v_meetingRows v_letterRows v_tape_length v_tape_bytes v_numbers)) rfl rfl rfl hl.1 (rest := []) (Nat.le_of_ble_eq_true rfl) rfl dX2_readAll_34 ⟨Nat.zero_le _, Nat.zero_le _⟩ (fun H locs hP hD hS => ?_)
      refine lv_aload_n hx hb dX2_readAll_37 rfl (lv_at hl 0 rfl) ?_
      refine kget C inX2 hP 0 rfl rfl 1 (by decide) mw_88 rfl dX2_readAll_38 ?_
      refine lv_if_ne (tgt := 77) hx hb dX2_readAll_41 (by decide) (fun hc => ?_) (fun hc => ?_)
      · rw [if_neg hc] at hf
        obtain rfl := Option.some.inj hf
        exact hk _ _ _ hP hD hS (lv_sub hl [0, 1] rfl)
      · rw [if_pos hc] at hf
        refine lv_aload_n hx hb dX2_readAll_44 rfl (lv_at hl 0 rfl) ?_
        refine kget C inX2 hP 0 rfl rfl 6 (by decide) mw_95 rfl dX2_readAll_45 ?_
        refine lv_if_ne (tgt := 54) hx hb dX2_readAll_48 (by decide) (fun hc => ?_) (fun hc => ?_)
        · rw [if_neg hc] at hf
          refine lv_aload_n hx hb dX2_readAll_54 rfl (lv_at hl 0 rfl) ?_
          obtain ⟨q55, hq55, hf⟩ := bd_some hf
          refine kcVvX C (Ev_S t) hX (kX2_readLine (l := l) (D := D) (k := k) t h0 h1 h2 h3 h4 h5 h6 h7 q34.1 q34.2.1 q34.2.2.1 q34.2.2.2.1 q34.2.2.2.2 v_nodes v_meetings v_letters v_rooms v_meetingRows v_letterRows v_tape_length v_tape_bytes v_numbers q55 hq55) mt_X2_readLine mw_269 ⟨rfl, rfl, Nat.le_of_ble_eq_true rfl, Nat.le_of_ble_eq_true rfl⟩ hP hD hS (va_recv C.2.2.2.2.2.2 hP (q0 := 0) (ci := 2) rfl rfl) [0, 1, 2, 3, 4, 5, 6, 7] rfl rfl [some 0, some 1, some 2, some 3, some 4, some 5, some 6, some 7] rfl rfl (w2 := (wX2_readAll k h0 h1 h2 h3 h4 h5 h6 h7 q55.1 q55.2.1 q55.2.2.1 q55.2.2.2.1 q55.2.2.2.2.1 q55.2.2.2.2.2.1 q55.2.2.2.2.2.2.1 q55.2.2.2.2.2.2.2.1 q55.2.2.2.2.2.2.2.2.1 q55.2.2.2.2.2.2.2.2.2.1 q55.2.2.2.2.2.2.2.2.2.2.1 v_tape_length v_tape_bytes q55.2.2.2.2.2.2.2.2.2.2.2)) rfl rfl rfl hl.1 (rest := []) (Nat.le_of_ble_eq_true rfl) rfl dX2_readAll_55 ⟨Nat.zero_le _, Nat.zero_le _⟩ (fun H locs hP hD hS => ?_)
          refine lv_aload_n hx hb dX2_readAll_58 rfl (lv_at hl 0 rfl) ?_
          refine kget C inX2 hP 0 rfl rfl 1 (by decide) mw_88 rfl dX2_readAll_59 ?_
          refine lv_if_eq (tgt := 68) hx hb dX2_readAll_62 (by decide) (fun hc => ?_) (fun hc => ?_)
          · rw [if_pos hc] at hf
            refine lv_iinc (v := (y1 + (1 : Int32))) (lv' := [(1, .int (y1 + (1 : Int32))), (0, .ref h0), (2, .int y2)]) hx hb dX2_readAll_68 hl (k := 1) rfl rfl (by decide) rfl (fun ls hl => ?_)
            refine lv_iinc (v := (y2 + (1 : Int32))) (lv' := [(2, .int (y2 + (1 : Int32))), (1, .int (y1 + (1 : Int32))), (0, .ref h0)]) hx hb dX2_readAll_71 hl (k := 2) rfl rfl (by decide) rfl (fun ls hl => ?_)
            refine lv_goto (tgt := 26) hx hb dX2_readAll_74 (by decide) ?_
            exact ih q55.1 q55.2.1 q55.2.2.1 q55.2.2.2.1 q55.2.2.2.2.1 q55.2.2.2.2.2.1 q55.2.2.2.2.2.2.1 q55.2.2.2.2.2.2.2.1 q55.2.2.2.2.2.2.2.2.1 q55.2.2.2.2.2.2.2.2.2.1 q55.2.2.2.2.2.2.2.2.2.2.1 q55.2.2.2.2.2.2.2.2.2.2.2 (y1 + (1 : Int32)) (y2 + (1 : Int32)) _ _ _ _ hf hP hD hS (lv_sub hl [2, 1, 0] rfl) hk
          · rw [if_neg hc] at hf
            refine lv_goto (tgt := 77) hx hb dX2_readAll_65 (by decide) ?_
            obtain rfl := Option.some.inj hf
            exact hk _ _ _ hP hD hS (lv_sub hl [0, 1] rfl)
        · rw [if_pos hc] at hf
          refine lv_goto (tgt := 77) hx hb dX2_readAll_51 (by decide) ?_
          obtain rfl := Option.some.inj hf
          exact hk _ _ _ hP hD hS (lv_sub hl [0, 1] rfl)
set_option maxHeartbeats 4000000 in
set_option maxRecDepth 100000 in
theorem kX2_readAll {l : Launch} {D : va_G} {k : Nat → ClassId} (t : Nat → Nat) (h0 h1 h2 h3 h4 h5 h6 h7 : Nat) (v_fault : Int32) (v_faultPlace : Int32) (v_next : Int32) (v_kind : Int32) (v_start : Int32) (v_nodes : Int32) (v_meetings : Int32) (v_letters : Int32) (v_rooms : Nat → Int32) (v_meetingRows : Nat → Int32) (v_letterRows : Nat → Int32) (v_tape_length : Int32) (v_tape_bytes : Nat → Int32) (v_numbers : Nat → Int32) (q : Int32 × Int32 × Int32 × Int32 × Int32 × Int32 × Int32 × Int32 × Int32 × (Nat → Int32) × (Nat → Int32) × (Nat → Int32) × (Nat → Int32)) (hf : fX2_readAll v_fault v_faultPlace v_next v_kind v_start v_nodes v_meetings v_letters v_rooms v_meetingRows v_letterRows v_tape_length v_tape_bytes v_numbers = some q) : KMiX (Ev t) l yX2_readAll cX2_readAll 3 (some .int) ({ frames := 7, cells := 0, slots := 0, locals := 148 } : Room) D k [.ref h0] (wX2_readAll k h0 h1 h2 h3 h4 h5 h6 h7 v_fault v_faultPlace v_next v_kind v_start v_nodes v_meetings v_letters v_rooms v_meetingRows v_letterRows v_tape_length v_tape_bytes v_numbers) q.1 (wX2_readAll k h0 h1 h2 h3 h4 h5 h6 h7 q.2.1 q.2.2.1 q.2.2.2.1 q.2.2.2.2.1 q.2.2.2.2.2.1 q.2.2.2.2.2.2.1 q.2.2.2.2.2.2.2.1 q.2.2.2.2.2.2.2.2.1 q.2.2.2.2.2.2.2.2.2.1 q.2.2.2.2.2.2.2.2.2.2.1 q.2.2.2.2.2.2.2.2.2.2.2.1 v_tape_length v_tape_bytes q.2.2.2.2.2.2.2.2.2.2.2.2) := by
  refine kent_iX (by decide) (Nat.le_of_ble_eq_true rfl) ?_
  intro p e s m below meth c A Q ls C hX hP hD hS hl hret
  obtain ⟨hx, hb, -⟩ := id C
  have hl : lv_has ls 3 [(0, .ref h0)] := hl
  unfold fX2_readAll at hf
  generalize ([.ref h0] : List Value).toArray = args at *
  refine lv_aload_n hx hb dX2_readAll_0 rfl (lv_at hl 0 rfl) ?_
  refine kget C inX2 hP 0 rfl rfl 0 (by decide) mw_86 rfl dX2_readAll_1 ?_
  obtain ⟨q4, hq4, hf⟩ := bd_some hf
  refine kcVv C (kX0_clear (l := l) (D := D) (k := k) h1 (.ref h2) (.ref h3) (.ref h4) v_nodes v_meetings v_letters q4 hq4) mt_X0_clear mw_250 ⟨rfl, rfl, Nat.le_of_ble_eq_true rfl, Nat.le_of_ble_eq_true rfl⟩ hP hD hS 1 rfl rfl rfl [1] rfl rfl [none, some 0, none, none, none, none, none, none] rfl rfl (w2 := (wX2_readAll k h0 h1 h2 h3 h4 h5 h6 h7 v_fault v_faultPlace v_next v_kind v_start q4.1 q4.2.1 q4.2.2 v_rooms v_meetingRows v_letterRows v_tape_length v_tape_bytes v_numbers)) rfl rfl rfl hl.1 (rest := []) (Nat.le_of_ble_eq_true rfl) rfl dX2_readAll_4 ⟨Nat.zero_le _, Nat.zero_le _⟩ (fun H locs hP hD hS => ?_)
  refine lv_aload_n hx hb dX2_readAll_7 rfl (lv_at hl 0 rfl) ?_
  refine lv_iconst (v := (0 : Int32)) hx hb dX2_readAll_8 (by decide) ?_
  refine kput C inX2 tyX2_ok nmX2 hP hD hS 0 rfl rfl 5 (by decide) mw_94 rfl rfl rfl (Nat.le_of_ble_eq_true rfl) dX2_readAll_9 (w2 := (wX2_readAll k h0 h1 h2 h3 h4 h5 h6 h7 v_fault v_faultPlace (0 : Int32) v_kind v_start q4.1 q4.2.1 q4.2.2 v_rooms v_meetingRows v_letterRows v_tape_length v_tape_bytes v_numbers)) rfl (fun H locs hP hD hS => ?_)
  refine lv_aload_n hx hb dX2_readAll_12 rfl (lv_at hl 0 rfl) ?_
  refine lv_iconst (v := (0 : Int32)) hx hb dX2_readAll_13 (by decide) ?_
  refine kput C inX2 tyX2_ok nmX2 hP hD hS 0 rfl rfl 1 (by decide) mw_88 rfl rfl rfl (Nat.le_of_ble_eq_true rfl) dX2_readAll_14 (w2 := (wX2_readAll k h0 h1 h2 h3 h4 h5 h6 h7 (0 : Int32) v_faultPlace (0 : Int32) v_kind v_start q4.1 q4.2.1 q4.2.2 v_rooms v_meetingRows v_letterRows v_tape_length v_tape_bytes v_numbers)) rfl (fun H locs hP hD hS => ?_)
  refine lv_aload_n hx hb dX2_readAll_17 rfl (lv_at hl 0 rfl) ?_
  refine lv_iconst (v := (0 : Int32)) hx hb dX2_readAll_18 (by decide) ?_
  refine kput C inX2 tyX2_ok nmX2 hP hD hS 0 rfl rfl 2 (by decide) mw_90 rfl rfl rfl (Nat.le_of_ble_eq_true rfl) dX2_readAll_19 (w2 := (wX2_readAll k h0 h1 h2 h3 h4 h5 h6 h7 (0 : Int32) (0 : Int32) (0 : Int32) v_kind v_start q4.1 q4.2.1 q4.2.2 v_rooms v_meetingRows v_letterRows v_tape_length v_tape_bytes v_numbers)) rfl (fun H locs hP hD hS => ?_)
  refine lv_iconst (v := (0 : Int32)) hx hb dX2_readAll_22 (by decide) ?_
  refine lv_istore_n (lv' := [(1, .int (0 : Int32)), (0, .ref h0)]) hx hb dX2_readAll_23 rfl hl (by decide) rfl (fun ls hl => ?_)
  refine lv_iconst (v := (0 : Int32)) hx hb dX2_readAll_24 (by decide) ?_
  refine lv_istore_n (lv' := [(2, .int (0 : Int32)), (1, .int (0 : Int32)), (0, .ref h0)]) hx hb dX2_readAll_25 rfl hl (by decide) rfl (fun ls hl => ?_)
  obtain ⟨ex26, hv, hf⟩ := bd_some hf
  refine wX2_readAll_26 t C hX h0 h1 h2 h3 h4 h5 h6 h7 v_tape_length v_tape_bytes FU (0 : Int32) (0 : Int32) (0 : Int32) v_kind v_start q4.1 q4.2.1 q4.2.2 v_rooms v_meetingRows v_letterRows v_numbers (0 : Int32) (0 : Int32) ex26 _ _ _ hv hP hD hS (lv_sub hl [2, 1, 0] rfl) (fun H locs ls hP hD hS hl => ?_)
  refine lv_aload_n hx hb dX2_readAll_77 rfl (lv_at hl 0 rfl) ?_
  refine kget C inX2 hP 0 rfl rfl 1 (by decide) mw_88 rfl dX2_readAll_78 ?_
  refine lv_if_ne (tgt := 107) hx hb dX2_readAll_81 (by decide) (fun hc => ?_) (fun hc => ?_)
  · rw [if_neg hc] at hf
    refine lv_iload_n hx hb dX2_readAll_107 rfl (lv_at hl 1 rfl) ?_
    obtain rfl := Option.some.inj hf
    exact hret _ _ _ _ dX2_readAll_108 hP hS
  · rw [if_pos hc] at hf
    refine lv_aload_n hx hb dX2_readAll_84 rfl (lv_at hl 0 rfl) ?_
    refine kget C inX2 hP 0 rfl rfl 0 (by decide) mw_86 rfl dX2_readAll_85 ?_
    obtain ⟨q88, hq88, hf⟩ := bd_some hf
    refine kcVi C (kX0_namesOnlyItsNodes (l := l) (D := D) (k := k) h1 h3 h4 (.ref h2) ex26.2.2.2.2.2.1 ex26.2.2.2.2.2.2.1 ex26.2.2.2.2.2.2.2.1 ex26.2.2.2.2.2.2.2.2.2.1 ex26.2.2.2.2.2.2.2.2.2.2.1 q88 hq88) mt_X0_namesOnlyItsNodes mw_376 ⟨rfl, rfl, Nat.le_of_ble_eq_true rfl, Nat.le_of_ble_eq_true rfl⟩ hP hD hS 1 rfl rfl rfl [1, 3, 4] rfl rfl [none, some 0, none, some 1, some 2, none, none, none] rfl rfl (w2 := (wX2_readAll k h0 h1 h2 h3 h4 h5 h6 h7 ex26.1 ex26.2.1 ex26.2.2.1 ex26.2.2.2.1 ex26.2.2.2.2.1 ex26.2.2.2.2.2.1 ex26.2.2.2.2.2.2.1 ex26.2.2.2.2.2.2.2.1 ex26.2.2.2.2.2.2.2.2.1 ex26.2.2.2.2.2.2.2.2.2.1 ex26.2.2.2.2.2.2.2.2.2.2.1 v_tape_length v_tape_bytes ex26.2.2.2.2.2.2.2.2.2.2.2.1)) rfl rfl rfl hl.1 (rest := []) (Nat.le_of_ble_eq_true rfl) rfl dX2_readAll_88 ⟨Nat.zero_le _, Nat.zero_le _⟩ (fun H locs hP hD hS => ?_)
    refine lv_if_ne (tgt := 107) hx hb dX2_readAll_91 (by decide) (fun hc => ?_) (fun hc => ?_)
    · rw [if_neg hc] at hf
      refine lv_iload_n hx hb dX2_readAll_107 rfl (lv_at hl 1 rfl) ?_
      obtain rfl := Option.some.inj hf
      exact hret _ _ _ _ dX2_readAll_108 hP hS
    · rw [if_pos hc] at hf
      refine lv_aload_n hx hb dX2_readAll_94 rfl (lv_at hl 0 rfl) ?_
      refine lv_bipush (v := (6 : Int32)) hx hb dX2_readAll_95 (by decide) ?_
      refine lv_aload_n hx hb dX2_readAll_97 rfl (lv_at hl 0 rfl) ?_
      refine kget C inX2 hP 0 rfl rfl 3 (by decide) mw_92 rfl dX2_readAll_98 ?_
      refine kget C inX3 hP 5 rfl rfl 1 (by decide) mw_33 rfl dX2_readAll_101 ?_
      obtain ⟨q104, hq104, hf⟩ := bd_some hf
      refine kcVv C (kX2_refuse (l := l) (D := D) (k := k) h0 (.ref h1) (.ref h5) (.ref h7) (.int ex26.2.2.1) (.int ex26.2.2.2.1) (.int ex26.2.2.2.2.1) ex26.1 ex26.2.1 (6 : Int32) v_tape_length q104 hq104) mt_X2_refuse mw_265 ⟨rfl, rfl, Nat.le_of_ble_eq_true rfl, Nat.le_of_ble_eq_true rfl⟩ hP hD hS 0 rfl rfl rfl [0] rfl rfl [some 0, none, none, none, none, none, none, none] rfl rfl (w2 := (wX2_readAll k h0 h1 h2 h3 h4 h5 h6 h7 q104.1 q104.2 ex26.2.2.1 ex26.2.2.2.1 ex26.2.2.2.2.1 ex26.2.2.2.2.2.1 ex26.2.2.2.2.2.2.1 ex26.2.2.2.2.2.2.2.1 ex26.2.2.2.2.2.2.2.2.1 ex26.2.2.2.2.2.2.2.2.2.1 ex26.2.2.2.2.2.2.2.2.2.2.1 v_tape_length v_tape_bytes ex26.2.2.2.2.2.2.2.2.2.2.2.1)) rfl rfl rfl hl.1 (rest := []) (Nat.le_of_ble_eq_true rfl) rfl dX2_readAll_104 ⟨Nat.zero_le _, Nat.zero_le _⟩ (fun H locs hP hD hS => ?_)
      refine lv_iload_n hx hb dX2_readAll_107 rfl (lv_at hl 1 rfl) ?_
      obtain rfl := Option.some.inj hf
      exact hret _ _ _ _ dX2_readAll_108 hP hS
set_option maxHeartbeats 4000000 in
set_option maxRecDepth 100000 in
theorem wX5_text_63 {p : Program} {l : Launch} {e : Env} {s : State} {m : MethodId} {args : Array Value} {below : List Frame} {meth : Method} {c : Code} {A : Nat → Prop} {Q : State → Prop} {D : va_G} {k : Nat → ClassId} (t : Nat → Nat) (C : Cx p s m args c cX5_text 3 RX5 A D k) (hX : (Ev t) A s) (h0 h1 h2 h3 h4 h5 h6 h7 h8 h9 h10 h11 h12 h13 h14 h15 h16 h17 h18 h19 h20 h21 : Nat) (z0 z1 z2 z3 z4 : Value) (v_tape_length : Int32) (v_tape_bytes : Nat → Int32) (v_reader_fault : Int32) (v_reader_faultPlace : Int32) (v_reader_next : Int32) (v_reader_kind : Int32) (v_reader_start : Int32) (v_reader_nodes : Int32) (v_reader_meetings : Int32) (v_reader_letters : Int32) (v_reader_rooms : Nat → Int32) (v_reader_meetingRows : Nat → Int32) (v_reader_letterRows : Nat → Int32) (v_reader_numbers : Nat → Int32) (v_clock : Int32) (v_nodes : Int32) (v_meetings : Int32) (v_letters : Int32) (v_rooms : Nat → Int32) (v_meetingRows : Nat → Int32) (v_letterRows : Nat → Int32) (v_counts : Nat → Int32) (v_refused : Nat → Int32) (v_tokens : Nat → Int32) (v_notes : Nat → Int32) (v_lasts : Nat → Int32) (v_deliveredAt : Nat → Int32) (v_deliveredHops : Nat → Int32) (y1 : Int32) : ∀ (f : Nat) (v_kept : Nat → Int32) (y2 : Int32) (ex : ((Nat → Int32))) (H : Heap) (locs : List Loc) (ls : Array Slot), fX5_text_63 y1 f v_kept y2 = some ex → va_P D vwCl (wX5_text k h0 h1 h2 h3 h4 h5 h6 h7 h8 h9 h10 h11 h12 h13 h14 h15 h16 h17 h18 h19 h20 h21 z0 z1 z2 z3 z4 v_tape_length v_tape_bytes v_reader_fault v_reader_faultPlace v_reader_next v_reader_kind v_reader_start v_reader_nodes v_reader_meetings v_reader_letters v_reader_rooms v_reader_meetingRows v_reader_letterRows v_reader_numbers v_clock v_nodes v_meetings v_letters v_rooms v_meetingRows v_letterRows v_counts v_refused v_tokens v_notes v_lasts v_deliveredAt v_deliveredHops v_kept) H → va_D A (wX5_text k h0 h1 h2 h3 h4 h5 h6 h7 h8 h9 h10 h11 h12 h13 h14 h15 h16 h17 h18 h19 h20 h21 z0 z1 z2 z3 z4 v_tape_length v_tape_bytes v_reader_fault v_reader_faultPlace v_reader_next v_reader_kind v_reader_start v_reader_nodes v_reader_meetings v_reader_letters v_reader_rooms v_reader_meetingRows v_reader_letterRows v_reader_numbers v_clock v_nodes v_meetings v_letters v_rooms v_meetingRows v_letterRows v_counts v_refused v_tokens v_notes v_lasts v_deliveredAt v_deliveredHops v_kept) → va_S A s.heap H locs → lv_has ls 3 [(0, .ref h0), (1, .int y1), (2, .int y2)] → (∀ (H : Heap) (locs : List Loc) (ls : Array Slot), va_P D vwCl (wX5_text k h0 h1 h2 h3 h4 h5 h6 h7 h8 h9 h10 h11 h12 h13 h14 h15 h16 h17 h18 h19 h20 h21 z0 z1 z2 z3 z4 v_tape_length v_tape_bytes v_reader_fault v_reader_faultPlace v_reader_next v_reader_kind v_reader_start v_reader_nodes v_reader_meetings v_reader_letters v_reader_rooms v_reader_meetingRows v_reader_letterRows v_reader_numbers v_clock v_nodes v_meetings v_letters v_rooms v_meetingRows v_letterRows v_counts v_refused v_tokens v_notes v_lasts v_deliveredAt v_deliveredHops ex) H → va_D A (wX5_text k h0 h1 h2 h3 h4 h5 h6 h7 h8 h9 h10 h11 h12 h13 h14 h15 h16 h17 h18 h19 h20 h21 z0 z1 z2 z3 z4 v_tape_length v_tape_bytes v_reader_fault v_reader_faultPlace v_reader_next v_reader_kind v_reader_start v_reader_nodes v_reader_meetings v_reader_letters v_reader_rooms v_reader_meetingRows v_reader_letterRows v_reader_numbers v_clock v_nodes v_meetings v_letters v_rooms v_meetingRows v_letterRows v_counts v_refused v_tokens v_notes v_lasts v_deliveredAt v_deliveredHops ex) → va_S A s.heap H locs → lv_has ls 3 [(1, .int y1)] → W p l e ({ frames := 8, cells := 0, slots := 0, locals := 170 } : Room) s m args below meth c H locs 0 0 Q (F0 m 81 ls [])) → W p l e ({ frames := 8, cells := 0, slots := 0, locals := 170 } : Room) s m args below meth c H locs 0 0 Q (F0 m 63 ls []) := by
  obtain ⟨hx, hb, -⟩ := id C
  intro f
  induction f with
  | zero =>
    intro v_kept y2 ex H locs ls hf hP hD hS hl hk
    cases hf
  | succ f ih =>
    intro v_kept y2 ex H locs ls hf hP hD hS hl hk
    rw [fX5_text_63] at hf
    refine lv_iload_n hx hb dX5_text_63 rfl (lv_at hl 2 rfl) ?_
    refine lv_iconst (v := (2 : Int32)) hx hb dX5_text_64 (by decide) ?_
    refine lv_icmp_ge (tgt := 81) hx hb dX5_text_65 (by decide) (fun hc => ?_) (fun hc => ?_)
    · rw [if_pos hc] at hf
      obtain rfl := Option.some.inj hf
      exact hk _ _ _ hP hD hS (lv_sub hl [1] rfl)
    · rw [if_neg hc] at hf
      refine lv_aload_n hx hb dX5_text_68 rfl (lv_at hl 0 rfl) ?_
      refine kget C inX5 hP 0 rfl rfl 5 (by decide) mw_220 rfl dX5_text_69 ?_
      refine lv_iload_n hx hb dX5_text_72 rfl (lv_at hl 2 rfl) ?_
      refine lv_iconst (v := (0 : Int32)) hx hb dX5_text_73 (by decide) ?_
      obtain ⟨hin, hf⟩ := gd_some hf
      obtain ⟨v_kept_74, hn74, hf⟩ := nm_some hf
      refine kzast C hP hD hS 21 rfl hin dX5_text_74 (j := y2.toNatClampNeg) rfl (g := v_kept_74) hn74 (w2 := (wX5_text k h0 h1 h2 h3 h4 h5 h6 h7 h8 h9 h10 h11 h12 h13 h14 h15 h16 h17 h18 h19 h20 h21 z0 z1 z2 z3 z4 v_tape_length v_tape_bytes v_reader_fault v_reader_faultPlace v_reader_next v_reader_kind v_reader_start v_reader_nodes v_reader_meetings v_reader_letters v_reader_rooms v_reader_meetingRows v_reader_letterRows v_reader_numbers v_clock v_nodes v_meetings v_letters v_rooms v_meetingRows v_letterRows v_counts v_refused v_tokens v_notes v_lasts v_deliveredAt v_deliveredHops v_kept_74)) rfl (fun H locs hP hD hS => ?_)
      refine lv_iinc (v := (y2 + (1 : Int32))) (lv' := [(2, .int (y2 + (1 : Int32))), (0, .ref h0), (1, .int y1)]) hx hb dX5_text_75 hl (k := 2) rfl rfl (by decide) rfl (fun ls hl => ?_)
      refine lv_goto (tgt := 63) hx hb dX5_text_78 (by decide) ?_
      exact ih v_kept_74 (y2 + (1 : Int32)) _ _ _ _ hf hP hD hS (lv_sub hl [1, 2, 0] rfl) hk
set_option maxHeartbeats 4000000 in
set_option maxRecDepth 100000 in
theorem kX5_text {l : Launch} {D : va_G} {k : Nat → ClassId} (t : Nat → Nat) (h0 h1 h2 h3 h4 h5 h6 h7 h8 h9 h10 h11 h12 h13 h14 h15 h16 h17 h18 h19 h20 h21 : Nat) (z0 z1 z2 z3 z4 : Value) (v_tape_length : Int32) (v_tape_bytes : Nat → Int32) (v_reader_fault : Int32) (v_reader_faultPlace : Int32) (v_reader_next : Int32) (v_reader_kind : Int32) (v_reader_start : Int32) (v_reader_nodes : Int32) (v_reader_meetings : Int32) (v_reader_letters : Int32) (v_reader_rooms : Nat → Int32) (v_reader_meetingRows : Nat → Int32) (v_reader_letterRows : Nat → Int32) (v_reader_numbers : Nat → Int32) (v_clock : Int32) (v_nodes : Int32) (v_meetings : Int32) (v_letters : Int32) (v_rooms : Nat → Int32) (v_meetingRows : Nat → Int32) (v_letterRows : Nat → Int32) (v_counts : Nat → Int32) (v_refused : Nat → Int32) (v_tokens : Nat → Int32) (v_notes : Nat → Int32) (v_lasts : Nat → Int32) (v_deliveredAt : Nat → Int32) (v_deliveredHops : Nat → Int32) (v_kept : Nat → Int32) (q : Int32 × Int32 × Int32 × Int32 × Int32 × Int32 × Int32 × Int32 × Int32 × Int32 × (Nat → Int32) × (Nat → Int32) × (Nat → Int32) × (Nat → Int32) × Int32 × Int32 × Int32 × Int32 × (Nat → Int32) × (Nat → Int32) × (Nat → Int32) × (Nat → Int32) × (Nat → Int32) × (Nat → Int32) × (Nat → Int32) × (Nat → Int32) × (Nat → Int32) × (Nat → Int32) × (Nat → Int32)) (hf : fX5_text v_tape_length v_tape_bytes v_reader_fault v_reader_faultPlace v_reader_next v_reader_kind v_reader_start v_reader_nodes v_reader_meetings v_reader_letters v_reader_rooms v_reader_meetingRows v_reader_letterRows v_reader_numbers v_clock v_nodes v_meetings v_letters v_rooms v_meetingRows v_letterRows v_counts v_refused v_tokens v_notes v_lasts v_deliveredAt v_deliveredHops v_kept = some q) : KMiX (Ev t) l yX5_text cX5_text 3 (some .int) ({ frames := 8, cells := 0, slots := 0, locals := 170 } : Room) D k [.ref h0] (wX5_text k h0 h1 h2 h3 h4 h5 h6 h7 h8 h9 h10 h11 h12 h13 h14 h15 h16 h17 h18 h19 h20 h21 z0 z1 z2 z3 z4 v_tape_length v_tape_bytes v_reader_fault v_reader_faultPlace v_reader_next v_reader_kind v_reader_start v_reader_nodes v_reader_meetings v_reader_letters v_reader_rooms v_reader_meetingRows v_reader_letterRows v_reader_numbers v_clock v_nodes v_meetings v_letters v_rooms v_meetingRows v_letterRows v_counts v_refused v_tokens v_notes v_lasts v_deliveredAt v_deliveredHops v_kept) q.1 (wX5_text k h0 h1 h2 h3 h4 h5 h6 h7 h8 h9 h10 h11 h12 h13 h14 h15 h16 h17 h18 h19 h20 h21 z0 z1 z2 z3 z4 q.2.1 v_tape_bytes q.2.2.1 q.2.2.2.1 q.2.2.2.2.1 q.2.2.2.2.2.1 q.2.2.2.2.2.2.1 q.2.2.2.2.2.2.2.1 q.2.2.2.2.2.2.2.2.1 q.2.2.2.2.2.2.2.2.2.1 q.2.2.2.2.2.2.2.2.2.2.1 q.2.2.2.2.2.2.2.2.2.2.2.1 q.2.2.2.2.2.2.2.2.2.2.2.2.1 q.2.2.2.2.2.2.2.2.2.2.2.2.2.1 q.2.2.2.2.2.2.2.2.2.2.2.2.2.2.1 q.2.2.2.2.2.2.2.2.2.2.2.2.2.2.2.1 q.2.2.2.2.2.2.2.2.2.2.2.2.2.2.2.2.1 q.2.2.2.2.2.2.2.2.2.2.2.2.2.2.2.2.2.1 q.2.2.2.2.2.2.2.2.2.2.2.2.2.2.2.2.2.2.1 q.2.2.2.2.2.2.2.2.2.2.2.2.2.2.2.2.2.2.2.1 q.2.2.2.2.2.2.2.2.2.2.2.2.2.2.2.2.2.2.2.2.1 q.2.2.2.2.2.2.2.2.2.2.2.2.2.2.2.2.2.2.2.2.2.1 q.2.2.2.2.2.2.2.2.2.2.2.2.2.2.2.2.2.2.2.2.2.2.1 q.2.2.2.2.2.2.2.2.2.2.2.2.2.2.2.2.2.2.2.2.2.2.2.1 q.2.2.2.2.2.2.2.2.2.2.2.2.2.2.2.2.2.2.2.2.2.2.2.2.1 q.2.2.2.2.2.2.2.2.2.2.2.2.2.2.2.2.2.2.2.2.2.2.2.2.2.1 q.2.2.2.2.2.2.2.2.2.2.2.2.2.2.2.2.2.2.2.2.2.2.2.2.2.2.1 q.2.2.2.2.2.2.2.2.2.2.2.2.2.2.2.2.2.2.2.2.2.2.2.2.2.2.2.1 q.2.2.2.2.2.2.2.2.2.2.2.2.2.2.2.2.2.2.2.2.2.2.2.2.2.2.2.2) := by
  refine kent_iX (by decide) (Nat.le_of_ble_eq_true rfl) ?_
  intro p e s m below meth c A Q ls C hX hP hD hS hl hret
  obtain ⟨hx, hb, -⟩ := id C
  have hl : lv_has ls 3 [(0, .ref h0)] := hl
  unfold fX5_text at hf
  generalize ([.ref h0] : List Value).toArray = args at *
  refine lv_aload_n hx hb dX5_text_0 rfl (lv_at hl 0 rfl) ?_
  refine kget C inX5 hP 0 rfl rfl 1 (by decide) mw_216 rfl dX5_text_1 ?_
  obtain ⟨q4, hq4, hf⟩ := bd_some hf
  refine kcViX C (Ev_S t) hX (kX2_readAll (l := l) (D := D) (k := k) t h3 h4 h5 h6 h7 h1 h2 h8 v_reader_fault v_reader_faultPlace v_reader_next v_reader_kind v_reader_start v_reader_nodes v_reader_meetings v_reader_letters v_reader_rooms v_reader_meetingRows v_reader_letterRows v_tape_length v_tape_bytes v_reader_numbers q4 hq4) mt_X2_readAll mw_246 ⟨rfl, rfl, Nat.le_of_ble_eq_true rfl, Nat.le_of_ble_eq_true rfl⟩ hP hD hS (va_recv C.2.2.2.2.2.2 hP (q0 := 3) (ci := 2) rfl rfl) [3, 4, 5, 6, 7, 1, 2, 8] rfl rfl [none, some 5, some 6, some 0, some 1, some 2, some 3, some 4, some 7, none, none, none, none, none, none, none, none, none, none, none, none, none] rfl rfl (w2 := (wX5_text k h0 h1 h2 h3 h4 h5 h6 h7 h8 h9 h10 h11 h12 h13 h14 h15 h16 h17 h18 h19 h20 h21 z0 z1 z2 z3 z4 v_tape_length v_tape_bytes q4.2.1 q4.2.2.1 q4.2.2.2.1 q4.2.2.2.2.1 q4.2.2.2.2.2.1 q4.2.2.2.2.2.2.1 q4.2.2.2.2.2.2.2.1 q4.2.2.2.2.2.2.2.2.1 q4.2.2.2.2.2.2.2.2.2.1 q4.2.2.2.2.2.2.2.2.2.2.1 q4.2.2.2.2.2.2.2.2.2.2.2.1 q4.2.2.2.2.2.2.2.2.2.2.2.2 v_clock v_nodes v_meetings v_letters v_rooms v_meetingRows v_letterRows v_counts v_refused v_tokens v_notes v_lasts v_deliveredAt v_deliveredHops v_kept)) rfl rfl rfl hl.1 (rest := []) (Nat.le_of_ble_eq_true rfl) rfl dX5_text_4 ⟨Nat.zero_le _, Nat.zero_le _⟩ (fun H locs hP hD hS => ?_)
  refine lv_istore_n (lv' := [(1, .int q4.1), (0, .ref h0)]) hx hb dX5_text_7 rfl hl (by decide) rfl (fun ls hl => ?_)
  refine lv_aload_n hx hb dX5_text_8 rfl (lv_at hl 1 rfl) ?_
  refine kget C inX5 hP 0 rfl rfl 0 (by decide) mw_215 rfl dX5_text_9 ?_
  refine lv_iconst (v := (0 : Int32)) hx hb dX5_text_12 (by decide) ?_
  refine kput C inX3 tyX3_ok nmX3 hP hD hS 1 rfl rfl 1 (by decide) mw_32 rfl rfl rfl (Nat.le_of_ble_eq_true rfl) dX5_text_13 (w2 := (wX5_text k h0 h1 h2 h3 h4 h5 h6 h7 h8 h9 h10 h11 h12 h13 h14 h15 h16 h17 h18 h19 h20 h21 z0 z1 z2 z3 z4 (0 : Int32) v_tape_bytes q4.2.1 q4.2.2.1 q4.2.2.2.1 q4.2.2.2.2.1 q4.2.2.2.2.2.1 q4.2.2.2.2.2.2.1 q4.2.2.2.2.2.2.2.1 q4.2.2.2.2.2.2.2.2.1 q4.2.2.2.2.2.2.2.2.2.1 q4.2.2.2.2.2.2.2.2.2.2.1 q4.2.2.2.2.2.2.2.2.2.2.2.1 q4.2.2.2.2.2.2.2.2.2.2.2.2 v_clock v_nodes v_meetings v_letters v_rooms v_meetingRows v_letterRows v_counts v_refused v_tokens v_notes v_lasts v_deliveredAt v_deliveredHops v_kept)) rfl (fun H locs hP hD hS => ?_)
  refine lv_aload_n hx hb dX5_text_16 rfl (lv_at hl 1 rfl) ?_
  refine kget C inX5 hP 0 rfl rfl 1 (by decide) mw_216 rfl dX5_text_17 ?_
  refine kget C inX2 hP 3 rfl rfl 1 (by decide) mw_89 rfl dX5_text_20 ?_
  refine lv_if_eq (tgt := 37) hx hb dX5_text_23 (by decide) (fun hc => ?_) (fun hc => ?_)
  · rw [if_pos hc] at hf
    refine lv_aload_n hx hb dX5_text_37 rfl (lv_at hl 1 rfl) ?_
    refine kget C inX5 hP 0 rfl rfl 2 (by decide) mw_217 rfl dX5_text_38 ?_
    refine kget C inX4 hP 9 rfl rfl 0 (by decide) mw_131 rfl dX5_text_41 ?_
    refine lv_aload_n hx hb dX5_text_44 rfl (lv_at hl 1 rfl) ?_
    refine kget C inX5 hP 0 rfl rfl 1 (by decide) mw_216 rfl dX5_text_45 ?_
    refine kget C inX2 hP 3 rfl rfl 0 (by decide) mw_87 rfl dX5_text_48 ?_
    obtain ⟨q51, hq51, hf⟩ := bd_some hf
    refine kcVv C (kX0_copyFrom (l := l) (D := D) (k := k) h10 h11 h12 h13 h4 h5 h6 h7 v_nodes v_meetings v_letters v_rooms v_meetingRows v_letterRows q4.2.2.2.2.2.2.1 q4.2.2.2.2.2.2.2.1 q4.2.2.2.2.2.2.2.2.1 q4.2.2.2.2.2.2.2.2.2.1 q4.2.2.2.2.2.2.2.2.2.2.1 q4.2.2.2.2.2.2.2.2.2.2.2.1 q51 hq51) mt_X0_copyFrom mw_388 ⟨rfl, rfl, Nat.le_of_ble_eq_true rfl, Nat.le_of_ble_eq_true rfl⟩ hP hD hS 10 rfl rfl rfl [10, 11, 12, 13, 4, 5, 6, 7] rfl rfl [none, none, none, none, some 4, some 5, some 6, some 7, none, none, some 0, some 1, some 2, some 3, none, none, none, none, none, none, none, none] rfl rfl (w2 := (wX5_text k h0 h1 h2 h3 h4 h5 h6 h7 h8 h9 h10 h11 h12 h13 h14 h15 h16 h17 h18 h19 h20 h21 z0 z1 z2 z3 z4 (0 : Int32) v_tape_bytes q4.2.1 q4.2.2.1 q4.2.2.2.1 q4.2.2.2.2.1 q4.2.2.2.2.2.1 q4.2.2.2.2.2.2.1 q4.2.2.2.2.2.2.2.1 q4.2.2.2.2.2.2.2.2.1 q4.2.2.2.2.2.2.2.2.2.1 q4.2.2.2.2.2.2.2.2.2.2.1 q4.2.2.2.2.2.2.2.2.2.2.2.1 q4.2.2.2.2.2.2.2.2.2.2.2.2 v_clock q51.1 q51.2.1 q51.2.2.1 q51.2.2.2.1 q51.2.2.2.2.1 q51.2.2.2.2.2 v_counts v_refused v_tokens v_notes v_lasts v_deliveredAt v_deliveredHops v_kept)) rfl rfl rfl hl.1 (rest := []) (Nat.le_of_ble_eq_true rfl) rfl dX5_text_51 ⟨Nat.zero_le _, Nat.zero_le _⟩ (fun H locs hP hD hS => ?_)
    refine lv_aload_n hx hb dX5_text_54 rfl (lv_at hl 1 rfl) ?_
    refine kget C inX5 hP 0 rfl rfl 2 (by decide) mw_217 rfl dX5_text_55 ?_
    obtain ⟨q58, hq58, hf⟩ := bd_some hf
    refine kcVv C (kX4_beginAnew (l := l) (D := D) (k := k) h9 h14 h15 h16 h17 h18 h19 h20 (.ref h10) z2 z3 z4 v_clock v_counts v_refused v_tokens v_notes v_lasts v_deliveredAt v_deliveredHops q58 hq58) mt_X4_beginAnew mw_395 ⟨rfl, rfl, Nat.le_of_ble_eq_true rfl, Nat.le_of_ble_eq_true rfl⟩ hP hD hS 9 rfl rfl rfl [9, 14, 15, 16, 17, 18, 19, 20] rfl rfl [none, none, none, none, none, none, none, none, none, some 0, none, none, none, none, some 1, some 2, some 3, some 4, some 5, some 6, some 7, none] rfl rfl (w2 := (wX5_text k h0 h1 h2 h3 h4 h5 h6 h7 h8 h9 h10 h11 h12 h13 h14 h15 h16 h17 h18 h19 h20 h21 z0 z1 z2 z3 z4 (0 : Int32) v_tape_bytes q4.2.1 q4.2.2.1 q4.2.2.2.1 q4.2.2.2.2.1 q4.2.2.2.2.2.1 q4.2.2.2.2.2.2.1 q4.2.2.2.2.2.2.2.1 q4.2.2.2.2.2.2.2.2.1 q4.2.2.2.2.2.2.2.2.2.1 q4.2.2.2.2.2.2.2.2.2.2.1 q4.2.2.2.2.2.2.2.2.2.2.2.1 q4.2.2.2.2.2.2.2.2.2.2.2.2 q58.1 q51.1 q51.2.1 q51.2.2.1 q51.2.2.2.1 q51.2.2.2.2.1 q51.2.2.2.2.2 q58.2.1 q58.2.2.1 q58.2.2.2.1 q58.2.2.2.2.1 q58.2.2.2.2.2.1 q58.2.2.2.2.2.2.1 q58.2.2.2.2.2.2.2 v_kept)) rfl rfl rfl hl.1 (rest := []) (Nat.le_of_ble_eq_true rfl) rfl dX5_text_58 ⟨Nat.zero_le _, Nat.zero_le _⟩ (fun H locs hP hD hS => ?_)
    refine lv_iconst (v := (0 : Int32)) hx hb dX5_text_61 (by decide) ?_
    refine lv_istore_n (lv' := [(2, .int (0 : Int32)), (1, .int q4.1), (0, .ref h0)]) hx hb dX5_text_62 rfl hl (by decide) rfl (fun ls hl => ?_)
    obtain ⟨ex63, hv, hf⟩ := bd_some hf
    refine wX5_text_63 t C hX h0 h1 h2 h3 h4 h5 h6 h7 h8 h9 h10 h11 h12 h13 h14 h15 h16 h17 h18 h19 h20 h21 z0 z1 z2 z3 z4 (0 : Int32) v_tape_bytes q4.2.1 q4.2.2.1 q4.2.2.2.1 q4.2.2.2.2.1 q4.2.2.2.2.2.1 q4.2.2.2.2.2.2.1 q4.2.2.2.2.2.2.2.1 q4.2.2.2.2.2.2.2.2.1 q4.2.2.2.2.2.2.2.2.2.1 q4.2.2.2.2.2.2.2.2.2.2.1 q4.2.2.2.2.2.2.2.2.2.2.2.1 q4.2.2.2.2.2.2.2.2.2.2.2.2 q58.1 q51.1 q51.2.1 q51.2.2.1 q51.2.2.2.1 q51.2.2.2.2.1 q51.2.2.2.2.2 q58.2.1 q58.2.2.1 q58.2.2.2.1 q58.2.2.2.2.1 q58.2.2.2.2.2.1 q58.2.2.2.2.2.2.1 q58.2.2.2.2.2.2.2 q4.1 FU v_kept (0 : Int32) ex63 _ _ _ hv hP hD hS (lv_sub hl [2, 1, 0] rfl) (fun H locs ls hP hD hS hl => ?_)
    refine lv_iload_n hx hb dX5_text_81 rfl (lv_at hl 0 rfl) ?_
    obtain rfl := Option.some.inj hf
    exact hret _ _ _ _ dX5_text_82 hP hS
  · rw [if_neg hc] at hf
    refine lv_bipush (v := (-10 : Int32)) hx hb dX5_text_26 (by decide) ?_
    refine lv_aload_n hx hb dX5_text_28 rfl (lv_at hl 1 rfl) ?_
    refine kget C inX5 hP 0 rfl rfl 1 (by decide) mw_216 rfl dX5_text_29 ?_
    refine kget C inX2 hP 3 rfl rfl 2 (by decide) mw_91 rfl dX5_text_32 ?_
    refine lv_isub hx hb dX5_text_35 ?_
    obtain rfl := Option.some.inj hf
    exact hret _ _ _ _ dX5_text_36 hP hS
set_option maxHeartbeats 4000000 in
set_option maxRecDepth 100000 in
theorem kX5_set {l : Launch} {D : va_G} {k : Nat → ClassId} (t : Nat → Nat) (h0 h1 h2 : Nat) (z0 z1 z2 z3 z4 z5 z6 z7 z8 z9 z10 z11 z12 z13 z14 z15 : Value) (v_rules : Nat → Int32) (x1 : Int32) (x2 : Int32) (q : Int32 × (Nat → Int32)) (hf : fX5_set v_rules x1 x2 = some q) : KMiX (Ev t) l yX5_set cX5_set 4 (some .int) ({ frames := 0, cells := 0, slots := 0, locals := 0 } : Room) D k [.ref h0, .int x1, .int x2] (wX5_set k h0 h1 h2 z0 z1 z2 z3 z4 z5 z6 z7 z8 z9 z10 z11 z12 z13 z14 z15 v_rules) q.1 (wX5_set k h0 h1 h2 z0 z1 z2 z3 z4 z5 z6 z7 z8 z9 z10 z11 z12 z13 z14 z15 q.2) := by
  refine kent_iX (by decide) (Nat.le_of_ble_eq_true rfl) ?_
  intro p e s m below meth c A Q ls C hX hP hD hS hl hret
  obtain ⟨hx, hb, -⟩ := id C
  have hl : lv_has ls 4 [(0, .ref h0), (1, .int x1), (2, .int x2)] := hl
  unfold fX5_set at hf
  generalize ([.ref h0, .int x1, .int x2] : List Value).toArray = args at *
  refine lv_iload_n hx hb dX5_set_0 rfl (lv_at hl 1 rfl) ?_
  refine lv_if_lt (tgt := 22) hx hb dX5_set_1 (by decide) (fun hc => ?_) (fun hc => ?_)
  · rw [if_pos hc] at hf
    refine lv_iconst (v := (-1 : Int32)) hx hb dX5_set_22 (by decide) ?_
    obtain rfl := Option.some.inj hf
    exact hret _ _ _ _ dX5_set_23 hP hS
  · rw [if_neg hc] at hf
    refine lv_iload_n hx hb dX5_set_4 rfl (lv_at hl 1 rfl) ?_
    refine lv_iconst (v := (4 : Int32)) hx hb dX5_set_5 (by decide) ?_
    refine lv_icmp_ge (tgt := 22) hx hb dX5_set_6 (by decide) (fun hc => ?_) (fun hc => ?_)
    · rw [if_pos hc] at hf
      refine lv_iconst (v := (-1 : Int32)) hx hb dX5_set_22 (by decide) ?_
      obtain rfl := Option.some.inj hf
      exact hret _ _ _ _ dX5_set_23 hP hS
    · rw [if_neg hc] at hf
      refine lv_iload_n hx hb dX5_set_9 rfl (lv_at hl 2 rfl) ?_
      refine lv_if_lt (tgt := 22) hx hb dX5_set_10 (by decide) (fun hc => ?_) (fun hc => ?_)
      · rw [if_pos hc] at hf
        refine lv_iconst (v := (-1 : Int32)) hx hb dX5_set_22 (by decide) ?_
        obtain rfl := Option.some.inj hf
        exact hret _ _ _ _ dX5_set_23 hP hS
      · rw [if_neg hc] at hf
        refine lv_iload_n hx hb dX5_set_13 rfl (lv_at hl 2 rfl) ?_
        refine va_gets hx hb (Ev_z6 hX) hS C.2.2.2.1 (C.2.2.2.2.1 _ mw_648) (fun _ h => h) dX5_set_14 ?_
        refine lv_iload_n hx hb dX5_set_17 rfl (lv_at hl 1 rfl) ?_
        obtain ⟨hin, hf⟩ := gd_some hf
        refine va_ti hx hb (Ev_t6 hX) hS hin (v := .int (sv6 x1.toNatClampNeg)) rfl dX5_set_18 ?_
        refine lv_icmp_le (tgt := 24) hx hb dX5_set_19 (by decide) (fun hc => ?_) (fun hc => ?_)
        · rw [if_pos hc] at hf
          refine lv_aload_n hx hb dX5_set_24 rfl (lv_at hl 0 rfl) ?_
          refine kget C inX5 hP 0 rfl rfl 2 (by decide) mw_217 rfl dX5_set_25 ?_
          refine kget C inX4 hP 1 rfl rfl 1 (by decide) mw_134 rfl dX5_set_28 ?_
          refine lv_iload_n hx hb dX5_set_31 rfl (lv_at hl 1 rfl) ?_
          obtain ⟨hin, hf⟩ := gd_some hf
          refine kiald C hP 2 rfl hin dX5_set_32 (j := x1.toNatClampNeg) rfl ?_
          refine lv_istore_n (lv' := [(3, .int (v_rules x1.toNatClampNeg)), (0, .ref h0), (1, .int x1), (2, .int x2)]) hx hb dX5_set_33 rfl hl (by decide) rfl (fun ls hl => ?_)
          refine lv_aload_n hx hb dX5_set_34 rfl (lv_at hl 1 rfl) ?_
          refine kget C inX5 hP 0 rfl rfl 2 (by decide) mw_217 rfl dX5_set_35 ?_
          refine kget C inX4 hP 1 rfl rfl 1 (by decide) mw_134 rfl dX5_set_38 ?_
          refine lv_iload_n hx hb dX5_set_41 rfl (lv_at hl 2 rfl) ?_
          refine lv_iload_n hx hb dX5_set_42 rfl (lv_at hl 3 rfl) ?_
          obtain ⟨hin, hf⟩ := gd_some hf
          obtain ⟨v_rules_43, hn43, hf⟩ := nm_some hf
          refine kiast C hP hD hS 2 rfl hin dX5_set_43 (j := x1.toNatClampNeg) rfl (g := v_rules_43) hn43 (w2 := (wX5_set k h0 h1 h2 z0 z1 z2 z3 z4 z5 z6 z7 z8 z9 z10 z11 z12 z13 z14 z15 v_rules_43)) rfl (fun H locs hP hD hS => ?_)
          refine lv_iload_n hx hb dX5_set_44 rfl (lv_at hl 0 rfl) ?_
          obtain rfl := Option.some.inj hf
          exact hret _ _ _ _ dX5_set_45 hP hS
        · rw [if_neg hc] at hf
          refine lv_iconst (v := (-1 : Int32)) hx hb dX5_set_22 (by decide) ?_
          obtain rfl := Option.some.inj hf
          exact hret _ _ _ _ dX5_set_23 hP hS
