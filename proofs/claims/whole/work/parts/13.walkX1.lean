set_option maxHeartbeats 4000000 in
set_option maxRecDepth 100000 in
theorem wX1_expire_36 {p : Program} {l : Launch} {e : Env} {s : State} {m : MethodId} {args : Array Value} {below : List Frame} {meth : Method} {c : Code} {A : Nat → Prop} {Q : State → Prop} {D : va_G} {k : Nat → ClassId} (C : Cx p s m args c cX1_expire 3 RX1 A D k) (h0 h1 h2 h3 h4 h5 : Nat) (z0 z1 z2 z3 z4 z5 z6 z7 z8 z9 z10 z11 z12 z13 z14 : Value) (v_clock : Int32) (v_nodes : Int32) (v_letters : Int32) (v_letterRows : Nat → Int32) (y1 : Int32) : ∀ (f : Nat) (v_counts : Nat → Int32) (v_tokens : Nat → Int32) (y2 : Int32) (ex : ((Nat → Int32) × (Nat → Int32))) (H : Heap) (locs : List Loc) (ls : Array Slot), fX1_expire_36 v_nodes y1 f v_counts v_tokens y2 = some ex → va_P D vwCl (wX1_expire k h0 h1 h2 h3 h4 h5 z0 z1 z2 z3 z4 z5 z6 z7 z8 z9 z10 z11 z12 z13 z14 v_clock v_nodes v_letters v_letterRows v_counts v_tokens) H → va_D A (wX1_expire k h0 h1 h2 h3 h4 h5 z0 z1 z2 z3 z4 z5 z6 z7 z8 z9 z10 z11 z12 z13 z14 v_clock v_nodes v_letters v_letterRows v_counts v_tokens) → va_S A s.heap H locs → lv_has ls 3 [(0, .ref h0), (1, .int y1), (2, .int y2)] → (∀ (H : Heap) (locs : List Loc) (ls : Array Slot), va_P D vwCl (wX1_expire k h0 h1 h2 h3 h4 h5 z0 z1 z2 z3 z4 z5 z6 z7 z8 z9 z10 z11 z12 z13 z14 v_clock v_nodes v_letters v_letterRows ex.1 ex.2) H → va_D A (wX1_expire k h0 h1 h2 h3 h4 h5 z0 z1 z2 z3 z4 z5 z6 z7 z8 z9 z10 z11 z12 z13 z14 v_clock v_nodes v_letters v_letterRows ex.1 ex.2) → va_S A s.heap H locs → lv_has ls 3 [(0, .ref h0), (1, .int y1)] → W p l e ({ frames := 2, cells := 0, slots := 0, locals := 43 } : Room) s m args below meth c H locs 0 0 Q (F0 m 87 ls [])) → W p l e ({ frames := 2, cells := 0, slots := 0, locals := 43 } : Room) s m args below meth c H locs 0 0 Q (F0 m 36 ls []) := by
  obtain ⟨hx, hb, -⟩ := id C
  intro f
  induction f with
  | zero =>
    intro v_counts v_tokens y2 ex H locs ls hf hP hD hS hl hk
    cases hf
  | succ f ih =>
    intro v_counts v_tokens y2 ex H locs ls hf hP hD hS hl hk
    rw [fX1_expire_36] at hf
    refine lv_iload_n hx hb dX1_expire_36 rfl (lv_at hl 2 rfl) ?_
    refine lv_aload_n hx hb dX1_expire_37 rfl (lv_at hl 0 rfl) ?_
    refine kget C inX1 hP 0 rfl rfl 1 (by decide) mw_195 rfl dX1_expire_38 ?_
    refine kget C inX0 hP 2 rfl rfl 3 (by decide) mw_59 rfl dX1_expire_41 ?_
    refine lv_icmp_ge (tgt := 87) hx hb dX1_expire_44 (by decide) (fun hc => ?_) (fun hc => ?_)
    · rw [if_pos hc] at hf
      obtain rfl := Option.some.inj hf
      exact hk _ _ _ hP hD hS (lv_sub hl [0, 1] rfl)
    · rw [if_neg hc] at hf
      refine lv_aload_n hx hb dX1_expire_47 rfl (lv_at hl 0 rfl) ?_
      refine kget C inX1 hP 0 rfl rfl 0 (by decide) mw_194 rfl dX1_expire_48 ?_
      refine lv_iload_n hx hb dX1_expire_51 rfl (lv_at hl 2 rfl) ?_
      refine lv_iload_n hx hb dX1_expire_52 rfl (lv_at hl 1 rfl) ?_
      obtain ⟨q53, hq53, hf⟩ := bd_some hf
      refine kcVi C (kX4_hasCopy (l := l) (D := D) (k := k) h1 h5 (.ref h2) z4 (.ref h4) z5 z6 z7 z8 z9 z10 z11 (.int v_clock) v_tokens y2 y1 q53 hq53) mt_X4_hasCopy mw_494 ⟨rfl, rfl, Nat.le_of_ble_eq_true rfl, Nat.le_of_ble_eq_true rfl⟩ hP hD hS 1 rfl rfl rfl [1, 5] rfl rfl [none, some 0, none, none, none, some 1] rfl rfl (w2 := (wX1_expire k h0 h1 h2 h3 h4 h5 z0 z1 z2 z3 z4 z5 z6 z7 z8 z9 z10 z11 z12 z13 z14 v_clock v_nodes v_letters v_letterRows v_counts v_tokens)) rfl rfl rfl hl.1 (rest := []) (Nat.le_of_ble_eq_true rfl) rfl dX1_expire_53 ⟨Nat.zero_le _, Nat.zero_le _⟩ (fun H locs hP hD hS => ?_)
      refine lv_if_eq (tgt := 81) hx hb dX1_expire_56 (by decide) (fun hc => ?_) (fun hc => ?_)
      · rw [if_pos hc] at hf
        refine lv_iinc (v := (y2 + (1 : Int32))) (lv' := [(2, .int (y2 + (1 : Int32))), (0, .ref h0), (1, .int y1)]) hx hb dX1_expire_81 hl (k := 2) rfl rfl (by decide) rfl (fun ls hl => ?_)
        refine lv_goto (tgt := 36) hx hb dX1_expire_84 (by decide) ?_
        exact ih v_counts v_tokens (y2 + (1 : Int32)) _ _ _ _ hf hP hD hS (lv_sub hl [1, 2, 0] rfl) hk
      · rw [if_neg hc] at hf
        refine lv_aload_n hx hb dX1_expire_59 rfl (lv_at hl 0 rfl) ?_
        refine kget C inX1 hP 0 rfl rfl 0 (by decide) mw_194 rfl dX1_expire_60 ?_
        refine lv_iload_n hx hb dX1_expire_63 rfl (lv_at hl 2 rfl) ?_
        refine lv_iload_n hx hb dX1_expire_64 rfl (lv_at hl 1 rfl) ?_
        obtain ⟨q65, hq65, hf⟩ := bd_some hf
        refine kcVv C (kX4_removeCopy (l := l) (D := D) (k := k) h1 h5 (.ref h2) z4 (.ref h4) z5 z6 z7 z8 z9 z10 z11 (.int v_clock) v_tokens y2 y1 q65 hq65) mt_X4_removeCopy mw_580 ⟨rfl, rfl, Nat.le_of_ble_eq_true rfl, Nat.le_of_ble_eq_true rfl⟩ hP hD hS 1 rfl rfl rfl [1, 5] rfl rfl [none, some 0, none, none, none, some 1] rfl rfl (w2 := (wX1_expire k h0 h1 h2 h3 h4 h5 z0 z1 z2 z3 z4 z5 z6 z7 z8 z9 z10 z11 z12 z13 z14 v_clock v_nodes v_letters v_letterRows v_counts q65)) rfl rfl rfl hl.1 (rest := []) (Nat.le_of_ble_eq_true rfl) rfl dX1_expire_65 ⟨Nat.zero_le _, Nat.zero_le _⟩ (fun H locs hP hD hS => ?_)
        refine lv_aload_n hx hb dX1_expire_68 rfl (lv_at hl 0 rfl) ?_
        refine kget C inX1 hP 0 rfl rfl 0 (by decide) mw_194 rfl dX1_expire_69 ?_
        refine kget C inX4 hP 1 rfl rfl 2 (by decide) mw_136 rfl dX1_expire_72 ?_
        refine lv_iconst (v := (4 : Int32)) hx hb dX1_expire_75 (by decide) ?_
        refine lv_dup2_11 hx hb dX1_expire_76 rfl rfl ?_
        refine kiald C hP 4 rfl (by unfold vp_in; decide) dX1_expire_77 (j := 4) (by decide) ?_
        refine lv_iconst (v := (1 : Int32)) hx hb dX1_expire_78 (by decide) ?_
        refine lv_iadd hx hb dX1_expire_79 ?_
        obtain ⟨v_counts_80, hn80, hf⟩ := nm_some hf
        refine kiast C hP hD hS 4 rfl (by unfold vp_in; decide) dX1_expire_80 (j := 4) (by decide) (g := v_counts_80) hn80 (w2 := (wX1_expire k h0 h1 h2 h3 h4 h5 z0 z1 z2 z3 z4 z5 z6 z7 z8 z9 z10 z11 z12 z13 z14 v_clock v_nodes v_letters v_letterRows v_counts_80 q65)) rfl (fun H locs hP hD hS => ?_)
        refine lv_iinc (v := (y2 + (1 : Int32))) (lv' := [(2, .int (y2 + (1 : Int32))), (0, .ref h0), (1, .int y1)]) hx hb dX1_expire_81 hl (k := 2) rfl rfl (by decide) rfl (fun ls hl => ?_)
        refine lv_goto (tgt := 36) hx hb dX1_expire_84 (by decide) ?_
        exact ih v_counts_80 q65 (y2 + (1 : Int32)) _ _ _ _ hf hP hD hS (lv_sub hl [1, 2, 0] rfl) hk
set_option maxHeartbeats 4000000 in
set_option maxRecDepth 100000 in
theorem wX1_expire_2 {p : Program} {l : Launch} {e : Env} {s : State} {m : MethodId} {args : Array Value} {below : List Frame} {meth : Method} {c : Code} {A : Nat → Prop} {Q : State → Prop} {D : va_G} {k : Nat → ClassId} (C : Cx p s m args c cX1_expire 3 RX1 A D k) (h0 h1 h2 h3 h4 h5 : Nat) (z0 z1 z2 z3 z4 z5 z6 z7 z8 z9 z10 z11 z12 z13 z14 : Value) (v_clock : Int32) (v_nodes : Int32) (v_letters : Int32) (v_letterRows : Nat → Int32) : ∀ (f : Nat) (v_counts : Nat → Int32) (v_tokens : Nat → Int32) (y1 : Int32) (ex : ((Nat → Int32) × (Nat → Int32))) (H : Heap) (locs : List Loc) (ls : Array Slot), fX1_expire_2 v_clock v_nodes v_letters v_letterRows f v_counts v_tokens y1 = some ex → va_P D vwCl (wX1_expire k h0 h1 h2 h3 h4 h5 z0 z1 z2 z3 z4 z5 z6 z7 z8 z9 z10 z11 z12 z13 z14 v_clock v_nodes v_letters v_letterRows v_counts v_tokens) H → va_D A (wX1_expire k h0 h1 h2 h3 h4 h5 z0 z1 z2 z3 z4 z5 z6 z7 z8 z9 z10 z11 z12 z13 z14 v_clock v_nodes v_letters v_letterRows v_counts v_tokens) → va_S A s.heap H locs → lv_has ls 3 [(0, .ref h0), (1, .int y1)] → (∀ (H : Heap) (locs : List Loc) (ls : Array Slot), va_P D vwCl (wX1_expire k h0 h1 h2 h3 h4 h5 z0 z1 z2 z3 z4 z5 z6 z7 z8 z9 z10 z11 z12 z13 z14 v_clock v_nodes v_letters v_letterRows ex.1 ex.2) H → va_D A (wX1_expire k h0 h1 h2 h3 h4 h5 z0 z1 z2 z3 z4 z5 z6 z7 z8 z9 z10 z11 z12 z13 z14 v_clock v_nodes v_letters v_letterRows ex.1 ex.2) → va_S A s.heap H locs → lv_has ls 3 [] → W p l e ({ frames := 2, cells := 0, slots := 0, locals := 43 } : Room) s m args below meth c H locs 0 0 Q (F0 m 93 ls [])) → W p l e ({ frames := 2, cells := 0, slots := 0, locals := 43 } : Room) s m args below meth c H locs 0 0 Q (F0 m 2 ls []) := by
  obtain ⟨hx, hb, -⟩ := id C
  intro f
  induction f with
  | zero =>
    intro v_counts v_tokens y1 ex H locs ls hf hP hD hS hl hk
    cases hf
  | succ f ih =>
    intro v_counts v_tokens y1 ex H locs ls hf hP hD hS hl hk
    rw [fX1_expire_2] at hf
    refine lv_iload_n hx hb dX1_expire_2 rfl (lv_at hl 1 rfl) ?_
    refine lv_aload_n hx hb dX1_expire_3 rfl (lv_at hl 0 rfl) ?_
    refine kget C inX1 hP 0 rfl rfl 1 (by decide) mw_195 rfl dX1_expire_4 ?_
    refine kget C inX0 hP 2 rfl rfl 5 (by decide) mw_68 rfl dX1_expire_7 ?_
    refine lv_icmp_ge (tgt := 93) hx hb dX1_expire_10 (by decide) (fun hc => ?_) (fun hc => ?_)
    · rw [if_pos hc] at hf
      obtain rfl := Option.some.inj hf
      exact hk _ _ _ hP hD hS (lv_sub hl [] rfl)
    · rw [if_neg hc] at hf
      refine lv_aload_n hx hb dX1_expire_13 rfl (lv_at hl 0 rfl) ?_
      refine kget C inX1 hP 0 rfl rfl 1 (by decide) mw_195 rfl dX1_expire_14 ?_
      refine lv_iload_n hx hb dX1_expire_17 rfl (lv_at hl 1 rfl) ?_
      obtain ⟨q18, hq18, hf⟩ := bd_some hf
      refine kcVi C (kX0_endOf (l := l) (D := D) (k := k) h2 h3 z12 z13 (.int v_nodes) z14 (.int v_letters) v_letterRows y1 q18 hq18) mt_X0_endOf mw_524 ⟨rfl, rfl, Nat.le_of_ble_eq_true rfl, Nat.le_of_ble_eq_true rfl⟩ hP hD hS 2 rfl rfl rfl [2, 3] rfl rfl [none, none, some 0, some 1, none, none] rfl rfl (w2 := (wX1_expire k h0 h1 h2 h3 h4 h5 z0 z1 z2 z3 z4 z5 z6 z7 z8 z9 z10 z11 z12 z13 z14 v_clock v_nodes v_letters v_letterRows v_counts v_tokens)) rfl rfl rfl hl.1 (rest := []) (Nat.le_of_ble_eq_true rfl) rfl dX1_expire_18 ⟨Nat.zero_le _, Nat.zero_le _⟩ (fun H locs hP hD hS => ?_)
      refine lv_aload_n hx hb dX1_expire_21 rfl (lv_at hl 0 rfl) ?_
      refine kget C inX1 hP 0 rfl rfl 0 (by decide) mw_194 rfl dX1_expire_22 ?_
      refine kget C inX4 hP 1 rfl rfl 11 (by decide) mw_160 rfl dX1_expire_25 ?_
      refine lv_icmp_eq (tgt := 34) hx hb dX1_expire_28 (by decide) (fun hc => ?_) (fun hc => ?_)
      · rw [if_pos hc] at hf
        refine lv_iconst (v := (0 : Int32)) hx hb dX1_expire_34 (by decide) ?_
        refine lv_istore_n (lv' := [(2, .int (0 : Int32)), (0, .ref h0), (1, .int y1)]) hx hb dX1_expire_35 rfl hl (by decide) rfl (fun ls hl => ?_)
        obtain ⟨ex36, hv, hf⟩ := bd_some hf
        refine wX1_expire_36 C h0 h1 h2 h3 h4 h5 z0 z1 z2 z3 z4 z5 z6 z7 z8 z9 z10 z11 z12 z13 z14 v_clock v_nodes v_letters v_letterRows y1 FU v_counts v_tokens (0 : Int32) ex36 _ _ _ hv hP hD hS (lv_sub hl [1, 2, 0] rfl) (fun H locs ls hP hD hS hl => ?_)
        refine lv_iinc (v := (y1 + (1 : Int32))) (lv' := [(1, .int (y1 + (1 : Int32))), (0, .ref h0)]) hx hb dX1_expire_87 hl (k := 1) rfl rfl (by decide) rfl (fun ls hl => ?_)
        refine lv_goto (tgt := 2) hx hb dX1_expire_90 (by decide) ?_
        exact ih ex36.1 ex36.2 (y1 + (1 : Int32)) _ _ _ _ hf hP hD hS (lv_sub hl [1, 0] rfl) hk
      · rw [if_neg hc] at hf
        refine lv_goto (tgt := 87) hx hb dX1_expire_31 (by decide) ?_
        refine lv_iinc (v := (y1 + (1 : Int32))) (lv' := [(1, .int (y1 + (1 : Int32))), (0, .ref h0)]) hx hb dX1_expire_87 hl (k := 1) rfl rfl (by decide) rfl (fun ls hl => ?_)
        refine lv_goto (tgt := 2) hx hb dX1_expire_90 (by decide) ?_
        exact ih v_counts v_tokens (y1 + (1 : Int32)) _ _ _ _ hf hP hD hS (lv_sub hl [1, 0] rfl) hk
set_option maxHeartbeats 4000000 in
set_option maxRecDepth 100000 in
theorem kX1_expire {l : Launch} {D : va_G} {k : Nat → ClassId} (h0 h1 h2 h3 h4 h5 : Nat) (z0 z1 z2 z3 z4 z5 z6 z7 z8 z9 z10 z11 z12 z13 z14 : Value) (v_clock : Int32) (v_nodes : Int32) (v_letters : Int32) (v_letterRows : Nat → Int32) (v_counts : Nat → Int32) (v_tokens : Nat → Int32) (q : (Nat → Int32) × (Nat → Int32)) (hf : fX1_expire v_clock v_nodes v_letters v_letterRows v_counts v_tokens = some q) : KMv l yX1_expire cX1_expire 3 ({ frames := 2, cells := 0, slots := 0, locals := 43 } : Room) D k [.ref h0] (wX1_expire k h0 h1 h2 h3 h4 h5 z0 z1 z2 z3 z4 z5 z6 z7 z8 z9 z10 z11 z12 z13 z14 v_clock v_nodes v_letters v_letterRows v_counts v_tokens) (wX1_expire k h0 h1 h2 h3 h4 h5 z0 z1 z2 z3 z4 z5 z6 z7 z8 z9 z10 z11 z12 z13 z14 v_clock v_nodes v_letters v_letterRows q.1 q.2) := by
  refine kent_v (by decide) (Nat.le_of_ble_eq_true rfl) ?_
  intro p e s m below meth c A Q ls C hP hD hS hl hret
  obtain ⟨hx, hb, -⟩ := id C
  have hl : lv_has ls 3 [(0, .ref h0)] := hl
  unfold fX1_expire at hf
  generalize ([.ref h0] : List Value).toArray = args at *
  refine lv_iconst (v := (0 : Int32)) hx hb dX1_expire_0 (by decide) ?_
  refine lv_istore_n (lv' := [(1, .int (0 : Int32)), (0, .ref h0)]) hx hb dX1_expire_1 rfl hl (by decide) rfl (fun ls hl => ?_)
  obtain ⟨ex2, hv, hf⟩ := bd_some hf
  refine wX1_expire_2 C h0 h1 h2 h3 h4 h5 z0 z1 z2 z3 z4 z5 z6 z7 z8 z9 z10 z11 z12 z13 z14 v_clock v_nodes v_letters v_letterRows FU v_counts v_tokens (0 : Int32) ex2 _ _ _ hv hP hD hS (lv_sub hl [1, 0] rfl) (fun H locs ls hP hD hS hl => ?_)
  obtain rfl := Option.some.inj hf
  exact hret _ _ _ _ dX1_expire_93 hP hS
set_option maxHeartbeats 4000000 in
set_option maxRecDepth 100000 in
theorem kX1_lackOfRoom {l : Launch} {D : va_G} {k : Nat → ClassId} (h0 h1 h2 h3 h4 h5 h6 : Nat) (z0 z1 z2 z3 z4 z5 z6 z7 z8 z9 z10 z11 z12 z13 z14 z15 : Value) (v_letters : Int32) (v_rooms : Nat → Int32) (v_letterRows : Nat → Int32) (v_rules : Nat → Int32) (v_tokens : Nat → Int32) (x1 : Int32) (x2 : Int32) (q : Int32) (hf : fX1_lackOfRoom v_letters v_rooms v_letterRows v_rules v_tokens x1 x2 = some q) : KMi l yX1_lackOfRoom cX1_lackOfRoom 5 (some .int) ({ frames := 2, cells := 0, slots := 0, locals := 45 } : Room) D k [.ref h0, .int x1, .int x2] (wX1_lackOfRoom k h0 h1 h2 h3 h4 h5 h6 z0 z1 z2 z3 z4 z5 z6 z7 z8 z9 z10 z11 z12 z13 z14 z15 v_letters v_rooms v_letterRows v_rules v_tokens) q (wX1_lackOfRoom k h0 h1 h2 h3 h4 h5 h6 z0 z1 z2 z3 z4 z5 z6 z7 z8 z9 z10 z11 z12 z13 z14 z15 v_letters v_rooms v_letterRows v_rules v_tokens) := by
  refine kent_i (by decide) (Nat.le_of_ble_eq_true rfl) ?_
  intro p e s m below meth c A Q ls C hP hD hS hl hret
  obtain ⟨hx, hb, -⟩ := id C
  have hl : lv_has ls 5 [(0, .ref h0), (1, .int x1), (2, .int x2)] := hl
  unfold fX1_lackOfRoom at hf
  generalize ([.ref h0, .int x1, .int x2] : List Value).toArray = args at *
  refine lv_aload_n hx hb dX1_lackOfRoom_0 rfl (lv_at hl 0 rfl) ?_
  refine kget C inX1 hP 0 rfl rfl 1 (by decide) mw_195 rfl dX1_lackOfRoom_1 ?_
  refine kget C inX0 hP 2 rfl rfl 0 (by decide) mw_54 rfl dX1_lackOfRoom_4 ?_
  refine lv_iload_n hx hb dX1_lackOfRoom_7 rfl (lv_at hl 1 rfl) ?_
  obtain ⟨hin, hf⟩ := gd_some hf
  refine kiald C hP 3 rfl hin dX1_lackOfRoom_8 (j := x1.toNatClampNeg) rfl ?_
  refine lv_istore_n (lv' := [(3, .int (v_rooms x1.toNatClampNeg)), (0, .ref h0), (1, .int x1), (2, .int x2)]) hx hb dX1_lackOfRoom_9 rfl hl (by decide) rfl (fun ls hl => ?_)
  refine lv_aload_n hx hb dX1_lackOfRoom_10 rfl (lv_at hl 1 rfl) ?_
  refine kget C inX1 hP 0 rfl rfl 1 (by decide) mw_195 rfl dX1_lackOfRoom_11 ?_
  refine lv_iload_n hx hb dX1_lackOfRoom_14 rfl (lv_at hl 3 rfl) ?_
  refine lv_iconst (v := (3 : Int32)) hx hb dX1_lackOfRoom_15 (by decide) ?_
  obtain ⟨q16, hq16, hf⟩ := bd_some hf
  refine kcVi C (kX0_ofLetter (l := l) (D := D) (k := k) h2 h4 (.ref h3) z13 z14 z15 (.int v_letters) v_letterRows x2 (3 : Int32) q16 hq16) mt_X0_ofLetter mw_499 ⟨rfl, rfl, Nat.le_of_ble_eq_true rfl, Nat.le_of_ble_eq_true rfl⟩ hP hD hS 2 rfl rfl rfl [2, 4] rfl rfl [none, none, some 0, none, some 1, none, none] rfl rfl (w2 := (wX1_lackOfRoom k h0 h1 h2 h3 h4 h5 h6 z0 z1 z2 z3 z4 z5 z6 z7 z8 z9 z10 z11 z12 z13 z14 z15 v_letters v_rooms v_letterRows v_rules v_tokens)) rfl rfl rfl hl.1 (rest := []) (Nat.le_of_ble_eq_true rfl) rfl dX1_lackOfRoom_16 ⟨Nat.zero_le _, Nat.zero_le _⟩ (fun H locs hP hD hS => ?_)
  refine lv_istore (lv' := [(4, .int q16), (3, .int (v_rooms x1.toNatClampNeg)), (0, .ref h0), (1, .int x1), (2, .int x2)]) hx hb dX1_lackOfRoom_19 hl (by decide) rfl (fun ls hl => ?_)
  refine lv_aload_n hx hb dX1_lackOfRoom_21 rfl (lv_at hl 2 rfl) ?_
  refine kget C inX1 hP 0 rfl rfl 0 (by decide) mw_194 rfl dX1_lackOfRoom_22 ?_
  refine lv_iload_n hx hb dX1_lackOfRoom_25 rfl (lv_at hl 3 rfl) ?_
  obtain ⟨q26, hq26, hf⟩ := bd_some hf
  refine kcVi C (kX4_loadOf (l := l) (D := D) (k := k) h1 h2 h4 h6 (.ref h5) z4 z5 z6 z7 z8 z9 z10 z11 z12 (.ref h3) z13 z14 z15 v_letters v_letterRows v_tokens x1 q26 hq26) mt_X4_loadOf mw_559 ⟨rfl, rfl, Nat.le_of_ble_eq_true rfl, Nat.le_of_ble_eq_true rfl⟩ hP hD hS 1 rfl rfl rfl [1, 2, 4, 6] rfl rfl [none, some 0, some 1, none, some 2, none, some 3] rfl rfl (w2 := (wX1_lackOfRoom k h0 h1 h2 h3 h4 h5 h6 z0 z1 z2 z3 z4 z5 z6 z7 z8 z9 z10 z11 z12 z13 z14 z15 v_letters v_rooms v_letterRows v_rules v_tokens)) rfl rfl rfl hl.1 (rest := []) (Nat.le_of_ble_eq_true rfl) rfl dX1_lackOfRoom_26 ⟨Nat.zero_le _, Nat.zero_le _⟩ (fun H locs hP hD hS => ?_)
  refine lv_iload hx hb dX1_lackOfRoom_29 (lv_at hl 0 rfl) ?_
  refine lv_iadd hx hb dX1_lackOfRoom_31 ?_
  refine lv_iload_n hx hb dX1_lackOfRoom_32 rfl (lv_at hl 1 rfl) ?_
  refine lv_icmp_gt (tgt := 38) hx hb dX1_lackOfRoom_33 (by decide) (fun hc => ?_) (fun hc => ?_)
  · rw [if_pos hc] at hf
    refine lv_iload hx hb dX1_lackOfRoom_38 (lv_at hl 0 rfl) ?_
    refine lv_iload_n hx hb dX1_lackOfRoom_40 rfl (lv_at hl 1 rfl) ?_
    refine lv_icmp_le (tgt := 46) hx hb dX1_lackOfRoom_41 (by decide) (fun hc => ?_) (fun hc => ?_)
    · rw [if_pos hc] at hf
      refine lv_aload_n hx hb dX1_lackOfRoom_46 rfl (lv_at hl 2 rfl) ?_
      refine kget C inX1 hP 0 rfl rfl 0 (by decide) mw_194 rfl dX1_lackOfRoom_47 ?_
      refine kget C inX4 hP 1 rfl rfl 1 (by decide) mw_133 rfl dX1_lackOfRoom_50 ?_
      refine lv_iconst (v := (2 : Int32)) hx hb dX1_lackOfRoom_53 (by decide) ?_
      refine kiald C hP 5 rfl (by unfold vp_in; decide) dX1_lackOfRoom_54 (j := 2) (by decide) ?_
      refine lv_if_ne (tgt := 61) hx hb dX1_lackOfRoom_55 (by decide) (fun hc => ?_) (fun hc => ?_)
      · rw [if_neg hc] at hf
        refine lv_aload_n hx hb dX1_lackOfRoom_61 rfl (lv_at hl 2 rfl) ?_
        refine kget C inX1 hP 0 rfl rfl 0 (by decide) mw_194 rfl dX1_lackOfRoom_62 ?_
        refine lv_iload_n hx hb dX1_lackOfRoom_65 rfl (lv_at hl 3 rfl) ?_
        obtain ⟨q66, hq66, hf⟩ := bd_some hf
        refine kcVi C (kX4_ownLoadOf (l := l) (D := D) (k := k) h1 h2 h4 h6 (.ref h5) z4 z5 z6 z7 z8 z9 z10 z11 z12 (.ref h3) z13 z14 z15 v_letters v_letterRows v_tokens x1 q66 hq66) mt_X4_ownLoadOf mw_560 ⟨rfl, rfl, Nat.le_of_ble_eq_true rfl, Nat.le_of_ble_eq_true rfl⟩ hP hD hS 1 rfl rfl rfl [1, 2, 4, 6] rfl rfl [none, some 0, some 1, none, some 2, none, some 3] rfl rfl (w2 := (wX1_lackOfRoom k h0 h1 h2 h3 h4 h5 h6 z0 z1 z2 z3 z4 z5 z6 z7 z8 z9 z10 z11 z12 z13 z14 z15 v_letters v_rooms v_letterRows v_rules v_tokens)) rfl rfl rfl hl.1 (rest := []) (Nat.le_of_ble_eq_true rfl) rfl dX1_lackOfRoom_66 ⟨Nat.zero_le _, Nat.zero_le _⟩ (fun H locs hP hD hS => ?_)
        refine lv_iload hx hb dX1_lackOfRoom_69 (lv_at hl 0 rfl) ?_
        refine lv_iadd hx hb dX1_lackOfRoom_71 ?_
        refine lv_iload_n hx hb dX1_lackOfRoom_72 rfl (lv_at hl 1 rfl) ?_
        refine lv_icmp_le (tgt := 81) hx hb dX1_lackOfRoom_73 (by decide) (fun hc => ?_) (fun hc => ?_)
        · rw [if_pos hc] at hf
          refine lv_iconst (v := (0 : Int32)) hx hb dX1_lackOfRoom_81 (by decide) ?_
          obtain rfl := Option.some.inj hf
          exact hret _ _ _ _ dX1_lackOfRoom_82 hP hS
        · rw [if_neg hc] at hf
          refine lv_bipush (v := (7 : Int32)) hx hb dX1_lackOfRoom_76 (by decide) ?_
          refine lv_goto (tgt := 82) hx hb dX1_lackOfRoom_78 (by decide) ?_
          obtain rfl := Option.some.inj hf
          exact hret _ _ _ _ dX1_lackOfRoom_82 hP hS
      · rw [if_pos hc] at hf
        refine lv_bipush (v := (6 : Int32)) hx hb dX1_lackOfRoom_58 (by decide) ?_
        obtain rfl := Option.some.inj hf
        exact hret _ _ _ _ dX1_lackOfRoom_60 hP hS
    · rw [if_neg hc] at hf
      refine lv_iconst (v := (5 : Int32)) hx hb dX1_lackOfRoom_44 (by decide) ?_
      obtain rfl := Option.some.inj hf
      exact hret _ _ _ _ dX1_lackOfRoom_45 hP hS
  · rw [if_neg hc] at hf
    refine lv_iconst (v := (0 : Int32)) hx hb dX1_lackOfRoom_36 (by decide) ?_
    obtain rfl := Option.some.inj hf
    exact hret _ _ _ _ dX1_lackOfRoom_37 hP hS
set_option maxHeartbeats 4000000 in
set_option maxRecDepth 100000 in
theorem kX1_rankToGo {l : Launch} {D : va_G} {k : Nat → ClassId} (h0 h1 h2 h3 h4 h5 : Nat) (z0 z1 z2 z3 z4 z5 z6 z7 z8 z9 z10 z11 z12 z13 z14 z15 z16 z17 : Value) (v_letterRows : Nat → Int32) (v_rules : Nat → Int32) (v_since : Nat → Int32) (x1 : Int32) (x2 : Int32) (q : Int32) (hf : fX1_rankToGo v_letterRows v_rules v_since x1 x2 = some q) : KMi l yX1_rankToGo cX1_rankToGo 3 (some .int) ({ frames := 0, cells := 0, slots := 0, locals := 0 } : Room) D k [.ref h0, .int x1, .int x2] (wX1_rankToGo k h0 h1 h2 h3 h4 h5 z0 z1 z2 z3 z4 z5 z6 z7 z8 z9 z10 z11 z12 z13 z14 z15 z16 z17 v_letterRows v_rules v_since) q (wX1_rankToGo k h0 h1 h2 h3 h4 h5 z0 z1 z2 z3 z4 z5 z6 z7 z8 z9 z10 z11 z12 z13 z14 z15 z16 z17 v_letterRows v_rules v_since) := by
  refine kent_i (by decide) (Nat.le_of_ble_eq_true rfl) ?_
  intro p e s m below meth c A Q ls C hP hD hS hl hret
  obtain ⟨hx, hb, -⟩ := id C
  have hl : lv_has ls 3 [(0, .ref h0), (1, .int x1), (2, .int x2)] := hl
  unfold fX1_rankToGo at hf
  generalize ([.ref h0, .int x1, .int x2] : List Value).toArray = args at *
  refine lv_aload_n hx hb dX1_rankToGo_0 rfl (lv_at hl 0 rfl) ?_
  refine kget C inX1 hP 0 rfl rfl 0 (by decide) mw_194 rfl dX1_rankToGo_1 ?_
  refine kget C inX4 hP 1 rfl rfl 1 (by decide) mw_133 rfl dX1_rankToGo_4 ?_
  refine lv_iconst (v := (2 : Int32)) hx hb dX1_rankToGo_7 (by decide) ?_
  refine kiald C hP 4 rfl (by unfold vp_in; decide) dX1_rankToGo_8 (j := 2) (by decide) ?_
  by_cases hc1 : (v_rules 2) = (1 : Int32)
  · rw [if_pos hc1] at hf
    refine lv_lookup (tgt := 36) hx hb dX1_rankToGo_9 rfl (by rw [hc1]; first | done | rfl) (by decide) ?_
    refine lv_aload_n hx hb dX1_rankToGo_36 rfl (lv_at hl 0 rfl) ?_
    refine kget C inX1 hP 0 rfl rfl 0 (by decide) mw_194 rfl dX1_rankToGo_37 ?_
    refine kget C inX4 hP 1 rfl rfl 6 (by decide) mw_149 rfl dX1_rankToGo_40 ?_
    refine lv_iload_n hx hb dX1_rankToGo_43 rfl (lv_at hl 1 rfl) ?_
    refine lv_bipush (v := (16 : Int32)) hx hb dX1_rankToGo_44 (by decide) ?_
    refine lv_imul hx hb dX1_rankToGo_46 ?_
    refine lv_iload_n hx hb dX1_rankToGo_47 rfl (lv_at hl 2 rfl) ?_
    refine lv_iadd hx hb dX1_rankToGo_48 ?_
    obtain ⟨hin, hf⟩ := gd_some hf
    refine kiald C hP 5 rfl hin dX1_rankToGo_49 (j := ((x1 * (16 : Int32)) + x2).toNatClampNeg) rfl ?_
    obtain rfl := Option.some.inj hf
    exact hret _ _ _ _ dX1_rankToGo_50 hP hS
  · rw [if_neg hc1] at hf
    by_cases hc2 : (v_rules 2) = (2 : Int32)
    · rw [if_pos hc2] at hf
      refine lv_lookup (tgt := 51) hx hb dX1_rankToGo_9 rfl (by rw [hc2]; first | done | rfl) (by decide) ?_
      refine lv_aload_n hx hb dX1_rankToGo_51 rfl (lv_at hl 0 rfl) ?_
      refine kget C inX1 hP 0 rfl rfl 1 (by decide) mw_195 rfl dX1_rankToGo_52 ?_
      refine kget C inX0 hP 2 rfl rfl 2 (by decide) mw_57 rfl dX1_rankToGo_55 ?_
      refine lv_iload_n hx hb dX1_rankToGo_58 rfl (lv_at hl 2 rfl) ?_
      refine lv_bipush (v := (6 : Int32)) hx hb dX1_rankToGo_59 (by decide) ?_
      refine lv_imul hx hb dX1_rankToGo_61 ?_
      refine lv_iconst (v := (3 : Int32)) hx hb dX1_rankToGo_62 (by decide) ?_
      refine lv_iadd hx hb dX1_rankToGo_63 ?_
      obtain ⟨hin, hf⟩ := gd_some hf
      refine kiald C hP 3 rfl hin dX1_rankToGo_64 (j := ((x2 * (6 : Int32)) + (3 : Int32)).toNatClampNeg) rfl ?_
      refine lv_ineg hx hb dX1_rankToGo_65 ?_
      obtain rfl := Option.some.inj hf
      exact hret _ _ _ _ dX1_rankToGo_66 hP hS
    · rw [if_neg hc2] at hf
      have hd : W p l e ({ frames := 0, cells := 0, slots := 0, locals := 0 } : Room) s m args below meth c s.heap [] 0 0 Q (F0 m 67 ls []) := by
        refine lv_aload_n hx hb dX1_rankToGo_67 rfl (lv_at hl 0 rfl) ?_
        refine kget C inX1 hP 0 rfl rfl 1 (by decide) mw_195 rfl dX1_rankToGo_68 ?_
        refine kget C inX0 hP 2 rfl rfl 2 (by decide) mw_57 rfl dX1_rankToGo_71 ?_
        refine lv_iload_n hx hb dX1_rankToGo_74 rfl (lv_at hl 2 rfl) ?_
        refine lv_bipush (v := (6 : Int32)) hx hb dX1_rankToGo_75 (by decide) ?_
        refine lv_imul hx hb dX1_rankToGo_77 ?_
        refine lv_iconst (v := (0 : Int32)) hx hb dX1_rankToGo_78 (by decide) ?_
        refine lv_iadd hx hb dX1_rankToGo_79 ?_
        obtain ⟨hin, hf⟩ := gd_some hf
        refine kiald C hP 3 rfl hin dX1_rankToGo_80 (j := ((x2 * (6 : Int32)) + (0 : Int32)).toNatClampNeg) rfl ?_
        refine lv_aload_n hx hb dX1_rankToGo_81 rfl (lv_at hl 0 rfl) ?_
        refine kget C inX1 hP 0 rfl rfl 1 (by decide) mw_195 rfl dX1_rankToGo_82 ?_
        refine kget C inX0 hP 2 rfl rfl 2 (by decide) mw_57 rfl dX1_rankToGo_85 ?_
        refine lv_iload_n hx hb dX1_rankToGo_88 rfl (lv_at hl 2 rfl) ?_
        refine lv_bipush (v := (6 : Int32)) hx hb dX1_rankToGo_89 (by decide) ?_
        refine lv_imul hx hb dX1_rankToGo_91 ?_
        refine lv_iconst (v := (5 : Int32)) hx hb dX1_rankToGo_92 (by decide) ?_
        refine lv_iadd hx hb dX1_rankToGo_93 ?_
        obtain ⟨hin, hf⟩ := gd_some hf
        refine kiald C hP 3 rfl hin dX1_rankToGo_94 (j := ((x2 * (6 : Int32)) + (5 : Int32)).toNatClampNeg) rfl ?_
        refine lv_iadd hx hb dX1_rankToGo_95 ?_
        obtain rfl := Option.some.inj hf
        exact hret _ _ _ _ dX1_rankToGo_96 hP hS
      exact lv_lookup (off := 58) (tgt := 67) hx hb dX1_rankToGo_9 rfl (by show Op.lookupswitch.offset [(1, 27), (2, 42)] _ _ = _; rw [lv_osw hc1 (show ((1 : Int32)).toInt = 1 from rfl), lv_osw hc2 (show ((2 : Int32)).toInt = 2 from rfl)]; first | done | rfl) (by decide) hd
set_option maxHeartbeats 4000000 in
set_option maxRecDepth 100000 in
theorem wX1_firstToGo_7 {p : Program} {l : Launch} {e : Env} {s : State} {m : MethodId} {args : Array Value} {below : List Frame} {meth : Method} {c : Code} {A : Nat → Prop} {Q : State → Prop} {D : va_G} {k : Nat → ClassId} (C : Cx p s m args c cX1_firstToGo 6 RX1 A D k) (h0 h1 h2 h3 h4 h5 h6 : Nat) (z0 z1 z2 z3 z4 z5 z6 z7 z8 z9 z10 z11 z12 z13 z14 z15 : Value) (v_letters : Int32) (v_letterRows : Nat → Int32) (v_rules : Nat → Int32) (v_tokens : Nat → Int32) (v_since : Nat → Int32) (y1 : Int32) : ∀ (f : Nat) (y2 : Int32) (y3 : Int32) (y4 : Int32) (ex : (Int32)) (H : Heap) (locs : List Loc) (ls : Array Slot), fX1_firstToGo_7 v_letters v_letterRows v_rules v_tokens v_since y1 f y2 y3 y4 = some ex → va_P D vwCl (wX1_firstToGo k h0 h1 h2 h3 h4 h5 h6 z0 z1 z2 z3 z4 z5 z6 z7 z8 z9 z10 z11 z12 z13 z14 z15 v_letters v_letterRows v_rules v_tokens v_since) H → va_D A (wX1_firstToGo k h0 h1 h2 h3 h4 h5 h6 z0 z1 z2 z3 z4 z5 z6 z7 z8 z9 z10 z11 z12 z13 z14 z15 v_letters v_letterRows v_rules v_tokens v_since) → va_S A s.heap H locs → lv_has ls 6 [(0, .ref h0), (1, .int y1), (2, .int y2), (3, .int y3), (4, .int y4)] → (∀ (H : Heap) (locs : List Loc) (ls : Array Slot), va_P D vwCl (wX1_firstToGo k h0 h1 h2 h3 h4 h5 h6 z0 z1 z2 z3 z4 z5 z6 z7 z8 z9 z10 z11 z12 z13 z14 z15 v_letters v_letterRows v_rules v_tokens v_since) H → va_D A (wX1_firstToGo k h0 h1 h2 h3 h4 h5 h6 z0 z1 z2 z3 z4 z5 z6 z7 z8 z9 z10 z11 z12 z13 z14 z15 v_letters v_letterRows v_rules v_tokens v_since) → va_S A s.heap H locs → lv_has ls 6 [(2, .int ex)] → W p l e ({ frames := 1, cells := 0, slots := 0, locals := 22 } : Room) s m args below meth c H locs 0 0 Q (F0 m 81 ls [])) → W p l e ({ frames := 1, cells := 0, slots := 0, locals := 22 } : Room) s m args below meth c H locs 0 0 Q (F0 m 7 ls []) := by
  obtain ⟨hx, hb, -⟩ := id C
  intro f
  induction f with
  | zero =>
    intro y2 y3 y4 ex H locs ls hf hP hD hS hl hk
    cases hf
  | succ f ih =>
    intro y2 y3 y4 ex H locs ls hf hP hD hS hl hk
    rw [fX1_firstToGo_7] at hf
    refine lv_iload hx hb dX1_firstToGo_7 (lv_at hl 4 rfl) ?_
    refine lv_aload_n hx hb dX1_firstToGo_9 rfl (lv_at hl 0 rfl) ?_
    refine kget C inX1 hP 0 rfl rfl 1 (by decide) mw_195 rfl dX1_firstToGo_10 ?_
    refine kget C inX0 hP 2 rfl rfl 5 (by decide) mw_68 rfl dX1_firstToGo_13 ?_
    refine lv_icmp_ge (tgt := 81) hx hb dX1_firstToGo_16 (by decide) (fun hc => ?_) (fun hc => ?_)
    · rw [if_pos hc] at hf
      obtain rfl := Option.some.inj hf
      exact hk _ _ _ hP hD hS (lv_sub hl [2] rfl)
    · rw [if_neg hc] at hf
      refine lv_aload_n hx hb dX1_firstToGo_19 rfl (lv_at hl 0 rfl) ?_
      refine kget C inX1 hP 0 rfl rfl 0 (by decide) mw_194 rfl dX1_firstToGo_20 ?_
      refine lv_iload_n hx hb dX1_firstToGo_23 rfl (lv_at hl 1 rfl) ?_
      refine lv_iload hx hb dX1_firstToGo_24 (lv_at hl 4 rfl) ?_
      obtain ⟨q26, hq26, hf⟩ := bd_some hf
      refine kcVi C (kX4_hasCopy (l := l) (D := D) (k := k) h1 h5 (.ref h2) (.ref h4) z4 z5 z6 (.ref h6) z7 z8 z9 z10 z11 v_tokens y1 y4 q26 hq26) mt_X4_hasCopy mw_494 ⟨rfl, rfl, Nat.le_of_ble_eq_true rfl, Nat.le_of_ble_eq_true rfl⟩ hP hD hS 1 rfl rfl rfl [1, 5] rfl rfl [none, some 0, none, none, none, some 1, none] rfl rfl (w2 := (wX1_firstToGo k h0 h1 h2 h3 h4 h5 h6 z0 z1 z2 z3 z4 z5 z6 z7 z8 z9 z10 z11 z12 z13 z14 z15 v_letters v_letterRows v_rules v_tokens v_since)) rfl rfl rfl hl.1 (rest := []) (Nat.le_of_ble_eq_true rfl) rfl dX1_firstToGo_26 ⟨Nat.zero_le _, Nat.zero_le _⟩ (fun H locs hP hD hS => ?_)
      refine lv_if_eq (tgt := 75) hx hb dX1_firstToGo_29 (by decide) (fun hc => ?_) (fun hc => ?_)
      · rw [if_pos hc] at hf
        refine lv_iinc (v := (y4 + (1 : Int32))) (lv' := [(4, .int (y4 + (1 : Int32))), (0, .ref h0), (1, .int y1), (2, .int y2), (3, .int y3)]) hx hb dX1_firstToGo_75 hl (k := 4) rfl rfl (by decide) rfl (fun ls hl => ?_)
        refine lv_goto (tgt := 7) hx hb dX1_firstToGo_78 (by decide) ?_
        exact ih y2 y3 (y4 + (1 : Int32)) _ _ _ _ hf hP hD hS (lv_sub hl [1, 2, 3, 4, 0] rfl) hk
      · rw [if_neg hc] at hf
        refine lv_aload_n hx hb dX1_firstToGo_32 rfl (lv_at hl 0 rfl) ?_
        refine kget C inX1 hP 0 rfl rfl 1 (by decide) mw_195 rfl dX1_firstToGo_33 ?_
        refine lv_iload hx hb dX1_firstToGo_36 (lv_at hl 4 rfl) ?_
        refine lv_iconst (v := (1 : Int32)) hx hb dX1_firstToGo_38 (by decide) ?_
        obtain ⟨q39, hq39, hf⟩ := bd_some hf
        refine kcVi C (kX0_ofLetter (l := l) (D := D) (k := k) h2 h3 z12 z13 z14 z15 (.int v_letters) v_letterRows y4 (1 : Int32) q39 hq39) mt_X0_ofLetter mw_499 ⟨rfl, rfl, Nat.le_of_ble_eq_true rfl, Nat.le_of_ble_eq_true rfl⟩ hP hD hS 2 rfl rfl rfl [2, 3] rfl rfl [none, none, some 0, some 1, none, none, none] rfl rfl (w2 := (wX1_firstToGo k h0 h1 h2 h3 h4 h5 h6 z0 z1 z2 z3 z4 z5 z6 z7 z8 z9 z10 z11 z12 z13 z14 z15 v_letters v_letterRows v_rules v_tokens v_since)) rfl rfl rfl hl.1 (rest := []) (Nat.le_of_ble_eq_true rfl) rfl dX1_firstToGo_39 ⟨Nat.zero_le _, Nat.zero_le _⟩ (fun H locs hP hD hS => ?_)
        refine lv_iload_n hx hb dX1_firstToGo_42 rfl (lv_at hl 1 rfl) ?_
        refine lv_icmp_ne (tgt := 49) hx hb dX1_firstToGo_43 (by decide) (fun hc => ?_) (fun hc => ?_)
        · rw [if_neg hc] at hf
          refine lv_aload_n hx hb dX1_firstToGo_49 rfl (lv_at hl 0 rfl) ?_
          refine lv_iload_n hx hb dX1_firstToGo_50 rfl (lv_at hl 1 rfl) ?_
          refine lv_iload hx hb dX1_firstToGo_51 (lv_at hl 4 rfl) ?_
          obtain ⟨q53, hq53, hf⟩ := bd_some hf
          refine kcVi C (kX1_rankToGo (l := l) (D := D) (k := k) h0 h1 h2 h3 h4 h6 z0 z1 z2 z3 z4 z5 (.ref h5) z6 z7 z8 z9 z10 z11 z12 z13 z14 z15 (.int v_letters) v_letterRows v_rules v_since y1 y4 q53 hq53) mt_X1_rankToGo mw_596 ⟨rfl, rfl, Nat.le_of_ble_eq_true rfl, Nat.le_of_ble_eq_true rfl⟩ hP hD hS 0 rfl rfl rfl [0, 1, 2, 3, 4, 6] rfl rfl [some 0, some 1, some 2, some 3, some 4, none, some 5] rfl rfl (w2 := (wX1_firstToGo k h0 h1 h2 h3 h4 h5 h6 z0 z1 z2 z3 z4 z5 z6 z7 z8 z9 z10 z11 z12 z13 z14 z15 v_letters v_letterRows v_rules v_tokens v_since)) rfl rfl rfl hl.1 (rest := []) (Nat.le_of_ble_eq_true rfl) rfl dX1_firstToGo_53 ⟨Nat.zero_le _, Nat.zero_le _⟩ (fun H locs hP hD hS => ?_)
          refine lv_istore (lv' := [(5, .int q53), (0, .ref h0), (1, .int y1), (2, .int y2), (3, .int y3), (4, .int y4)]) hx hb dX1_firstToGo_56 hl (by decide) rfl (fun ls hl => ?_)
          refine lv_iload_n hx hb dX1_firstToGo_58 rfl (lv_at hl 3 rfl) ?_
          refine lv_iconst (v := (-1 : Int32)) hx hb dX1_firstToGo_59 (by decide) ?_
          refine lv_icmp_eq (tgt := 69) hx hb dX1_firstToGo_60 (by decide) (fun hc => ?_) (fun hc => ?_)
          · rw [if_pos hc] at hf
            refine lv_iload hx hb dX1_firstToGo_69 (lv_at hl 5 rfl) ?_
            refine lv_istore_n (lv' := [(2, .int y4), (5, .int q53), (0, .ref h0), (1, .int y1), (3, .int y3), (4, .int y4)]) hx hb dX1_firstToGo_71 rfl hl (by decide) rfl (fun ls hl => ?_)
            refine lv_iload hx hb dX1_firstToGo_72 (lv_at hl 1 rfl) ?_
            refine lv_istore_n (lv' := [(3, .int q53), (2, .int y4), (5, .int q53), (0, .ref h0), (1, .int y1), (4, .int y4)]) hx hb dX1_firstToGo_74 rfl hl (by decide) rfl (fun ls hl => ?_)
            refine lv_iinc (v := (y4 + (1 : Int32))) (lv' := [(4, .int (y4 + (1 : Int32))), (3, .int q53), (2, .int y4), (5, .int q53), (0, .ref h0), (1, .int y1)]) hx hb dX1_firstToGo_75 hl (k := 5) rfl rfl (by decide) rfl (fun ls hl => ?_)
            refine lv_goto (tgt := 7) hx hb dX1_firstToGo_78 (by decide) ?_
            exact ih y4 q53 (y4 + (1 : Int32)) _ _ _ _ hf hP hD hS (lv_sub hl [4, 5, 2, 1, 0] rfl) hk
          · rw [if_neg hc] at hf
            refine lv_iload hx hb dX1_firstToGo_63 (lv_at hl 0 rfl) ?_
            refine lv_iload_n hx hb dX1_firstToGo_65 rfl (lv_at hl 4 rfl) ?_
            refine lv_icmp_ge (tgt := 75) hx hb dX1_firstToGo_66 (by decide) (fun hc => ?_) (fun hc => ?_)
            · rw [if_pos hc] at hf
              refine lv_iinc (v := (y4 + (1 : Int32))) (lv' := [(4, .int (y4 + (1 : Int32))), (5, .int q53), (0, .ref h0), (1, .int y1), (2, .int y2), (3, .int y3)]) hx hb dX1_firstToGo_75 hl (k := 5) rfl rfl (by decide) rfl (fun ls hl => ?_)
              refine lv_goto (tgt := 7) hx hb dX1_firstToGo_78 (by decide) ?_
              exact ih y2 y3 (y4 + (1 : Int32)) _ _ _ _ hf hP hD hS (lv_sub hl [2, 3, 4, 5, 0] rfl) hk
            · rw [if_neg hc] at hf
              refine lv_iload hx hb dX1_firstToGo_69 (lv_at hl 5 rfl) ?_
              refine lv_istore_n (lv' := [(2, .int y4), (5, .int q53), (0, .ref h0), (1, .int y1), (3, .int y3), (4, .int y4)]) hx hb dX1_firstToGo_71 rfl hl (by decide) rfl (fun ls hl => ?_)
              refine lv_iload hx hb dX1_firstToGo_72 (lv_at hl 1 rfl) ?_
              refine lv_istore_n (lv' := [(3, .int q53), (2, .int y4), (5, .int q53), (0, .ref h0), (1, .int y1), (4, .int y4)]) hx hb dX1_firstToGo_74 rfl hl (by decide) rfl (fun ls hl => ?_)
              refine lv_iinc (v := (y4 + (1 : Int32))) (lv' := [(4, .int (y4 + (1 : Int32))), (3, .int q53), (2, .int y4), (5, .int q53), (0, .ref h0), (1, .int y1)]) hx hb dX1_firstToGo_75 hl (k := 5) rfl rfl (by decide) rfl (fun ls hl => ?_)
              refine lv_goto (tgt := 7) hx hb dX1_firstToGo_78 (by decide) ?_
              exact ih y4 q53 (y4 + (1 : Int32)) _ _ _ _ hf hP hD hS (lv_sub hl [4, 5, 2, 1, 0] rfl) hk
        · rw [if_pos hc] at hf
          refine lv_goto (tgt := 75) hx hb dX1_firstToGo_46 (by decide) ?_
          refine lv_iinc (v := (y4 + (1 : Int32))) (lv' := [(4, .int (y4 + (1 : Int32))), (0, .ref h0), (1, .int y1), (2, .int y2), (3, .int y3)]) hx hb dX1_firstToGo_75 hl (k := 4) rfl rfl (by decide) rfl (fun ls hl => ?_)
          refine lv_goto (tgt := 7) hx hb dX1_firstToGo_78 (by decide) ?_
          exact ih y2 y3 (y4 + (1 : Int32)) _ _ _ _ hf hP hD hS (lv_sub hl [1, 2, 3, 4, 0] rfl) hk
set_option maxHeartbeats 4000000 in
set_option maxRecDepth 100000 in
theorem kX1_firstToGo {l : Launch} {D : va_G} {k : Nat → ClassId} (h0 h1 h2 h3 h4 h5 h6 : Nat) (z0 z1 z2 z3 z4 z5 z6 z7 z8 z9 z10 z11 z12 z13 z14 z15 : Value) (v_letters : Int32) (v_letterRows : Nat → Int32) (v_rules : Nat → Int32) (v_tokens : Nat → Int32) (v_since : Nat → Int32) (x1 : Int32) (q : Int32) (hf : fX1_firstToGo v_letters v_letterRows v_rules v_tokens v_since x1 = some q) : KMi l yX1_firstToGo cX1_firstToGo 6 (some .int) ({ frames := 1, cells := 0, slots := 0, locals := 22 } : Room) D k [.ref h0, .int x1] (wX1_firstToGo k h0 h1 h2 h3 h4 h5 h6 z0 z1 z2 z3 z4 z5 z6 z7 z8 z9 z10 z11 z12 z13 z14 z15 v_letters v_letterRows v_rules v_tokens v_since) q (wX1_firstToGo k h0 h1 h2 h3 h4 h5 h6 z0 z1 z2 z3 z4 z5 z6 z7 z8 z9 z10 z11 z12 z13 z14 z15 v_letters v_letterRows v_rules v_tokens v_since) := by
  refine kent_i (by decide) (Nat.le_of_ble_eq_true rfl) ?_
  intro p e s m below meth c A Q ls C hP hD hS hl hret
  obtain ⟨hx, hb, -⟩ := id C
  have hl : lv_has ls 6 [(0, .ref h0), (1, .int x1)] := hl
  unfold fX1_firstToGo at hf
  generalize ([.ref h0, .int x1] : List Value).toArray = args at *
  refine lv_iconst (v := (-1 : Int32)) hx hb dX1_firstToGo_0 (by decide) ?_
  refine lv_istore_n (lv' := [(2, .int (-1 : Int32)), (0, .ref h0), (1, .int x1)]) hx hb dX1_firstToGo_1 rfl hl (by decide) rfl (fun ls hl => ?_)
  refine lv_iconst (v := (0 : Int32)) hx hb dX1_firstToGo_2 (by decide) ?_
  refine lv_istore_n (lv' := [(3, .int (0 : Int32)), (2, .int (-1 : Int32)), (0, .ref h0), (1, .int x1)]) hx hb dX1_firstToGo_3 rfl hl (by decide) rfl (fun ls hl => ?_)
  refine lv_iconst (v := (0 : Int32)) hx hb dX1_firstToGo_4 (by decide) ?_
  refine lv_istore (lv' := [(4, .int (0 : Int32)), (3, .int (0 : Int32)), (2, .int (-1 : Int32)), (0, .ref h0), (1, .int x1)]) hx hb dX1_firstToGo_5 hl (by decide) rfl (fun ls hl => ?_)
  obtain ⟨ex7, hv, hf⟩ := bd_some hf
  refine wX1_firstToGo_7 C h0 h1 h2 h3 h4 h5 h6 z0 z1 z2 z3 z4 z5 z6 z7 z8 z9 z10 z11 z12 z13 z14 z15 v_letters v_letterRows v_rules v_tokens v_since x1 FU (-1 : Int32) (0 : Int32) (0 : Int32) ex7 _ _ _ hv hP hD hS (lv_sub hl [3, 4, 2, 1, 0] rfl) (fun H locs ls hP hD hS hl => ?_)
  refine lv_iload_n hx hb dX1_firstToGo_81 rfl (lv_at hl 0 rfl) ?_
  obtain rfl := Option.some.inj hf
  exact hret _ _ _ _ dX1_firstToGo_82 hP hS
set_option maxHeartbeats 4000000 in
set_option maxRecDepth 100000 in
theorem wX1_makeRoom_22 {p : Program} {l : Launch} {e : Env} {s : State} {m : MethodId} {args : Array Value} {below : List Frame} {meth : Method} {c : Code} {A : Nat → Prop} {Q : State → Prop} {D : va_G} {k : Nat → ClassId} (C : Cx p s m args c cX1_makeRoom 6 RX1 A D k) (h0 h1 h2 h3 h4 h5 h6 h7 h8 : Nat) (z0 z1 z2 z3 z4 z5 z6 z7 z8 z9 z10 z11 z12 z13 : Value) (v_letters : Int32) (v_rooms : Nat → Int32) (v_letterRows : Nat → Int32) (v_rules : Nat → Int32) (v_since : Nat → Int32) (y1 : Int32) : ∀ (f : Nat) (v_counts : Nat → Int32) (v_tokens : Nat → Int32) (y3 : Int32) (y4 : Int32) (u : ((Nat → Int32) × (Nat → Int32)) ⊕ ((Nat → Int32) × (Nat → Int32))) (H : Heap) (locs : List Loc) (ls : Array Slot), fX1_makeRoom_22 v_letters v_rooms v_letterRows v_rules v_since y1 f v_counts v_tokens y3 y4 = some u → va_P D vwCl (wX1_makeRoom k h0 h1 h2 h3 h4 h5 h6 h7 h8 z0 z1 z2 z3 z4 z5 z6 z7 z8 z9 z10 z11 z12 z13 v_letters v_rooms v_letterRows v_rules v_counts v_tokens v_since) H → va_D A (wX1_makeRoom k h0 h1 h2 h3 h4 h5 h6 h7 h8 z0 z1 z2 z3 z4 z5 z6 z7 z8 z9 z10 z11 z12 z13 v_letters v_rooms v_letterRows v_rules v_counts v_tokens v_since) → va_S A s.heap H locs → lv_has ls 6 [(0, .ref h0), (1, .int y1), (3, .int y3), (4, .int y4)] → (∀ ex, u = .inr ex → ∀ (H : Heap) (locs : List Loc) (ls : Array Slot), va_P D vwCl (wX1_makeRoom k h0 h1 h2 h3 h4 h5 h6 h7 h8 z0 z1 z2 z3 z4 z5 z6 z7 z8 z9 z10 z11 z12 z13 v_letters v_rooms v_letterRows v_rules ex.1 ex.2 v_since) H → va_D A (wX1_makeRoom k h0 h1 h2 h3 h4 h5 h6 h7 h8 z0 z1 z2 z3 z4 z5 z6 z7 z8 z9 z10 z11 z12 z13 v_letters v_rooms v_letterRows v_rules ex.1 ex.2 v_since) → va_S A s.heap H locs → lv_has ls 6 [] → W p l e ({ frames := 2, cells := 0, slots := 0, locals := 47 } : Room) s m args below meth c H locs 0 0 Q (F0 m 98 ls [])) → (∀ t, u = .inl t → ∀ (H : Heap) (locs : List Loc) (ls : Array Slot) (pc : Nat), decode cX1_makeRoom pc = .ok (.return_, 1) → va_P D vwCl (wX1_makeRoom k h0 h1 h2 h3 h4 h5 h6 h7 h8 z0 z1 z2 z3 z4 z5 z6 z7 z8 z9 z10 z11 z12 z13 v_letters v_rooms v_letterRows v_rules t.1 t.2 v_since) H → va_S A s.heap H locs → W p l e ({ frames := 2, cells := 0, slots := 0, locals := 47 } : Room) s m args below meth c H locs 0 0 Q (F0 m pc ls [])) → W p l e ({ frames := 2, cells := 0, slots := 0, locals := 47 } : Room) s m args below meth c H locs 0 0 Q (F0 m 22 ls []) := by
  obtain ⟨hx, hb, -⟩ := id C
  intro f
  induction f with
  | zero =>
    intro v_counts v_tokens y3 y4 u H locs ls hf hP hD hS hl hk hr
    cases hf
  | succ f ih =>
    intro v_counts v_tokens y3 y4 u H locs ls hf hP hD hS hl hk hr
    rw [fX1_makeRoom_22] at hf
    refine lv_iload hx hb dX1_makeRoom_22 (lv_at hl 3 rfl) ?_
    refine lv_bipush (v := (16 : Int32)) hx hb dX1_makeRoom_24 (by decide) ?_
    refine lv_icmp_ge (tgt := 98) hx hb dX1_makeRoom_26 (by decide) (fun hc => ?_) (fun hc => ?_)
    · rw [if_pos hc] at hf
      obtain rfl := Option.some.inj hf
      exact hk _ rfl _ _ _ hP hD hS (lv_sub hl [] rfl)
    · rw [if_neg hc] at hf
      refine lv_iload_n hx hb dX1_makeRoom_29 rfl (lv_at hl 2 rfl) ?_
      refine lv_aload_n hx hb dX1_makeRoom_30 rfl (lv_at hl 0 rfl) ?_
      refine kget C inX1 hP 0 rfl rfl 1 (by decide) mw_195 rfl dX1_makeRoom_31 ?_
      refine kget C inX0 hP 2 rfl rfl 0 (by decide) mw_54 rfl dX1_makeRoom_34 ?_
      refine lv_iload_n hx hb dX1_makeRoom_37 rfl (lv_at hl 1 rfl) ?_
      obtain ⟨hin, hf⟩ := gd_some hf
      refine kiald C hP 3 rfl hin dX1_makeRoom_38 (j := y1.toNatClampNeg) rfl ?_
      refine lv_icmp_le (tgt := 98) hx hb dX1_makeRoom_39 (by decide) (fun hc => ?_) (fun hc => ?_)
      · rw [if_pos hc] at hf
        obtain rfl := Option.some.inj hf
        exact hk _ rfl _ _ _ hP hD hS (lv_sub hl [] rfl)
      · rw [if_neg hc] at hf
        refine lv_aload_n hx hb dX1_makeRoom_42 rfl (lv_at hl 0 rfl) ?_
        refine lv_iload_n hx hb dX1_makeRoom_43 rfl (lv_at hl 1 rfl) ?_
        obtain ⟨q44, hq44, hf⟩ := bd_some hf
        refine kcVi C (kX1_firstToGo (l := l) (D := D) (k := k) h0 h1 h2 h4 h5 h7 h8 z0 z1 z2 z3 (.ref h6) z4 z5 z6 z7 z8 z9 z10 (.ref h3) z11 z12 z13 v_letters v_letterRows v_rules v_tokens v_since y1 q44 hq44) mt_X1_firstToGo mw_592 ⟨rfl, rfl, Nat.le_of_ble_eq_true rfl, Nat.le_of_ble_eq_true rfl⟩ hP hD hS 0 rfl rfl rfl [0, 1, 2, 4, 5, 7, 8] rfl rfl [some 0, some 1, some 2, none, some 3, some 4, none, some 5, some 6] rfl rfl (w2 := (wX1_makeRoom k h0 h1 h2 h3 h4 h5 h6 h7 h8 z0 z1 z2 z3 z4 z5 z6 z7 z8 z9 z10 z11 z12 z13 v_letters v_rooms v_letterRows v_rules v_counts v_tokens v_since)) rfl rfl rfl hl.1 (rest := []) (Nat.le_of_ble_eq_true rfl) rfl dX1_makeRoom_44 ⟨Nat.zero_le _, Nat.zero_le _⟩ (fun H locs hP hD hS => ?_)
        refine lv_istore (lv' := [(5, .int q44), (0, .ref h0), (1, .int y1), (3, .int y3), (4, .int y4)]) hx hb dX1_makeRoom_47 hl (by decide) rfl (fun ls hl => ?_)
        refine lv_iload hx hb dX1_makeRoom_49 (lv_at hl 0 rfl) ?_
        refine lv_iconst (v := (-1 : Int32)) hx hb dX1_makeRoom_51 (by decide) ?_
        refine lv_icmp_ne (tgt := 56) hx hb dX1_makeRoom_52 (by decide) (fun hc => ?_) (fun hc => ?_)
        · rw [if_neg hc] at hf
          refine lv_iload_n hx hb dX1_makeRoom_56 rfl (lv_at hl 3 rfl) ?_
          refine lv_aload_n hx hb dX1_makeRoom_57 rfl (lv_at hl 1 rfl) ?_
          refine kget C inX1 hP 0 rfl rfl 1 (by decide) mw_195 rfl dX1_makeRoom_58 ?_
          refine lv_iload hx hb dX1_makeRoom_61 (lv_at hl 0 rfl) ?_
          refine lv_iconst (v := (3 : Int32)) hx hb dX1_makeRoom_63 (by decide) ?_
          obtain ⟨q64, hq64, hf⟩ := bd_some hf
          refine kcVi C (kX0_ofLetter (l := l) (D := D) (k := k) h2 h4 (.ref h3) z11 z12 z13 (.int v_letters) v_letterRows q44 (3 : Int32) q64 hq64) mt_X0_ofLetter mw_499 ⟨rfl, rfl, Nat.le_of_ble_eq_true rfl, Nat.le_of_ble_eq_true rfl⟩ hP hD hS 2 rfl rfl rfl [2, 4] rfl rfl [none, none, some 0, none, some 1, none, none, none, none] rfl rfl (w2 := (wX1_makeRoom k h0 h1 h2 h3 h4 h5 h6 h7 h8 z0 z1 z2 z3 z4 z5 z6 z7 z8 z9 z10 z11 z12 z13 v_letters v_rooms v_letterRows v_rules v_counts v_tokens v_since)) rfl rfl rfl hl.1 (rest := [.int y3]) (Nat.le_of_ble_eq_true rfl) rfl dX1_makeRoom_64 ⟨Nat.zero_le _, Nat.zero_le _⟩ (fun H locs hP hD hS => ?_)
          refine lv_isub hx hb dX1_makeRoom_67 ?_
          refine lv_istore_n (lv' := [(3, .int (y3 - q64)), (5, .int q44), (0, .ref h0), (1, .int y1), (4, .int y4)]) hx hb dX1_makeRoom_68 rfl hl (by decide) rfl (fun ls hl => ?_)
          refine lv_aload_n hx hb dX1_makeRoom_69 rfl (lv_at hl 2 rfl) ?_
          refine kget C inX1 hP 0 rfl rfl 0 (by decide) mw_194 rfl dX1_makeRoom_70 ?_
          refine lv_iload_n hx hb dX1_makeRoom_73 rfl (lv_at hl 3 rfl) ?_
          refine lv_iload hx hb dX1_makeRoom_74 (lv_at hl 1 rfl) ?_
          obtain ⟨q76, hq76, hf⟩ := bd_some hf
          refine kcVv C (kX4_removeCopy (l := l) (D := D) (k := k) h1 h7 (.ref h2) (.ref h5) (.ref h6) z4 z5 (.ref h8) z6 z7 z8 z9 z10 v_tokens y1 q44 q76 hq76) mt_X4_removeCopy mw_580 ⟨rfl, rfl, Nat.le_of_ble_eq_true rfl, Nat.le_of_ble_eq_true rfl⟩ hP hD hS 1 rfl rfl rfl [1, 7] rfl rfl [none, some 0, none, none, none, none, none, some 1, none] rfl rfl (w2 := (wX1_makeRoom k h0 h1 h2 h3 h4 h5 h6 h7 h8 z0 z1 z2 z3 z4 z5 z6 z7 z8 z9 z10 z11 z12 z13 v_letters v_rooms v_letterRows v_rules v_counts q76 v_since)) rfl rfl rfl hl.1 (rest := []) (Nat.le_of_ble_eq_true rfl) rfl dX1_makeRoom_76 ⟨Nat.zero_le _, Nat.zero_le _⟩ (fun H locs hP hD hS => ?_)
          refine lv_aload_n hx hb dX1_makeRoom_79 rfl (lv_at hl 2 rfl) ?_
          refine kget C inX1 hP 0 rfl rfl 0 (by decide) mw_194 rfl dX1_makeRoom_80 ?_
          refine kget C inX4 hP 1 rfl rfl 2 (by decide) mw_136 rfl dX1_makeRoom_83 ?_
          refine lv_iconst (v := (2 : Int32)) hx hb dX1_makeRoom_86 (by decide) ?_
          refine lv_dup2_11 hx hb dX1_makeRoom_87 rfl rfl ?_
          refine kiald C hP 6 rfl (by unfold vp_in; decide) dX1_makeRoom_88 (j := 2) (by decide) ?_
          refine lv_iconst (v := (1 : Int32)) hx hb dX1_makeRoom_89 (by decide) ?_
          refine lv_iadd hx hb dX1_makeRoom_90 ?_
          obtain ⟨v_counts_91, hn91, hf⟩ := nm_some hf
          refine kiast C hP hD hS 6 rfl (by unfold vp_in; decide) dX1_makeRoom_91 (j := 2) (by decide) (g := v_counts_91) hn91 (w2 := (wX1_makeRoom k h0 h1 h2 h3 h4 h5 h6 h7 h8 z0 z1 z2 z3 z4 z5 z6 z7 z8 z9 z10 z11 z12 z13 v_letters v_rooms v_letterRows v_rules v_counts_91 q76 v_since)) rfl (fun H locs hP hD hS => ?_)
          refine lv_iinc (v := (y4 + (1 : Int32))) (lv' := [(4, .int (y4 + (1 : Int32))), (3, .int (y3 - q64)), (5, .int q44), (0, .ref h0), (1, .int y1)]) hx hb dX1_makeRoom_92 hl (k := 4) rfl rfl (by decide) rfl (fun ls hl => ?_)
          refine lv_goto (tgt := 22) hx hb dX1_makeRoom_95 (by decide) ?_
          exact ih v_counts_91 q76 (y3 - q64) (y4 + (1 : Int32)) _ _ _ _ hf hP hD hS (lv_sub hl [3, 4, 1, 0] rfl) hk hr
        · rw [if_pos hc] at hf
          obtain rfl := Option.some.inj hf
          exact hr _ rfl _ _ _ _ dX1_makeRoom_55 hP hS
set_option maxHeartbeats 4000000 in
set_option maxRecDepth 100000 in
theorem kX1_makeRoom {l : Launch} {D : va_G} {k : Nat → ClassId} (h0 h1 h2 h3 h4 h5 h6 h7 h8 : Nat) (z0 z1 z2 z3 z4 z5 z6 z7 z8 z9 z10 z11 z12 z13 : Value) (v_letters : Int32) (v_rooms : Nat → Int32) (v_letterRows : Nat → Int32) (v_rules : Nat → Int32) (v_counts : Nat → Int32) (v_tokens : Nat → Int32) (v_since : Nat → Int32) (x1 : Int32) (x2 : Int32) (q : (Nat → Int32) × (Nat → Int32)) (hf : fX1_makeRoom v_letters v_rooms v_letterRows v_rules v_counts v_tokens v_since x1 x2 = some q) : KMv l yX1_makeRoom cX1_makeRoom 6 ({ frames := 2, cells := 0, slots := 0, locals := 47 } : Room) D k [.ref h0, .int x1, .int x2] (wX1_makeRoom k h0 h1 h2 h3 h4 h5 h6 h7 h8 z0 z1 z2 z3 z4 z5 z6 z7 z8 z9 z10 z11 z12 z13 v_letters v_rooms v_letterRows v_rules v_counts v_tokens v_since) (wX1_makeRoom k h0 h1 h2 h3 h4 h5 h6 h7 h8 z0 z1 z2 z3 z4 z5 z6 z7 z8 z9 z10 z11 z12 z13 v_letters v_rooms v_letterRows v_rules q.1 q.2 v_since) := by
  refine kent_v (by decide) (Nat.le_of_ble_eq_true rfl) ?_
  intro p e s m below meth c A Q ls C hP hD hS hl hret
  obtain ⟨hx, hb, -⟩ := id C
  have hl : lv_has ls 6 [(0, .ref h0), (1, .int x1), (2, .int x2)] := hl
  unfold fX1_makeRoom at hf
  generalize ([.ref h0, .int x1, .int x2] : List Value).toArray = args at *
  refine lv_aload_n hx hb dX1_makeRoom_0 rfl (lv_at hl 0 rfl) ?_
  refine kget C inX1 hP 0 rfl rfl 0 (by decide) mw_194 rfl dX1_makeRoom_1 ?_
  refine lv_iload_n hx hb dX1_makeRoom_4 rfl (lv_at hl 1 rfl) ?_
  obtain ⟨q5, hq5, hf⟩ := bd_some hf
  refine kcVi C (kX4_loadOf (l := l) (D := D) (k := k) h1 h2 h4 h7 (.ref h5) (.ref h6) z4 z5 (.ref h8) z6 z7 z8 z9 z10 (.ref h3) z11 z12 z13 v_letters v_letterRows v_tokens x1 q5 hq5) mt_X4_loadOf mw_559 ⟨rfl, rfl, Nat.le_of_ble_eq_true rfl, Nat.le_of_ble_eq_true rfl⟩ hP hD hS 1 rfl rfl rfl [1, 2, 4, 7] rfl rfl [none, some 0, some 1, none, some 2, none, none, some 3, none] rfl rfl (w2 := (wX1_makeRoom k h0 h1 h2 h3 h4 h5 h6 h7 h8 z0 z1 z2 z3 z4 z5 z6 z7 z8 z9 z10 z11 z12 z13 v_letters v_rooms v_letterRows v_rules v_counts v_tokens v_since)) rfl rfl rfl hl.1 (rest := []) (Nat.le_of_ble_eq_true rfl) rfl dX1_makeRoom_5 ⟨Nat.zero_le _, Nat.zero_le _⟩ (fun H locs hP hD hS => ?_)
  refine lv_aload_n hx hb dX1_makeRoom_8 rfl (lv_at hl 0 rfl) ?_
  refine kget C inX1 hP 0 rfl rfl 1 (by decide) mw_195 rfl dX1_makeRoom_9 ?_
  refine lv_iload_n hx hb dX1_makeRoom_12 rfl (lv_at hl 2 rfl) ?_
  refine lv_iconst (v := (3 : Int32)) hx hb dX1_makeRoom_13 (by decide) ?_
  obtain ⟨q14, hq14, hf⟩ := bd_some hf
  refine kcVi C (kX0_ofLetter (l := l) (D := D) (k := k) h2 h4 (.ref h3) z11 z12 z13 (.int v_letters) v_letterRows x2 (3 : Int32) q14 hq14) mt_X0_ofLetter mw_499 ⟨rfl, rfl, Nat.le_of_ble_eq_true rfl, Nat.le_of_ble_eq_true rfl⟩ hP hD hS 2 rfl rfl rfl [2, 4] rfl rfl [none, none, some 0, none, some 1, none, none, none, none] rfl rfl (w2 := (wX1_makeRoom k h0 h1 h2 h3 h4 h5 h6 h7 h8 z0 z1 z2 z3 z4 z5 z6 z7 z8 z9 z10 z11 z12 z13 v_letters v_rooms v_letterRows v_rules v_counts v_tokens v_since)) rfl rfl rfl hl.1 (rest := [.int q5]) (Nat.le_of_ble_eq_true rfl) rfl dX1_makeRoom_14 ⟨Nat.zero_le _, Nat.zero_le _⟩ (fun H locs hP hD hS => ?_)
  refine lv_iadd hx hb dX1_makeRoom_17 ?_
  refine lv_istore_n (lv' := [(3, .int (q5 + q14)), (0, .ref h0), (1, .int x1), (2, .int x2)]) hx hb dX1_makeRoom_18 rfl hl (by decide) rfl (fun ls hl => ?_)
  refine lv_iconst (v := (0 : Int32)) hx hb dX1_makeRoom_19 (by decide) ?_
  refine lv_istore (lv' := [(4, .int (0 : Int32)), (3, .int (q5 + q14)), (0, .ref h0), (1, .int x1), (2, .int x2)]) hx hb dX1_makeRoom_20 hl (by decide) rfl (fun ls hl => ?_)
  obtain ⟨u22, hv, hf⟩ := lp_some hf
  refine wX1_makeRoom_22 C h0 h1 h2 h3 h4 h5 h6 h7 h8 z0 z1 z2 z3 z4 z5 z6 z7 z8 z9 z10 z11 z12 z13 v_letters v_rooms v_letterRows v_rules v_since x1 FU v_counts v_tokens (q5 + q14) (0 : Int32) u22 _ _ _ hv hP hD hS (lv_sub hl [2, 3, 1, 0] rfl) (fun ex22 ht H locs ls hP hD hS hl => ?_) (fun t ht H locs ls pc hdg hP hS => ?_)
  · subst ht
    obtain rfl := Option.some.inj hf
    exact hret _ _ _ _ dX1_makeRoom_98 hP hS
  · subst ht
    obtain rfl := Option.some.inj hf
    exact hret _ _ _ _ hdg hP hS
set_option maxHeartbeats 4000000 in
set_option maxRecDepth 100000 in
theorem kX1_bear {l : Launch} {D : va_G} {k : Nat → ClassId} (h0 h1 h2 h3 h4 h5 h6 h7 h8 h9 : Nat) (z0 z1 z2 z3 z4 z5 z6 z7 z8 z9 z10 z11 : Value) (v_clock : Int32) (v_letters : Int32) (v_rooms : Nat → Int32) (v_letterRows : Nat → Int32) (v_rules : Nat → Int32) (v_counts : Nat → Int32) (v_tokens : Nat → Int32) (v_hops : Nat → Int32) (v_since : Nat → Int32) (x1 : Int32) (q : (Nat → Int32) × (Nat → Int32) × (Nat → Int32) × (Nat → Int32)) (hf : fX1_bear v_clock v_letters v_rooms v_letterRows v_rules v_counts v_tokens v_hops v_since x1 = some q) : KMv l yX1_bear cX1_bear 3 ({ frames := 3, cells := 0, slots := 0, locals := 72 } : Room) D k [.ref h0, .int x1] (wX1_bear k h0 h1 h2 h3 h4 h5 h6 h7 h8 h9 z0 z1 z2 z3 z4 z5 z6 z7 z8 z9 z10 z11 v_clock v_letters v_rooms v_letterRows v_rules v_counts v_tokens v_hops v_since) (wX1_bear k h0 h1 h2 h3 h4 h5 h6 h7 h8 h9 z0 z1 z2 z3 z4 z5 z6 z7 z8 z9 z10 z11 v_clock v_letters v_rooms v_letterRows v_rules q.1 q.2.1 q.2.2.1 q.2.2.2) := by
  refine kent_v (by decide) (Nat.le_of_ble_eq_true rfl) ?_
  intro p e s m below meth c A Q ls C hP hD hS hl hret
  obtain ⟨hx, hb, -⟩ := id C
  have hl : lv_has ls 3 [(0, .ref h0), (1, .int x1)] := hl
  unfold fX1_bear at hf
  generalize ([.ref h0, .int x1] : List Value).toArray = args at *
  refine lv_aload_n hx hb dX1_bear_0 rfl (lv_at hl 0 rfl) ?_
  refine kget C inX1 hP 0 rfl rfl 1 (by decide) mw_195 rfl dX1_bear_1 ?_
  refine lv_iload_n hx hb dX1_bear_4 rfl (lv_at hl 1 rfl) ?_
  refine lv_iconst (v := (1 : Int32)) hx hb dX1_bear_5 (by decide) ?_
  obtain ⟨q6, hq6, hf⟩ := bd_some hf
  refine kcVi C (kX0_ofLetter (l := l) (D := D) (k := k) h2 h4 (.ref h3) z9 z10 z11 (.int v_letters) v_letterRows x1 (1 : Int32) q6 hq6) mt_X0_ofLetter mw_499 ⟨rfl, rfl, Nat.le_of_ble_eq_true rfl, Nat.le_of_ble_eq_true rfl⟩ hP hD hS 2 rfl rfl rfl [2, 4] rfl rfl [none, none, some 0, none, some 1, none, none, none, none, none] rfl rfl (w2 := (wX1_bear k h0 h1 h2 h3 h4 h5 h6 h7 h8 h9 z0 z1 z2 z3 z4 z5 z6 z7 z8 z9 z10 z11 v_clock v_letters v_rooms v_letterRows v_rules v_counts v_tokens v_hops v_since)) rfl rfl rfl hl.1 (rest := []) (Nat.le_of_ble_eq_true rfl) rfl dX1_bear_6 ⟨Nat.zero_le _, Nat.zero_le _⟩ (fun H locs hP hD hS => ?_)
  refine lv_istore_n (lv' := [(2, .int q6), (0, .ref h0), (1, .int x1)]) hx hb dX1_bear_9 rfl hl (by decide) rfl (fun ls hl => ?_)
  refine lv_aload_n hx hb dX1_bear_10 rfl (lv_at hl 1 rfl) ?_
  refine lv_iload_n hx hb dX1_bear_11 rfl (lv_at hl 0 rfl) ?_
  refine lv_iload_n hx hb dX1_bear_12 rfl (lv_at hl 2 rfl) ?_
  obtain ⟨q13, hq13, hf⟩ := bd_some hf
  refine kcVi C (kX1_lackOfRoom (l := l) (D := D) (k := k) h0 h1 h2 h3 h4 h5 h7 z0 z1 z2 z3 (.ref h6) z4 (.ref h8) (.ref h9) z5 z6 z7 z8 (.int v_clock) z9 z10 z11 v_letters v_rooms v_letterRows v_rules v_tokens q6 x1 q13 hq13) mt_X1_lackOfRoom mw_555 ⟨rfl, rfl, Nat.le_of_ble_eq_true rfl, Nat.le_of_ble_eq_true rfl⟩ hP hD hS 0 rfl rfl rfl [0, 1, 2, 3, 4, 5, 7] rfl rfl [some 0, some 1, some 2, some 3, some 4, some 5, none, some 6, none, none] rfl rfl (w2 := (wX1_bear k h0 h1 h2 h3 h4 h5 h6 h7 h8 h9 z0 z1 z2 z3 z4 z5 z6 z7 z8 z9 z10 z11 v_clock v_letters v_rooms v_letterRows v_rules v_counts v_tokens v_hops v_since)) rfl rfl rfl hl.1 (rest := []) (Nat.le_of_ble_eq_true rfl) rfl dX1_bear_13 ⟨Nat.zero_le _, Nat.zero_le _⟩ (fun H locs hP hD hS => ?_)
  refine lv_if_eq (tgt := 33) hx hb dX1_bear_16 (by decide) (fun hc => ?_) (fun hc => ?_)
  · rw [if_pos hc] at hf
    refine lv_aload_n hx hb dX1_bear_33 rfl (lv_at hl 1 rfl) ?_
    refine lv_iload_n hx hb dX1_bear_34 rfl (lv_at hl 0 rfl) ?_
    refine lv_iload_n hx hb dX1_bear_35 rfl (lv_at hl 2 rfl) ?_
    obtain ⟨q36, hq36, hf⟩ := bd_some hf
    refine kcVv C (kX1_makeRoom (l := l) (D := D) (k := k) h0 h1 h2 h3 h4 h5 h6 h7 h9 z0 z1 z2 z3 z4 (.ref h8) z5 z6 z7 z8 (.int v_clock) z9 z10 z11 v_letters v_rooms v_letterRows v_rules v_counts v_tokens v_since q6 x1 q36 hq36) mt_X1_makeRoom mw_588 ⟨rfl, rfl, Nat.le_of_ble_eq_true rfl, Nat.le_of_ble_eq_true rfl⟩ hP hD hS 0 rfl rfl rfl [0, 1, 2, 3, 4, 5, 6, 7, 9] rfl rfl [some 0, some 1, some 2, some 3, some 4, some 5, some 6, some 7, none, some 8] rfl rfl (w2 := (wX1_bear k h0 h1 h2 h3 h4 h5 h6 h7 h8 h9 z0 z1 z2 z3 z4 z5 z6 z7 z8 z9 z10 z11 v_clock v_letters v_rooms v_letterRows v_rules q36.1 q36.2 v_hops v_since)) rfl rfl rfl hl.1 (rest := []) (Nat.le_of_ble_eq_true rfl) rfl dX1_bear_36 ⟨Nat.zero_le _, Nat.zero_le _⟩ (fun H locs hP hD hS => ?_)
    refine lv_aload_n hx hb dX1_bear_39 rfl (lv_at hl 1 rfl) ?_
    refine kget C inX1 hP 0 rfl rfl 0 (by decide) mw_194 rfl dX1_bear_40 ?_
    refine lv_iload_n hx hb dX1_bear_43 rfl (lv_at hl 0 rfl) ?_
    refine lv_iload_n hx hb dX1_bear_44 rfl (lv_at hl 2 rfl) ?_
    refine lv_aload_n hx hb dX1_bear_45 rfl (lv_at hl 1 rfl) ?_
    refine kget C inX1 hP 0 rfl rfl 1 (by decide) mw_195 rfl dX1_bear_46 ?_
    refine lv_iload_n hx hb dX1_bear_49 rfl (lv_at hl 2 rfl) ?_
    refine lv_iconst (v := (4 : Int32)) hx hb dX1_bear_50 (by decide) ?_
    obtain ⟨q51, hq51, hf⟩ := bd_some hf
    refine kcVi C (kX0_ofLetter (l := l) (D := D) (k := k) h2 h4 (.ref h3) z9 z10 z11 (.int v_letters) v_letterRows x1 (4 : Int32) q51 hq51) mt_X0_ofLetter mw_499 ⟨rfl, rfl, Nat.le_of_ble_eq_true rfl, Nat.le_of_ble_eq_true rfl⟩ hP hD hS 2 rfl rfl rfl [2, 4] rfl rfl [none, none, some 0, none, some 1, none, none, none, none, none] rfl rfl (w2 := (wX1_bear k h0 h1 h2 h3 h4 h5 h6 h7 h8 h9 z0 z1 z2 z3 z4 z5 z6 z7 z8 z9 z10 z11 v_clock v_letters v_rooms v_letterRows v_rules q36.1 q36.2 v_hops v_since)) rfl rfl rfl hl.1 (rest := [.int x1, .int q6, .ref h1]) (Nat.le_of_ble_eq_true rfl) rfl dX1_bear_51 ⟨Nat.zero_le _, Nat.zero_le _⟩ (fun H locs hP hD hS => ?_)
    refine lv_iconst (v := (0 : Int32)) hx hb dX1_bear_54 (by decide) ?_
    obtain ⟨q55, hq55, hf⟩ := bd_some hf
    refine kcVv C (kX4_putCopy (l := l) (D := D) (k := k) h1 h7 h8 h9 (.ref h2) (.ref h5) (.ref h6) z4 z5 z6 z7 z8 v_clock q36.2 v_hops v_since q6 x1 q51 (0 : Int32) q55 hq55) mt_X4_putCopy mw_600 ⟨rfl, rfl, Nat.le_of_ble_eq_true rfl, Nat.le_of_ble_eq_true rfl⟩ hP hD hS 1 rfl rfl rfl [1, 7, 8, 9] rfl rfl [none, some 0, none, none, none, none, none, some 1, some 2, some 3] rfl rfl (w2 := (wX1_bear k h0 h1 h2 h3 h4 h5 h6 h7 h8 h9 z0 z1 z2 z3 z4 z5 z6 z7 z8 z9 z10 z11 v_clock v_letters v_rooms v_letterRows v_rules q36.1 q55.1 q55.2.1 q55.2.2)) rfl rfl rfl hl.1 (rest := []) (Nat.le_of_ble_eq_true rfl) rfl dX1_bear_55 ⟨Nat.zero_le _, Nat.zero_le _⟩ (fun H locs hP hD hS => ?_)
    obtain rfl := Option.some.inj hf
    exact hret _ _ _ _ dX1_bear_58 hP hS
  · rw [if_neg hc] at hf
    refine lv_aload_n hx hb dX1_bear_19 rfl (lv_at hl 1 rfl) ?_
    refine kget C inX1 hP 0 rfl rfl 0 (by decide) mw_194 rfl dX1_bear_20 ?_
    refine kget C inX4 hP 1 rfl rfl 2 (by decide) mw_136 rfl dX1_bear_23 ?_
    refine lv_iconst (v := (5 : Int32)) hx hb dX1_bear_26 (by decide) ?_
    refine lv_dup2_11 hx hb dX1_bear_27 rfl rfl ?_
    refine kiald C hP 6 rfl (by unfold vp_in; decide) dX1_bear_28 (j := 5) (by decide) ?_
    refine lv_iconst (v := (1 : Int32)) hx hb dX1_bear_29 (by decide) ?_
    refine lv_iadd hx hb dX1_bear_30 ?_
    obtain ⟨v_counts_31, hn31, hf⟩ := nm_some hf
    refine kiast C hP hD hS 6 rfl (by unfold vp_in; decide) dX1_bear_31 (j := 5) (by decide) (g := v_counts_31) hn31 (w2 := (wX1_bear k h0 h1 h2 h3 h4 h5 h6 h7 h8 h9 z0 z1 z2 z3 z4 z5 z6 z7 z8 z9 z10 z11 v_clock v_letters v_rooms v_letterRows v_rules v_counts_31 v_tokens v_hops v_since)) rfl (fun H locs hP hD hS => ?_)
    obtain rfl := Option.some.inj hf
    exact hret _ _ _ _ dX1_bear_32 hP hS
set_option maxHeartbeats 4000000 in
set_option maxRecDepth 100000 in
theorem wX1_cure_2 {p : Program} {l : Launch} {e : Env} {s : State} {m : MethodId} {args : Array Value} {below : List Frame} {meth : Method} {c : Code} {A : Nat → Prop} {Q : State → Prop} {D : va_G} {k : Nat → ClassId} (C : Cx p s m args c cX1_cure 3 RX1 A D k) (h0 h1 h2 h3 h4 h5 : Nat) (z0 z1 z2 z3 z4 z5 z6 z7 z8 z9 z10 z11 z12 z13 z14 z15 z16 : Value) (v_letters : Int32) (v_notes : Nat → Int32) (y1 : Int32) : ∀ (f : Nat) (v_counts : Nat → Int32) (v_tokens : Nat → Int32) (y2 : Int32) (ex : ((Nat → Int32) × (Nat → Int32))) (H : Heap) (locs : List Loc) (ls : Array Slot), fX1_cure_2 v_letters v_notes y1 f v_counts v_tokens y2 = some ex → va_P D vwCl (wX1_cure k h0 h1 h2 h3 h4 h5 z0 z1 z2 z3 z4 z5 z6 z7 z8 z9 z10 z11 z12 z13 z14 z15 z16 v_letters v_counts v_tokens v_notes) H → va_D A (wX1_cure k h0 h1 h2 h3 h4 h5 z0 z1 z2 z3 z4 z5 z6 z7 z8 z9 z10 z11 z12 z13 z14 z15 z16 v_letters v_counts v_tokens v_notes) → va_S A s.heap H locs → lv_has ls 3 [(0, .ref h0), (1, .int y1), (2, .int y2)] → (∀ (H : Heap) (locs : List Loc) (ls : Array Slot), va_P D vwCl (wX1_cure k h0 h1 h2 h3 h4 h5 z0 z1 z2 z3 z4 z5 z6 z7 z8 z9 z10 z11 z12 z13 z14 z15 z16 v_letters ex.1 ex.2 v_notes) H → va_D A (wX1_cure k h0 h1 h2 h3 h4 h5 z0 z1 z2 z3 z4 z5 z6 z7 z8 z9 z10 z11 z12 z13 z14 z15 z16 v_letters ex.1 ex.2 v_notes) → va_S A s.heap H locs → lv_has ls 3 [] → W p l e ({ frames := 2, cells := 0, slots := 0, locals := 43 } : Room) s m args below meth c H locs 0 0 Q (F0 m 69 ls [])) → W p l e ({ frames := 2, cells := 0, slots := 0, locals := 43 } : Room) s m args below meth c H locs 0 0 Q (F0 m 2 ls []) := by
  obtain ⟨hx, hb, -⟩ := id C
  intro f
  induction f with
  | zero =>
    intro v_counts v_tokens y2 ex H locs ls hf hP hD hS hl hk
    cases hf
  | succ f ih =>
    intro v_counts v_tokens y2 ex H locs ls hf hP hD hS hl hk
    rw [fX1_cure_2] at hf
    refine lv_iload_n hx hb dX1_cure_2 rfl (lv_at hl 2 rfl) ?_
    refine lv_aload_n hx hb dX1_cure_3 rfl (lv_at hl 0 rfl) ?_
    refine kget C inX1 hP 0 rfl rfl 1 (by decide) mw_195 rfl dX1_cure_4 ?_
    refine kget C inX0 hP 2 rfl rfl 5 (by decide) mw_68 rfl dX1_cure_7 ?_
    refine lv_icmp_ge (tgt := 69) hx hb dX1_cure_10 (by decide) (fun hc => ?_) (fun hc => ?_)
    · rw [if_pos hc] at hf
      obtain rfl := Option.some.inj hf
      exact hk _ _ _ hP hD hS (lv_sub hl [] rfl)
    · rw [if_neg hc] at hf
      refine lv_aload_n hx hb dX1_cure_13 rfl (lv_at hl 0 rfl) ?_
      refine kget C inX1 hP 0 rfl rfl 0 (by decide) mw_194 rfl dX1_cure_14 ?_
      refine kget C inX4 hP 1 rfl rfl 7 (by decide) mw_151 rfl dX1_cure_17 ?_
      refine lv_iload_n hx hb dX1_cure_20 rfl (lv_at hl 1 rfl) ?_
      obtain ⟨hin, hf⟩ := gd_some hf
      refine kiald C hP 5 rfl hin dX1_cure_21 (j := y1.toNatClampNeg) rfl ?_
      refine lv_iload_n hx hb dX1_cure_22 rfl (lv_at hl 2 rfl) ?_
      refine lv_ishr hx hb dX1_cure_23 ?_
      refine lv_iconst (v := (1 : Int32)) hx hb dX1_cure_24 (by decide) ?_
      refine lv_iand hx hb dX1_cure_25 ?_
      refine lv_if_eq (tgt := 63) hx hb dX1_cure_26 (by decide) (fun hc => ?_) (fun hc => ?_)
      · rw [if_pos hc] at hf
        refine lv_iinc (v := (y2 + (1 : Int32))) (lv' := [(2, .int (y2 + (1 : Int32))), (0, .ref h0), (1, .int y1)]) hx hb dX1_cure_63 hl (k := 2) rfl rfl (by decide) rfl (fun ls hl => ?_)
        refine lv_goto (tgt := 2) hx hb dX1_cure_66 (by decide) ?_
        exact ih v_counts v_tokens (y2 + (1 : Int32)) _ _ _ _ hf hP hD hS (lv_sub hl [1, 2, 0] rfl) hk
      · rw [if_neg hc] at hf
        refine lv_aload_n hx hb dX1_cure_29 rfl (lv_at hl 0 rfl) ?_
        refine kget C inX1 hP 0 rfl rfl 0 (by decide) mw_194 rfl dX1_cure_30 ?_
        refine lv_iload_n hx hb dX1_cure_33 rfl (lv_at hl 1 rfl) ?_
        refine lv_iload_n hx hb dX1_cure_34 rfl (lv_at hl 2 rfl) ?_
        obtain ⟨q35, hq35, hf⟩ := bd_some hf
        refine kcVi C (kX4_hasCopy (l := l) (D := D) (k := k) h1 h4 (.ref h2) z4 (.ref h3) z5 z6 z7 (.ref h5) z8 z9 z10 z11 v_tokens y1 y2 q35 hq35) mt_X4_hasCopy mw_494 ⟨rfl, rfl, Nat.le_of_ble_eq_true rfl, Nat.le_of_ble_eq_true rfl⟩ hP hD hS 1 rfl rfl rfl [1, 4] rfl rfl [none, some 0, none, none, some 1, none] rfl rfl (w2 := (wX1_cure k h0 h1 h2 h3 h4 h5 z0 z1 z2 z3 z4 z5 z6 z7 z8 z9 z10 z11 z12 z13 z14 z15 z16 v_letters v_counts v_tokens v_notes)) rfl rfl rfl hl.1 (rest := []) (Nat.le_of_ble_eq_true rfl) rfl dX1_cure_35 ⟨Nat.zero_le _, Nat.zero_le _⟩ (fun H locs hP hD hS => ?_)
        refine lv_if_eq (tgt := 63) hx hb dX1_cure_38 (by decide) (fun hc => ?_) (fun hc => ?_)
        · rw [if_pos hc] at hf
          refine lv_iinc (v := (y2 + (1 : Int32))) (lv' := [(2, .int (y2 + (1 : Int32))), (0, .ref h0), (1, .int y1)]) hx hb dX1_cure_63 hl (k := 2) rfl rfl (by decide) rfl (fun ls hl => ?_)
          refine lv_goto (tgt := 2) hx hb dX1_cure_66 (by decide) ?_
          exact ih v_counts v_tokens (y2 + (1 : Int32)) _ _ _ _ hf hP hD hS (lv_sub hl [1, 2, 0] rfl) hk
        · rw [if_neg hc] at hf
          refine lv_aload_n hx hb dX1_cure_41 rfl (lv_at hl 0 rfl) ?_
          refine kget C inX1 hP 0 rfl rfl 0 (by decide) mw_194 rfl dX1_cure_42 ?_
          refine lv_iload_n hx hb dX1_cure_45 rfl (lv_at hl 1 rfl) ?_
          refine lv_iload_n hx hb dX1_cure_46 rfl (lv_at hl 2 rfl) ?_
          obtain ⟨q47, hq47, hf⟩ := bd_some hf
          refine kcVv C (kX4_removeCopy (l := l) (D := D) (k := k) h1 h4 (.ref h2) z4 (.ref h3) z5 z6 z7 (.ref h5) z8 z9 z10 z11 v_tokens y1 y2 q47 hq47) mt_X4_removeCopy mw_580 ⟨rfl, rfl, Nat.le_of_ble_eq_true rfl, Nat.le_of_ble_eq_true rfl⟩ hP hD hS 1 rfl rfl rfl [1, 4] rfl rfl [none, some 0, none, none, some 1, none] rfl rfl (w2 := (wX1_cure k h0 h1 h2 h3 h4 h5 z0 z1 z2 z3 z4 z5 z6 z7 z8 z9 z10 z11 z12 z13 z14 z15 z16 v_letters v_counts q47 v_notes)) rfl rfl rfl hl.1 (rest := []) (Nat.le_of_ble_eq_true rfl) rfl dX1_cure_47 ⟨Nat.zero_le _, Nat.zero_le _⟩ (fun H locs hP hD hS => ?_)
          refine lv_aload_n hx hb dX1_cure_50 rfl (lv_at hl 0 rfl) ?_
          refine kget C inX1 hP 0 rfl rfl 0 (by decide) mw_194 rfl dX1_cure_51 ?_
          refine kget C inX4 hP 1 rfl rfl 2 (by decide) mw_136 rfl dX1_cure_54 ?_
          refine lv_iconst (v := (3 : Int32)) hx hb dX1_cure_57 (by decide) ?_
          refine lv_dup2_11 hx hb dX1_cure_58 rfl rfl ?_
          refine kiald C hP 3 rfl (by unfold vp_in; decide) dX1_cure_59 (j := 3) (by decide) ?_
          refine lv_iconst (v := (1 : Int32)) hx hb dX1_cure_60 (by decide) ?_
          refine lv_iadd hx hb dX1_cure_61 ?_
          obtain ⟨v_counts_62, hn62, hf⟩ := nm_some hf
          refine kiast C hP hD hS 3 rfl (by unfold vp_in; decide) dX1_cure_62 (j := 3) (by decide) (g := v_counts_62) hn62 (w2 := (wX1_cure k h0 h1 h2 h3 h4 h5 z0 z1 z2 z3 z4 z5 z6 z7 z8 z9 z10 z11 z12 z13 z14 z15 z16 v_letters v_counts_62 q47 v_notes)) rfl (fun H locs hP hD hS => ?_)
          refine lv_iinc (v := (y2 + (1 : Int32))) (lv' := [(2, .int (y2 + (1 : Int32))), (0, .ref h0), (1, .int y1)]) hx hb dX1_cure_63 hl (k := 2) rfl rfl (by decide) rfl (fun ls hl => ?_)
          refine lv_goto (tgt := 2) hx hb dX1_cure_66 (by decide) ?_
          exact ih v_counts_62 q47 (y2 + (1 : Int32)) _ _ _ _ hf hP hD hS (lv_sub hl [1, 2, 0] rfl) hk
set_option maxHeartbeats 4000000 in
set_option maxRecDepth 100000 in
theorem kX1_cure {l : Launch} {D : va_G} {k : Nat → ClassId} (h0 h1 h2 h3 h4 h5 : Nat) (z0 z1 z2 z3 z4 z5 z6 z7 z8 z9 z10 z11 z12 z13 z14 z15 z16 : Value) (v_letters : Int32) (v_counts : Nat → Int32) (v_tokens : Nat → Int32) (v_notes : Nat → Int32) (x1 : Int32) (q : (Nat → Int32) × (Nat → Int32)) (hf : fX1_cure v_letters v_counts v_tokens v_notes x1 = some q) : KMv l yX1_cure cX1_cure 3 ({ frames := 2, cells := 0, slots := 0, locals := 43 } : Room) D k [.ref h0, .int x1] (wX1_cure k h0 h1 h2 h3 h4 h5 z0 z1 z2 z3 z4 z5 z6 z7 z8 z9 z10 z11 z12 z13 z14 z15 z16 v_letters v_counts v_tokens v_notes) (wX1_cure k h0 h1 h2 h3 h4 h5 z0 z1 z2 z3 z4 z5 z6 z7 z8 z9 z10 z11 z12 z13 z14 z15 z16 v_letters q.1 q.2 v_notes) := by
  refine kent_v (by decide) (Nat.le_of_ble_eq_true rfl) ?_
  intro p e s m below meth c A Q ls C hP hD hS hl hret
  obtain ⟨hx, hb, -⟩ := id C
  have hl : lv_has ls 3 [(0, .ref h0), (1, .int x1)] := hl
  unfold fX1_cure at hf
  generalize ([.ref h0, .int x1] : List Value).toArray = args at *
  refine lv_iconst (v := (0 : Int32)) hx hb dX1_cure_0 (by decide) ?_
  refine lv_istore_n (lv' := [(2, .int (0 : Int32)), (0, .ref h0), (1, .int x1)]) hx hb dX1_cure_1 rfl hl (by decide) rfl (fun ls hl => ?_)
  obtain ⟨ex2, hv, hf⟩ := bd_some hf
  refine wX1_cure_2 C h0 h1 h2 h3 h4 h5 z0 z1 z2 z3 z4 z5 z6 z7 z8 z9 z10 z11 z12 z13 z14 z15 z16 v_letters v_notes x1 FU v_counts v_tokens (0 : Int32) ex2 _ _ _ hv hP hD hS (lv_sub hl [1, 2, 0] rfl) (fun H locs ls hP hD hS hl => ?_)
  obtain rfl := Option.some.inj hf
  exact hret _ _ _ _ dX1_cure_69 hP hS
set_option maxHeartbeats 4000000 in
set_option maxRecDepth 100000 in
theorem kX1_goesAhead {l : Launch} {D : va_G} {k : Nat → ClassId} (h0 h1 h2 h3 h4 : Nat) (z0 z1 z2 z3 z4 z5 z6 z7 z8 z9 z10 z11 z12 z13 z14 z15 z16 z17 z18 : Value) (v_letterRows : Nat → Int32) (v_hops : Nat → Int32) (x1 : Int32) (x2 : Int32) (x3 : Int32) (x4 : Int32) (q : Int32) (hf : fX1_goesAhead v_letterRows v_hops x1 x2 x3 x4 = some q) : KMi l yX1_goesAhead cX1_goesAhead 7 (some .boolean) ({ frames := 1, cells := 0, slots := 0, locals := 22 } : Room) D k [.ref h0, .int x1, .int x2, .int x3, .int x4] (wX1_goesAhead k h0 h1 h2 h3 h4 z0 z1 z2 z3 z4 z5 z6 z7 z8 z9 z10 z11 z12 z13 z14 z15 z16 z17 z18 v_letterRows v_hops) q (wX1_goesAhead k h0 h1 h2 h3 h4 z0 z1 z2 z3 z4 z5 z6 z7 z8 z9 z10 z11 z12 z13 z14 z15 z16 z17 z18 v_letterRows v_hops) := by
  refine kent_z (by decide) (Nat.le_of_ble_eq_true rfl) ?_
  intro p e s m below meth c A Q ls C hP hD hS hl hret
  obtain ⟨hx, hb, -⟩ := id C
  have hl : lv_has ls 7 [(0, .ref h0), (1, .int x1), (2, .int x2), (3, .int x3), (4, .int x4)] := hl
  unfold fX1_goesAhead at hf
  generalize ([.ref h0, .int x1, .int x2, .int x3, .int x4] : List Value).toArray = args at *
  refine lv_aload_n hx hb dX1_goesAhead_0 rfl (lv_at hl 0 rfl) ?_
  refine kget C inX1 hP 0 rfl rfl 1 (by decide) mw_195 rfl dX1_goesAhead_1 ?_
  refine lv_iload_n hx hb dX1_goesAhead_4 rfl (lv_at hl 3 rfl) ?_
  refine lv_iconst (v := (2 : Int32)) hx hb dX1_goesAhead_5 (by decide) ?_
  obtain ⟨q6, hq6, hf⟩ := bd_some hf
  refine kcVi C (kX0_ofLetter (l := l) (D := D) (k := k) h2 h3 z14 z15 z16 z17 z18 v_letterRows x3 (2 : Int32) q6 hq6) mt_X0_ofLetter mw_499 ⟨rfl, rfl, Nat.le_of_ble_eq_true rfl, Nat.le_of_ble_eq_true rfl⟩ hP hD hS 2 rfl rfl rfl [2, 3] rfl rfl [none, none, some 0, some 1, none] rfl rfl (w2 := (wX1_goesAhead k h0 h1 h2 h3 h4 z0 z1 z2 z3 z4 z5 z6 z7 z8 z9 z10 z11 z12 z13 z14 z15 z16 z17 z18 v_letterRows v_hops)) rfl rfl rfl hl.1 (rest := []) (Nat.le_of_ble_eq_true rfl) rfl dX1_goesAhead_6 ⟨Nat.zero_le _, Nat.zero_le _⟩ (fun H locs hP hD hS => ?_)
  refine lv_iload_n hx hb dX1_goesAhead_9 rfl (lv_at hl 2 rfl) ?_
  obtain ⟨v18, hv18, hf⟩ := bd_some hf
  have hj18 : ∀ (H : Heap) (locs : List Loc) (ls : Array Slot), va_P D vwCl (wX1_goesAhead k h0 h1 h2 h3 h4 z0 z1 z2 z3 z4 z5 z6 z7 z8 z9 z10 z11 z12 z13 z14 z15 z16 z17 z18 v_letterRows v_hops) H → va_D A (wX1_goesAhead k h0 h1 h2 h3 h4 z0 z1 z2 z3 z4 z5 z6 z7 z8 z9 z10 z11 z12 z13 z14 z15 z16 z17 z18 v_letterRows v_hops) → va_S A s.heap H locs → lv_has ls 7 [(0, .ref h0), (1, .int x1), (2, .int x2), (3, .int x3), (4, .int x4)] → W p l e ({ frames := 1, cells := 0, slots := 0, locals := 22 } : Room) s m args below meth c H locs 0 0 Q (F0 m 18 ls [.int v18]) := by
    intro H locs ls hP hD hS hl
    refine lv_istore (lv' := [(5, .int v18), (0, .ref h0), (1, .int x1), (2, .int x2), (3, .int x3), (4, .int x4)]) hx hb dX1_goesAhead_18 hl (by decide) rfl (fun ls hl => ?_)
    refine lv_aload_n hx hb dX1_goesAhead_20 rfl (lv_at hl 1 rfl) ?_
    refine kget C inX1 hP 0 rfl rfl 1 (by decide) mw_195 rfl dX1_goesAhead_21 ?_
    refine lv_iload hx hb dX1_goesAhead_24 (lv_at hl 5 rfl) ?_
    refine lv_iconst (v := (2 : Int32)) hx hb dX1_goesAhead_26 (by decide) ?_
    obtain ⟨q27, hq27, hf⟩ := bd_some hf
    refine kcVi C (kX0_ofLetter (l := l) (D := D) (k := k) h2 h3 z14 z15 z16 z17 z18 v_letterRows x4 (2 : Int32) q27 hq27) mt_X0_ofLetter mw_499 ⟨rfl, rfl, Nat.le_of_ble_eq_true rfl, Nat.le_of_ble_eq_true rfl⟩ hP hD hS 2 rfl rfl rfl [2, 3] rfl rfl [none, none, some 0, some 1, none] rfl rfl (w2 := (wX1_goesAhead k h0 h1 h2 h3 h4 z0 z1 z2 z3 z4 z5 z6 z7 z8 z9 z10 z11 z12 z13 z14 z15 z16 z17 z18 v_letterRows v_hops)) rfl rfl rfl hl.1 (rest := []) (Nat.le_of_ble_eq_true rfl) rfl dX1_goesAhead_27 ⟨Nat.zero_le _, Nat.zero_le _⟩ (fun H locs hP hD hS => ?_)
    refine lv_iload_n hx hb dX1_goesAhead_30 rfl (lv_at hl 3 rfl) ?_
    obtain ⟨v39, hv39, hf⟩ := bd_some hf
    have hj39 : ∀ (H : Heap) (locs : List Loc) (ls : Array Slot), va_P D vwCl (wX1_goesAhead k h0 h1 h2 h3 h4 z0 z1 z2 z3 z4 z5 z6 z7 z8 z9 z10 z11 z12 z13 z14 z15 z16 z17 z18 v_letterRows v_hops) H → va_D A (wX1_goesAhead k h0 h1 h2 h3 h4 z0 z1 z2 z3 z4 z5 z6 z7 z8 z9 z10 z11 z12 z13 z14 z15 z16 z17 z18 v_letterRows v_hops) → va_S A s.heap H locs → lv_has ls 7 [(0, .ref h0), (1, .int x1), (3, .int x3), (4, .int x4), (5, .int v18)] → W p l e ({ frames := 1, cells := 0, slots := 0, locals := 22 } : Room) s m args below meth c H locs 0 0 Q (F0 m 39 ls [.int v39]) := by
      intro H locs ls hP hD hS hl
      refine lv_istore (lv' := [(6, .int v39), (0, .ref h0), (1, .int x1), (3, .int x3), (4, .int x4), (5, .int v18)]) hx hb dX1_goesAhead_39 hl (by decide) rfl (fun ls hl => ?_)
      refine lv_iload hx hb dX1_goesAhead_41 (lv_at hl 5 rfl) ?_
      refine lv_iload hx hb dX1_goesAhead_43 (lv_at hl 0 rfl) ?_
      refine lv_icmp_eq (tgt := 51) hx hb dX1_goesAhead_45 (by decide) (fun hc => ?_) (fun hc => ?_)
      · rw [if_pos hc] at hf
        refine lv_aload_n hx hb dX1_goesAhead_51 rfl (lv_at hl 1 rfl) ?_
        refine kget C inX1 hP 0 rfl rfl 0 (by decide) mw_194 rfl dX1_goesAhead_52 ?_
        refine kget C inX4 hP 1 rfl rfl 5 (by decide) mw_145 rfl dX1_goesAhead_55 ?_
        refine lv_iload_n hx hb dX1_goesAhead_58 rfl (lv_at hl 2 rfl) ?_
        refine lv_iload_n hx hb dX1_goesAhead_59 rfl (lv_at hl 3 rfl) ?_
        obtain ⟨q60, hq60, hf⟩ := bd_some hf
        refine kcSi C (kX4_place (l := l) (D := D) (k := k) x1 x3 q60 hq60) mt_X4_place mw_500 ⟨rfl, rfl, Nat.le_of_ble_eq_true rfl, Nat.le_of_ble_eq_true rfl⟩ hP hD hS [] rfl rfl [none, none, none, none, none] rfl rfl (w2 := (wX1_goesAhead k h0 h1 h2 h3 h4 z0 z1 z2 z3 z4 z5 z6 z7 z8 z9 z10 z11 z12 z13 z14 z15 z16 z17 z18 v_letterRows v_hops)) rfl rfl rfl hl.1 (rest := [.ref h4]) (Nat.le_of_ble_eq_true rfl) rfl dX1_goesAhead_60 ⟨Nat.zero_le _, Nat.zero_le _⟩ (fun H locs hP hD hS => ?_)
        obtain ⟨hin, hf⟩ := gd_some hf
        refine kiald C hP 4 rfl hin dX1_goesAhead_63 (j := q60.toNatClampNeg) rfl ?_
        refine lv_aload_n hx hb dX1_goesAhead_64 rfl (lv_at hl 1 rfl) ?_
        refine kget C inX1 hP 0 rfl rfl 0 (by decide) mw_194 rfl dX1_goesAhead_65 ?_
        refine kget C inX4 hP 1 rfl rfl 5 (by decide) mw_145 rfl dX1_goesAhead_68 ?_
        refine lv_iload_n hx hb dX1_goesAhead_71 rfl (lv_at hl 2 rfl) ?_
        refine lv_iload hx hb dX1_goesAhead_72 (lv_at hl 4 rfl) ?_
        obtain ⟨q74, hq74, hf⟩ := bd_some hf
        refine kcSi C (kX4_place (l := l) (D := D) (k := k) x1 x4 q74 hq74) mt_X4_place mw_500 ⟨rfl, rfl, Nat.le_of_ble_eq_true rfl, Nat.le_of_ble_eq_true rfl⟩ hP hD hS [] rfl rfl [none, none, none, none, none] rfl rfl (w2 := (wX1_goesAhead k h0 h1 h2 h3 h4 z0 z1 z2 z3 z4 z5 z6 z7 z8 z9 z10 z11 z12 z13 z14 z15 z16 z17 z18 v_letterRows v_hops)) rfl rfl rfl hl.1 (rest := [.ref h4, .int (v_hops q60.toNatClampNeg)]) (Nat.le_of_ble_eq_true rfl) rfl dX1_goesAhead_74 ⟨Nat.zero_le _, Nat.zero_le _⟩ (fun H locs hP hD hS => ?_)
        obtain ⟨hin, hf⟩ := gd_some hf
        refine kiald C hP 4 rfl hin dX1_goesAhead_77 (j := q74.toNatClampNeg) rfl ?_
        refine lv_icmp_ge (tgt := 85) hx hb dX1_goesAhead_78 (by decide) (fun hc => ?_) (fun hc => ?_)
        · rw [if_pos hc] at hf
          refine lv_iconst (v := (0 : Int32)) hx hb dX1_goesAhead_85 (by decide) ?_
          obtain rfl := Option.some.inj hf
          exact hret _ _ _ _ dX1_goesAhead_86 (by decide) hP hS
        · rw [if_neg hc] at hf
          refine lv_iconst (v := (1 : Int32)) hx hb dX1_goesAhead_81 (by decide) ?_
          refine lv_goto (tgt := 86) hx hb dX1_goesAhead_82 (by decide) ?_
          obtain rfl := Option.some.inj hf
          exact hret _ _ _ _ dX1_goesAhead_86 (by decide) hP hS
      · rw [if_neg hc] at hf
        refine lv_iload hx hb dX1_goesAhead_48 (lv_at hl 5 rfl) ?_
        obtain ⟨h01, hf⟩ := tf_some hf
        obtain rfl := Option.some.inj hf
        exact hret _ _ _ _ dX1_goesAhead_50 h01 hP hS
    clear hf
    have hf := hv39
    refine lv_icmp_ne (tgt := 38) hx hb dX1_goesAhead_31 (by decide) (fun hc => ?_) (fun hc => ?_)
    · rw [if_neg hc] at hf
      refine lv_iconst (v := (0 : Int32)) hx hb dX1_goesAhead_38 (by decide) ?_
      obtain rfl := Option.some.inj hf
      exact hj39 _ _ _ hP hD hS (lv_sub hl [1, 2, 4, 5, 0] rfl)
    · rw [if_pos hc] at hf
      refine lv_iconst (v := (1 : Int32)) hx hb dX1_goesAhead_34 (by decide) ?_
      refine lv_goto (tgt := 39) hx hb dX1_goesAhead_35 (by decide) ?_
      obtain rfl := Option.some.inj hf
      exact hj39 _ _ _ hP hD hS (lv_sub hl [1, 2, 4, 5, 0] rfl)
  clear hf
  have hf := hv18
  refine lv_icmp_ne (tgt := 17) hx hb dX1_goesAhead_10 (by decide) (fun hc => ?_) (fun hc => ?_)
  · rw [if_neg hc] at hf
    refine lv_iconst (v := (0 : Int32)) hx hb dX1_goesAhead_17 (by decide) ?_
    obtain rfl := Option.some.inj hf
    exact hj18 _ _ _ hP hD hS (lv_sub hl [0, 1, 2, 3, 4] rfl)
  · rw [if_pos hc] at hf
    refine lv_iconst (v := (1 : Int32)) hx hb dX1_goesAhead_13 (by decide) ?_
    refine lv_goto (tgt := 18) hx hb dX1_goesAhead_14 (by decide) ?_
    obtain rfl := Option.some.inj hf
    exact hj18 _ _ _ hP hD hS (lv_sub hl [0, 1, 2, 3, 4] rfl)
set_option maxHeartbeats 4000000 in
set_option maxRecDepth 100000 in
theorem wX1_listCopies_42 {p : Program} {l : Launch} {e : Env} {s : State} {m : MethodId} {args : Array Value} {below : List Frame} {meth : Method} {c : Code} {A : Nat → Prop} {Q : State → Prop} {D : va_G} {k : Nat → ClassId} (C : Cx p s m args c cX1_listCopies 6 RX1 A D k) (h0 h1 h2 h3 h4 h5 h6 : Nat) (z0 z1 z2 z3 z4 z5 z6 z7 z8 z9 z10 z11 z12 z13 z14 z15 : Value) (v_letters : Int32) (v_letterRows : Nat → Int32) (v_tokens : Nat → Int32) (v_hops : Nat → Int32) (y1 : Int32) (y2 : Int32) (y3 : Int32) (y4 : Int32) : ∀ (f : Nat) (v_order : Nat → Int32) (y5 : Int32) (ex : ((Nat → Int32) × Int32)) (H : Heap) (locs : List Loc) (ls : Array Slot), fX1_listCopies_42 v_letterRows v_hops y1 y2 y3 y4 f v_order y5 = some ex → va_P D vwCl (wX1_listCopies k h0 h1 h2 h3 h4 h5 h6 z0 z1 z2 z3 z4 z5 z6 z7 z8 z9 z10 z11 z12 z13 z14 z15 v_letters v_letterRows v_tokens v_hops v_order) H → va_D A (wX1_listCopies k h0 h1 h2 h3 h4 h5 h6 z0 z1 z2 z3 z4 z5 z6 z7 z8 z9 z10 z11 z12 z13 z14 z15 v_letters v_letterRows v_tokens v_hops v_order) → va_S A s.heap H locs → lv_has ls 6 [(0, .ref h0), (1, .int y1), (2, .int y2), (3, .int y3), (4, .int y4), (5, .int y5)] → (∀ (H : Heap) (locs : List Loc) (ls : Array Slot), va_P D vwCl (wX1_listCopies k h0 h1 h2 h3 h4 h5 h6 z0 z1 z2 z3 z4 z5 z6 z7 z8 z9 z10 z11 z12 z13 z14 z15 v_letters v_letterRows v_tokens v_hops ex.1) H → va_D A (wX1_listCopies k h0 h1 h2 h3 h4 h5 h6 z0 z1 z2 z3 z4 z5 z6 z7 z8 z9 z10 z11 z12 z13 z14 z15 v_letters v_letterRows v_tokens v_hops ex.1) → va_S A s.heap H locs → lv_has ls 6 [(0, .ref h0), (1, .int y1), (2, .int y2), (3, .int y3), (4, .int y4), (5, .int ex.2)] → W p l e ({ frames := 2, cells := 0, slots := 0, locals := 48 } : Room) s m args below meth c H locs 0 0 Q (F0 m 89 ls [])) → W p l e ({ frames := 2, cells := 0, slots := 0, locals := 48 } : Room) s m args below meth c H locs 0 0 Q (F0 m 42 ls []) := by
  obtain ⟨hx, hb, -⟩ := id C
  intro f
  induction f with
  | zero =>
    intro v_order y5 ex H locs ls hf hP hD hS hl hk
    cases hf
  | succ f ih =>
    intro v_order y5 ex H locs ls hf hP hD hS hl hk
    rw [fX1_listCopies_42] at hf
    refine lv_iload hx hb dX1_listCopies_42 (lv_at hl 5 rfl) ?_
    refine lv_if_le (tgt := 89) hx hb dX1_listCopies_44 (by decide) (fun hc => ?_) (fun hc => ?_)
    · rw [if_pos hc] at hf
      obtain rfl := Option.some.inj hf
      exact hk _ _ _ hP hD hS (lv_sub hl [0, 1, 2, 3, 4, 5] rfl)
    · rw [if_neg hc] at hf
      refine lv_aload_n hx hb dX1_listCopies_47 rfl (lv_at hl 0 rfl) ?_
      refine lv_iload_n hx hb dX1_listCopies_48 rfl (lv_at hl 1 rfl) ?_
      refine lv_iload_n hx hb dX1_listCopies_49 rfl (lv_at hl 2 rfl) ?_
      refine lv_iload hx hb dX1_listCopies_50 (lv_at hl 4 rfl) ?_
      refine lv_aload_n hx hb dX1_listCopies_52 rfl (lv_at hl 0 rfl) ?_
      refine kget C inX1 hP 0 rfl rfl 2 (by decide) mw_196 rfl dX1_listCopies_53 ?_
      refine lv_iload hx hb dX1_listCopies_56 (lv_at hl 5 rfl) ?_
      refine lv_iconst (v := (1 : Int32)) hx hb dX1_listCopies_58 (by decide) ?_
      refine lv_isub hx hb dX1_listCopies_59 ?_
      obtain ⟨hin, hf⟩ := gd_some hf
      refine kiald C hP 6 rfl hin dX1_listCopies_60 (j := (y5 - (1 : Int32)).toNatClampNeg) rfl ?_
      obtain ⟨q61, hq61, hf⟩ := bd_some hf
      refine kcVi C (kX1_goesAhead (l := l) (D := D) (k := k) h0 h1 h2 h3 h5 (.ref h6) z0 z1 z2 z3 z4 z5 (.ref h4) z6 z7 z8 z9 z10 z11 z12 z13 z14 z15 (.int v_letters) v_letterRows v_hops y1 y2 y4 (v_order ((y5 - (1 : Int32)).toNatClampNeg)) q61 hq61) mt_X1_goesAhead mw_495 ⟨rfl, rfl, Nat.le_of_ble_eq_true rfl, Nat.le_of_ble_eq_true rfl⟩ hP hD hS 0 rfl rfl rfl [0, 1, 2, 3, 5] rfl rfl [some 0, some 1, some 2, some 3, none, some 4, none] rfl rfl (w2 := (wX1_listCopies k h0 h1 h2 h3 h4 h5 h6 z0 z1 z2 z3 z4 z5 z6 z7 z8 z9 z10 z11 z12 z13 z14 z15 v_letters v_letterRows v_tokens v_hops v_order)) rfl rfl rfl hl.1 (rest := []) (Nat.le_of_ble_eq_true rfl) rfl dX1_listCopies_61 ⟨Nat.zero_le _, Nat.zero_le _⟩ (fun H locs hP hD hS => ?_)
      refine lv_if_eq (tgt := 89) hx hb dX1_listCopies_64 (by decide) (fun hc => ?_) (fun hc => ?_)
      · rw [if_pos hc] at hf
        obtain rfl := Option.some.inj hf
        exact hk _ _ _ hP hD hS (lv_sub hl [0, 1, 2, 3, 4, 5] rfl)
      · rw [if_neg hc] at hf
        refine lv_aload_n hx hb dX1_listCopies_67 rfl (lv_at hl 0 rfl) ?_
        refine kget C inX1 hP 0 rfl rfl 2 (by decide) mw_196 rfl dX1_listCopies_68 ?_
        refine lv_iload hx hb dX1_listCopies_71 (lv_at hl 5 rfl) ?_
        refine lv_aload_n hx hb dX1_listCopies_73 rfl (lv_at hl 0 rfl) ?_
        refine kget C inX1 hP 0 rfl rfl 2 (by decide) mw_196 rfl dX1_listCopies_74 ?_
        refine lv_iload hx hb dX1_listCopies_77 (lv_at hl 5 rfl) ?_
        refine lv_iconst (v := (1 : Int32)) hx hb dX1_listCopies_79 (by decide) ?_
        refine lv_isub hx hb dX1_listCopies_80 ?_
        obtain ⟨hin, hf⟩ := gd_some hf
        refine kiald C hP 6 rfl hin dX1_listCopies_81 (j := (y5 - (1 : Int32)).toNatClampNeg) rfl ?_
        obtain ⟨hin, hf⟩ := gd_some hf
        obtain ⟨v_order_82, hn82, hf⟩ := nm_some hf
        refine kiast C hP hD hS 6 rfl hin dX1_listCopies_82 (j := y5.toNatClampNeg) rfl (g := v_order_82) hn82 (w2 := (wX1_listCopies k h0 h1 h2 h3 h4 h5 h6 z0 z1 z2 z3 z4 z5 z6 z7 z8 z9 z10 z11 z12 z13 z14 z15 v_letters v_letterRows v_tokens v_hops v_order_82)) rfl (fun H locs hP hD hS => ?_)
        refine lv_iinc (v := (y5 + (-1 : Int32))) (lv' := [(5, .int (y5 + (-1 : Int32))), (0, .ref h0), (1, .int y1), (2, .int y2), (3, .int y3), (4, .int y4)]) hx hb dX1_listCopies_83 hl (k := 5) rfl rfl (by decide) rfl (fun ls hl => ?_)
        refine lv_goto (tgt := 42) hx hb dX1_listCopies_86 (by decide) ?_
        exact ih v_order_82 (y5 + (-1 : Int32)) _ _ _ _ hf hP hD hS (lv_sub hl [1, 2, 3, 4, 5, 0] rfl) hk
set_option maxHeartbeats 4000000 in
set_option maxRecDepth 100000 in
theorem wX1_listCopies_5 {p : Program} {l : Launch} {e : Env} {s : State} {m : MethodId} {args : Array Value} {below : List Frame} {meth : Method} {c : Code} {A : Nat → Prop} {Q : State → Prop} {D : va_G} {k : Nat → ClassId} (C : Cx p s m args c cX1_listCopies 6 RX1 A D k) (h0 h1 h2 h3 h4 h5 h6 : Nat) (z0 z1 z2 z3 z4 z5 z6 z7 z8 z9 z10 z11 z12 z13 z14 z15 : Value) (v_letters : Int32) (v_letterRows : Nat → Int32) (v_tokens : Nat → Int32) (v_hops : Nat → Int32) (y1 : Int32) (y2 : Int32) : ∀ (f : Nat) (v_order : Nat → Int32) (y3 : Int32) (y4 : Int32) (ex : ((Nat → Int32) × Int32)) (H : Heap) (locs : List Loc) (ls : Array Slot), fX1_listCopies_5 v_letters v_letterRows v_tokens v_hops y1 y2 f v_order y3 y4 = some ex → va_P D vwCl (wX1_listCopies k h0 h1 h2 h3 h4 h5 h6 z0 z1 z2 z3 z4 z5 z6 z7 z8 z9 z10 z11 z12 z13 z14 z15 v_letters v_letterRows v_tokens v_hops v_order) H → va_D A (wX1_listCopies k h0 h1 h2 h3 h4 h5 h6 z0 z1 z2 z3 z4 z5 z6 z7 z8 z9 z10 z11 z12 z13 z14 z15 v_letters v_letterRows v_tokens v_hops v_order) → va_S A s.heap H locs → lv_has ls 6 [(0, .ref h0), (1, .int y1), (2, .int y2), (3, .int y3), (4, .int y4)] → (∀ (H : Heap) (locs : List Loc) (ls : Array Slot), va_P D vwCl (wX1_listCopies k h0 h1 h2 h3 h4 h5 h6 z0 z1 z2 z3 z4 z5 z6 z7 z8 z9 z10 z11 z12 z13 z14 z15 v_letters v_letterRows v_tokens v_hops ex.1) H → va_D A (wX1_listCopies k h0 h1 h2 h3 h4 h5 h6 z0 z1 z2 z3 z4 z5 z6 z7 z8 z9 z10 z11 z12 z13 z14 z15 v_letters v_letterRows v_tokens v_hops ex.1) → va_S A s.heap H locs → lv_has ls 6 [(3, .int ex.2)] → W p l e ({ frames := 2, cells := 0, slots := 0, locals := 48 } : Room) s m args below meth c H locs 0 0 Q (F0 m 107 ls [])) → W p l e ({ frames := 2, cells := 0, slots := 0, locals := 48 } : Room) s m args below meth c H locs 0 0 Q (F0 m 5 ls []) := by
  obtain ⟨hx, hb, -⟩ := id C
  intro f
  induction f with
  | zero =>
    intro v_order y3 y4 ex H locs ls hf hP hD hS hl hk
    cases hf
  | succ f ih =>
    intro v_order y3 y4 ex H locs ls hf hP hD hS hl hk
    rw [fX1_listCopies_5] at hf
    refine lv_iload hx hb dX1_listCopies_5 (lv_at hl 4 rfl) ?_
    refine lv_aload_n hx hb dX1_listCopies_7 rfl (lv_at hl 0 rfl) ?_
    refine kget C inX1 hP 0 rfl rfl 1 (by decide) mw_195 rfl dX1_listCopies_8 ?_
    refine kget C inX0 hP 2 rfl rfl 5 (by decide) mw_68 rfl dX1_listCopies_11 ?_
    refine lv_icmp_ge (tgt := 107) hx hb dX1_listCopies_14 (by decide) (fun hc => ?_) (fun hc => ?_)
    · rw [if_pos hc] at hf
      obtain rfl := Option.some.inj hf
      exact hk _ _ _ hP hD hS (lv_sub hl [3] rfl)
    · rw [if_neg hc] at hf
      refine lv_iload_n hx hb dX1_listCopies_17 rfl (lv_at hl 3 rfl) ?_
      refine lv_bipush (v := (16 : Int32)) hx hb dX1_listCopies_18 (by decide) ?_
      refine lv_icmp_ge (tgt := 107) hx hb dX1_listCopies_20 (by decide) (fun hc => ?_) (fun hc => ?_)
      · rw [if_pos hc] at hf
        obtain rfl := Option.some.inj hf
        exact hk _ _ _ hP hD hS (lv_sub hl [3] rfl)
      · rw [if_neg hc] at hf
        refine lv_aload_n hx hb dX1_listCopies_23 rfl (lv_at hl 0 rfl) ?_
        refine kget C inX1 hP 0 rfl rfl 0 (by decide) mw_194 rfl dX1_listCopies_24 ?_
        refine lv_iload_n hx hb dX1_listCopies_27 rfl (lv_at hl 1 rfl) ?_
        refine lv_iload hx hb dX1_listCopies_28 (lv_at hl 4 rfl) ?_
        obtain ⟨q30, hq30, hf⟩ := bd_some hf
        refine kcVi C (kX4_hasCopy (l := l) (D := D) (k := k) h1 h4 (.ref h2) z3 z4 z5 (.ref h5) z6 z7 z8 z9 z10 z11 v_tokens y1 y4 q30 hq30) mt_X4_hasCopy mw_494 ⟨rfl, rfl, Nat.le_of_ble_eq_true rfl, Nat.le_of_ble_eq_true rfl⟩ hP hD hS 1 rfl rfl rfl [1, 4] rfl rfl [none, some 0, none, none, some 1, none, none] rfl rfl (w2 := (wX1_listCopies k h0 h1 h2 h3 h4 h5 h6 z0 z1 z2 z3 z4 z5 z6 z7 z8 z9 z10 z11 z12 z13 z14 z15 v_letters v_letterRows v_tokens v_hops v_order)) rfl rfl rfl hl.1 (rest := []) (Nat.le_of_ble_eq_true rfl) rfl dX1_listCopies_30 ⟨Nat.zero_le _, Nat.zero_le _⟩ (fun H locs hP hD hS => ?_)
        refine lv_if_ne (tgt := 39) hx hb dX1_listCopies_33 (by decide) (fun hc => ?_) (fun hc => ?_)
        · rw [if_neg hc] at hf
          refine lv_iload_n hx hb dX1_listCopies_39 rfl (lv_at hl 3 rfl) ?_
          refine lv_istore (lv' := [(5, .int y3), (0, .ref h0), (1, .int y1), (2, .int y2), (3, .int y3), (4, .int y4)]) hx hb dX1_listCopies_40 hl (by decide) rfl (fun ls hl => ?_)
          obtain ⟨ex42, hv, hf⟩ := bd_some hf
          refine wX1_listCopies_42 C h0 h1 h2 h3 h4 h5 h6 z0 z1 z2 z3 z4 z5 z6 z7 z8 z9 z10 z11 z12 z13 z14 z15 v_letters v_letterRows v_tokens v_hops y1 y2 y3 y4 FU v_order y3 ex42 _ _ _ hv hP hD hS (lv_sub hl [1, 2, 3, 4, 5, 0] rfl) (fun H locs ls hP hD hS hl => ?_)
          refine lv_aload_n hx hb dX1_listCopies_89 rfl (lv_at hl 0 rfl) ?_
          refine kget C inX1 hP 0 rfl rfl 2 (by decide) mw_196 rfl dX1_listCopies_90 ?_
          refine lv_iload hx hb dX1_listCopies_93 (lv_at hl 5 rfl) ?_
          refine lv_iload hx hb dX1_listCopies_95 (lv_at hl 4 rfl) ?_
          obtain ⟨hin, hf⟩ := gd_some hf
          obtain ⟨v_order_97, hn97, hf⟩ := nm_some hf
          refine kiast C hP hD hS 6 rfl hin dX1_listCopies_97 (j := ex42.2.toNatClampNeg) rfl (g := v_order_97) hn97 (w2 := (wX1_listCopies k h0 h1 h2 h3 h4 h5 h6 z0 z1 z2 z3 z4 z5 z6 z7 z8 z9 z10 z11 z12 z13 z14 z15 v_letters v_letterRows v_tokens v_hops v_order_97)) rfl (fun H locs hP hD hS => ?_)
          refine lv_iinc (v := (y3 + (1 : Int32))) (lv' := [(3, .int (y3 + (1 : Int32))), (0, .ref h0), (1, .int y1), (2, .int y2), (4, .int y4), (5, .int ex42.2)]) hx hb dX1_listCopies_98 hl (k := 3) rfl rfl (by decide) rfl (fun ls hl => ?_)
          refine lv_iinc (v := (y4 + (1 : Int32))) (lv' := [(4, .int (y4 + (1 : Int32))), (3, .int (y3 + (1 : Int32))), (0, .ref h0), (1, .int y1), (2, .int y2), (5, .int ex42.2)]) hx hb dX1_listCopies_101 hl (k := 4) rfl rfl (by decide) rfl (fun ls hl => ?_)
          refine lv_goto (tgt := 5) hx hb dX1_listCopies_104 (by decide) ?_
          exact ih v_order_97 (y3 + (1 : Int32)) (y4 + (1 : Int32)) _ _ _ _ hf hP hD hS (lv_sub hl [2, 3, 4, 1, 0] rfl) hk
        · rw [if_pos hc] at hf
          refine lv_goto (tgt := 101) hx hb dX1_listCopies_36 (by decide) ?_
          refine lv_iinc (v := (y4 + (1 : Int32))) (lv' := [(4, .int (y4 + (1 : Int32))), (0, .ref h0), (1, .int y1), (2, .int y2), (3, .int y3)]) hx hb dX1_listCopies_101 hl (k := 4) rfl rfl (by decide) rfl (fun ls hl => ?_)
          refine lv_goto (tgt := 5) hx hb dX1_listCopies_104 (by decide) ?_
          exact ih v_order y3 (y4 + (1 : Int32)) _ _ _ _ hf hP hD hS (lv_sub hl [1, 2, 3, 4, 0] rfl) hk
set_option maxHeartbeats 4000000 in
set_option maxRecDepth 100000 in
theorem kX1_listCopies {l : Launch} {D : va_G} {k : Nat → ClassId} (h0 h1 h2 h3 h4 h5 h6 : Nat) (z0 z1 z2 z3 z4 z5 z6 z7 z8 z9 z10 z11 z12 z13 z14 z15 : Value) (v_letters : Int32) (v_letterRows : Nat → Int32) (v_tokens : Nat → Int32) (v_hops : Nat → Int32) (v_order : Nat → Int32) (x1 : Int32) (x2 : Int32) (q : Int32 × (Nat → Int32)) (hf : fX1_listCopies v_letters v_letterRows v_tokens v_hops v_order x1 x2 = some q) : KMi l yX1_listCopies cX1_listCopies 6 (some .int) ({ frames := 2, cells := 0, slots := 0, locals := 48 } : Room) D k [.ref h0, .int x1, .int x2] (wX1_listCopies k h0 h1 h2 h3 h4 h5 h6 z0 z1 z2 z3 z4 z5 z6 z7 z8 z9 z10 z11 z12 z13 z14 z15 v_letters v_letterRows v_tokens v_hops v_order) q.1 (wX1_listCopies k h0 h1 h2 h3 h4 h5 h6 z0 z1 z2 z3 z4 z5 z6 z7 z8 z9 z10 z11 z12 z13 z14 z15 v_letters v_letterRows v_tokens v_hops q.2) := by
  refine kent_i (by decide) (Nat.le_of_ble_eq_true rfl) ?_
  intro p e s m below meth c A Q ls C hP hD hS hl hret
  obtain ⟨hx, hb, -⟩ := id C
  have hl : lv_has ls 6 [(0, .ref h0), (1, .int x1), (2, .int x2)] := hl
  unfold fX1_listCopies at hf
  generalize ([.ref h0, .int x1, .int x2] : List Value).toArray = args at *
  refine lv_iconst (v := (0 : Int32)) hx hb dX1_listCopies_0 (by decide) ?_
  refine lv_istore_n (lv' := [(3, .int (0 : Int32)), (0, .ref h0), (1, .int x1), (2, .int x2)]) hx hb dX1_listCopies_1 rfl hl (by decide) rfl (fun ls hl => ?_)
  refine lv_iconst (v := (0 : Int32)) hx hb dX1_listCopies_2 (by decide) ?_
  refine lv_istore (lv' := [(4, .int (0 : Int32)), (3, .int (0 : Int32)), (0, .ref h0), (1, .int x1), (2, .int x2)]) hx hb dX1_listCopies_3 hl (by decide) rfl (fun ls hl => ?_)
  obtain ⟨ex5, hv, hf⟩ := bd_some hf
  refine wX1_listCopies_5 C h0 h1 h2 h3 h4 h5 h6 z0 z1 z2 z3 z4 z5 z6 z7 z8 z9 z10 z11 z12 z13 z14 z15 v_letters v_letterRows v_tokens v_hops x1 x2 FU v_order (0 : Int32) (0 : Int32) ex5 _ _ _ hv hP hD hS (lv_sub hl [2, 3, 4, 1, 0] rfl) (fun H locs ls hP hD hS hl => ?_)
  refine lv_iload_n hx hb dX1_listCopies_107 rfl (lv_at hl 0 rfl) ?_
  obtain rfl := Option.some.inj hf
  exact hret _ _ _ _ dX1_listCopies_108 hP hS
set_option maxHeartbeats 4000000 in
set_option maxRecDepth 100000 in
theorem kX1_metLater {l : Launch} {D : va_G} {k : Nat → ClassId} (h0 h1 h2 h3 : Nat) (z0 z1 z2 z3 z4 z5 z6 z7 z8 z9 z10 z11 z12 z13 z14 : Value) (v_rules : Nat → Int32) (v_lasts : Nat → Int32) (x1 : Int32) (x2 : Int32) (x3 : Int32) (q : Int32) (hf : fX1_metLater v_rules v_lasts x1 x2 x3 = some q) : KMi l yX1_metLater cX1_metLater 5 (some .boolean) ({ frames := 1, cells := 0, slots := 0, locals := 22 } : Room) D k [.ref h0, .int x1, .int x2, .int x3] (wX1_metLater k h0 h1 h2 h3 z0 z1 z2 z3 z4 z5 z6 z7 z8 z9 z10 z11 z12 z13 z14 v_rules v_lasts) q (wX1_metLater k h0 h1 h2 h3 z0 z1 z2 z3 z4 z5 z6 z7 z8 z9 z10 z11 z12 z13 z14 v_rules v_lasts) := by
  refine kent_z (by decide) (Nat.le_of_ble_eq_true rfl) ?_
  intro p e s m below meth c A Q ls C hP hD hS hl hret
  obtain ⟨hx, hb, -⟩ := id C
  have hl : lv_has ls 5 [(0, .ref h0), (1, .int x1), (2, .int x2), (3, .int x3)] := hl
  unfold fX1_metLater at hf
  generalize ([.ref h0, .int x1, .int x2, .int x3] : List Value).toArray = args at *
  refine lv_aload_n hx hb dX1_metLater_0 rfl (lv_at hl 0 rfl) ?_
  refine kget C inX1 hP 0 rfl rfl 0 (by decide) mw_194 rfl dX1_metLater_1 ?_
  refine lv_iload_n hx hb dX1_metLater_4 rfl (lv_at hl 2 rfl) ?_
  refine lv_iload_n hx hb dX1_metLater_5 rfl (lv_at hl 3 rfl) ?_
  obtain ⟨q6, hq6, hf⟩ := bd_some hf
  refine kcVi C (kX4_lastOf (l := l) (D := D) (k := k) h1 h3 z5 (.ref h2) z6 z7 z8 z9 z10 z11 z12 z13 z14 v_lasts x2 x3 q6 hq6) mt_X4_lastOf mw_554 ⟨rfl, rfl, Nat.le_of_ble_eq_true rfl, Nat.le_of_ble_eq_true rfl⟩ hP hD hS 1 rfl rfl rfl [1, 3] rfl rfl [none, some 0, none, some 1] rfl rfl (w2 := (wX1_metLater k h0 h1 h2 h3 z0 z1 z2 z3 z4 z5 z6 z7 z8 z9 z10 z11 z12 z13 z14 v_rules v_lasts)) rfl rfl rfl hl.1 (rest := []) (Nat.le_of_ble_eq_true rfl) rfl dX1_metLater_6 ⟨Nat.zero_le _, Nat.zero_le _⟩ (fun H locs hP hD hS => ?_)
  refine lv_istore (lv' := [(4, .int q6), (0, .ref h0), (1, .int x1), (2, .int x2), (3, .int x3)]) hx hb dX1_metLater_9 hl (by decide) rfl (fun ls hl => ?_)
  refine lv_iload hx hb dX1_metLater_11 (lv_at hl 0 rfl) ?_
  refine lv_iconst (v := (-1 : Int32)) hx hb dX1_metLater_13 (by decide) ?_
  refine lv_icmp_eq (tgt := 45) hx hb dX1_metLater_14 (by decide) (fun hc => ?_) (fun hc => ?_)
  · rw [if_pos hc] at hf
    refine lv_iconst (v := (0 : Int32)) hx hb dX1_metLater_45 (by decide) ?_
    obtain rfl := Option.some.inj hf
    exact hret _ _ _ _ dX1_metLater_46 (by decide) hP hS
  · rw [if_neg hc] at hf
    refine lv_iload hx hb dX1_metLater_17 (lv_at hl 0 rfl) ?_
    refine lv_aload_n hx hb dX1_metLater_19 rfl (lv_at hl 1 rfl) ?_
    refine kget C inX1 hP 0 rfl rfl 0 (by decide) mw_194 rfl dX1_metLater_20 ?_
    refine lv_iload_n hx hb dX1_metLater_23 rfl (lv_at hl 2 rfl) ?_
    refine lv_iload_n hx hb dX1_metLater_24 rfl (lv_at hl 4 rfl) ?_
    obtain ⟨q25, hq25, hf⟩ := bd_some hf
    refine kcVi C (kX4_lastOf (l := l) (D := D) (k := k) h1 h3 z5 (.ref h2) z6 z7 z8 z9 z10 z11 z12 z13 z14 v_lasts x1 x3 q25 hq25) mt_X4_lastOf mw_554 ⟨rfl, rfl, Nat.le_of_ble_eq_true rfl, Nat.le_of_ble_eq_true rfl⟩ hP hD hS 1 rfl rfl rfl [1, 3] rfl rfl [none, some 0, none, some 1] rfl rfl (w2 := (wX1_metLater k h0 h1 h2 h3 z0 z1 z2 z3 z4 z5 z6 z7 z8 z9 z10 z11 z12 z13 z14 v_rules v_lasts)) rfl rfl rfl hl.1 (rest := [.int q6]) (Nat.le_of_ble_eq_true rfl) rfl dX1_metLater_25 ⟨Nat.zero_le _, Nat.zero_le _⟩ (fun H locs hP hD hS => ?_)
    refine lv_isub hx hb dX1_metLater_28 ?_
    refine lv_aload_n hx hb dX1_metLater_29 rfl (lv_at hl 1 rfl) ?_
    refine kget C inX1 hP 0 rfl rfl 0 (by decide) mw_194 rfl dX1_metLater_30 ?_
    refine kget C inX4 hP 1 rfl rfl 1 (by decide) mw_133 rfl dX1_metLater_33 ?_
    refine lv_iconst (v := (3 : Int32)) hx hb dX1_metLater_36 (by decide) ?_
    refine kiald C hP 2 rfl (by unfold vp_in; decide) dX1_metLater_37 (j := 3) (by decide) ?_
    refine lv_icmp_le (tgt := 45) hx hb dX1_metLater_38 (by decide) (fun hc => ?_) (fun hc => ?_)
    · rw [if_pos hc] at hf
      refine lv_iconst (v := (0 : Int32)) hx hb dX1_metLater_45 (by decide) ?_
      obtain rfl := Option.some.inj hf
      exact hret _ _ _ _ dX1_metLater_46 (by decide) hP hS
    · rw [if_neg hc] at hf
      refine lv_iconst (v := (1 : Int32)) hx hb dX1_metLater_41 (by decide) ?_
      refine lv_goto (tgt := 46) hx hb dX1_metLater_42 (by decide) ?_
      obtain rfl := Option.some.inj hf
      exact hret _ _ _ _ dX1_metLater_46 (by decide) hP hS
set_option maxHeartbeats 4000000 in
set_option maxRecDepth 100000 in
theorem kX1_mustWait {l : Launch} {D : va_G} {k : Nat → ClassId} (h0 h1 h2 h3 h4 h5 h6 : Nat) (z0 z1 z2 z3 z4 z5 z6 z7 z8 z9 z10 z11 z12 z13 z14 z15 z16 : Value) (v_letterRows : Nat → Int32) (v_rules : Nat → Int32) (v_tokens : Nat → Int32) (v_lasts : Nat → Int32) (x1 : Int32) (x2 : Int32) (x3 : Int32) (q : Int32) (hf : fX1_mustWait v_letterRows v_rules v_tokens v_lasts x1 x2 x3 = some q) : KMi l yX1_mustWait cX1_mustWait 5 (some .boolean) ({ frames := 2, cells := 0, slots := 0, locals := 46 } : Room) D k [.ref h0, .int x1, .int x2, .int x3] (wX1_mustWait k h0 h1 h2 h3 h4 h5 h6 z0 z1 z2 z3 z4 z5 z6 z7 z8 z9 z10 z11 z12 z13 z14 z15 z16 v_letterRows v_rules v_tokens v_lasts) q (wX1_mustWait k h0 h1 h2 h3 h4 h5 h6 z0 z1 z2 z3 z4 z5 z6 z7 z8 z9 z10 z11 z12 z13 z14 z15 z16 v_letterRows v_rules v_tokens v_lasts) := by
  refine kent_z (by decide) (Nat.le_of_ble_eq_true rfl) ?_
  intro p e s m below meth c A Q ls C hP hD hS hl hret
  obtain ⟨hx, hb, -⟩ := id C
  have hl : lv_has ls 5 [(0, .ref h0), (1, .int x1), (2, .int x2), (3, .int x3)] := hl
  unfold fX1_mustWait at hf
  generalize ([.ref h0, .int x1, .int x2, .int x3] : List Value).toArray = args at *
  refine lv_aload_n hx hb dX1_mustWait_0 rfl (lv_at hl 0 rfl) ?_
  refine kget C inX1 hP 0 rfl rfl 0 (by decide) mw_194 rfl dX1_mustWait_1 ?_
  refine kget C inX4 hP 1 rfl rfl 4 (by decide) mw_142 rfl dX1_mustWait_4 ?_
  refine lv_iload_n hx hb dX1_mustWait_7 rfl (lv_at hl 1 rfl) ?_
  refine lv_iload_n hx hb dX1_mustWait_8 rfl (lv_at hl 3 rfl) ?_
  obtain ⟨q9, hq9, hf⟩ := bd_some hf
  refine kcSi C (kX4_place (l := l) (D := D) (k := k) x1 x3 q9 hq9) mt_X4_place mw_500 ⟨rfl, rfl, Nat.le_of_ble_eq_true rfl, Nat.le_of_ble_eq_true rfl⟩ hP hD hS [] rfl rfl [none, none, none, none, none, none, none] rfl rfl (w2 := (wX1_mustWait k h0 h1 h2 h3 h4 h5 h6 z0 z1 z2 z3 z4 z5 z6 z7 z8 z9 z10 z11 z12 z13 z14 z15 z16 v_letterRows v_rules v_tokens v_lasts)) rfl rfl rfl hl.1 (rest := [.ref h5]) (Nat.le_of_ble_eq_true rfl) rfl dX1_mustWait_9 ⟨Nat.zero_le _, Nat.zero_le _⟩ (fun H locs hP hD hS => ?_)
  obtain ⟨hin, hf⟩ := gd_some hf
  refine kiald C hP 5 rfl hin dX1_mustWait_12 (j := q9.toNatClampNeg) rfl ?_
  refine lv_iconst (v := (1 : Int32)) hx hb dX1_mustWait_13 (by decide) ?_
  obtain ⟨v22, hv22, hf⟩ := bd_some hf
  have hj22 : ∀ (H : Heap) (locs : List Loc) (ls : Array Slot), va_P D vwCl (wX1_mustWait k h0 h1 h2 h3 h4 h5 h6 z0 z1 z2 z3 z4 z5 z6 z7 z8 z9 z10 z11 z12 z13 z14 z15 z16 v_letterRows v_rules v_tokens v_lasts) H → va_D A (wX1_mustWait k h0 h1 h2 h3 h4 h5 h6 z0 z1 z2 z3 z4 z5 z6 z7 z8 z9 z10 z11 z12 z13 z14 z15 z16 v_letterRows v_rules v_tokens v_lasts) → va_S A s.heap H locs → lv_has ls 5 [(0, .ref h0), (1, .int x1), (2, .int x2), (3, .int x3)] → W p l e ({ frames := 2, cells := 0, slots := 0, locals := 46 } : Room) s m args below meth c H locs 0 0 Q (F0 m 22 ls [.int v22]) := by
    intro H locs ls hP hD hS hl
    refine lv_istore (lv' := [(4, .int v22), (0, .ref h0), (1, .int x1), (2, .int x2), (3, .int x3)]) hx hb dX1_mustWait_22 hl (by decide) rfl (fun ls hl => ?_)
    refine lv_aload_n hx hb dX1_mustWait_24 rfl (lv_at hl 1 rfl) ?_
    refine kget C inX1 hP 0 rfl rfl 0 (by decide) mw_194 rfl dX1_mustWait_25 ?_
    refine kget C inX4 hP 1 rfl rfl 1 (by decide) mw_133 rfl dX1_mustWait_28 ?_
    refine lv_iconst (v := (1 : Int32)) hx hb dX1_mustWait_31 (by decide) ?_
    refine kiald C hP 4 rfl (by unfold vp_in; decide) dX1_mustWait_32 (j := 1) (by decide) ?_
    by_cases hc0 : (v_rules 1) = (0 : Int32)
    · rw [if_pos hc0] at hf
      refine lv_tableIn (tgt := 60) hx hb dX1_mustWait_33 (by rw [hc0]; decide) (by rw [hc0]; decide) (by rw [hc0]; first | done | rfl) (by decide) ?_
      refine lv_iconst (v := (0 : Int32)) hx hb dX1_mustWait_60 (by decide) ?_
      obtain rfl := Option.some.inj hf
      exact hret _ _ _ _ dX1_mustWait_61 (by decide) hP hS
    · rw [if_neg hc0] at hf
      by_cases hc1 : (v_rules 1) = (1 : Int32)
      · rw [if_pos hc1] at hf
        refine lv_tableIn (tgt := 62) hx hb dX1_mustWait_33 (by rw [hc1]; decide) (by rw [hc1]; decide) (by rw [hc1]; first | done | rfl) (by decide) ?_
        refine lv_iload hx hb dX1_mustWait_62 (lv_at hl 0 rfl) ?_
        obtain ⟨h01, hf⟩ := tf_some hf
        obtain rfl := Option.some.inj hf
        exact hret _ _ _ _ dX1_mustWait_64 h01 hP hS
      · rw [if_neg hc1] at hf
        by_cases hc2 : (v_rules 1) = (2 : Int32)
        · rw [if_pos hc2] at hf
          refine lv_tableIn (tgt := 65) hx hb dX1_mustWait_33 (by rw [hc2]; decide) (by rw [hc2]; decide) (by rw [hc2]; first | done | rfl) (by decide) ?_
          refine lv_iload hx hb dX1_mustWait_65 (lv_at hl 0 rfl) ?_
          refine lv_if_eq (tgt := 92) hx hb dX1_mustWait_67 (by decide) (fun hc => ?_) (fun hc => ?_)
          · rw [if_pos hc] at hf
            refine lv_iconst (v := (0 : Int32)) hx hb dX1_mustWait_92 (by decide) ?_
            obtain rfl := Option.some.inj hf
            exact hret _ _ _ _ dX1_mustWait_93 (by decide) hP hS
          · rw [if_neg hc] at hf
            refine lv_aload_n hx hb dX1_mustWait_70 rfl (lv_at hl 1 rfl) ?_
            refine lv_iload_n hx hb dX1_mustWait_71 rfl (lv_at hl 2 rfl) ?_
            refine lv_iload_n hx hb dX1_mustWait_72 rfl (lv_at hl 3 rfl) ?_
            refine lv_aload_n hx hb dX1_mustWait_73 rfl (lv_at hl 1 rfl) ?_
            refine kget C inX1 hP 0 rfl rfl 1 (by decide) mw_195 rfl dX1_mustWait_74 ?_
            refine lv_iload_n hx hb dX1_mustWait_77 rfl (lv_at hl 4 rfl) ?_
            refine lv_iconst (v := (2 : Int32)) hx hb dX1_mustWait_78 (by decide) ?_
            obtain ⟨q79, hq79, hf⟩ := bd_some hf
            refine kcVi C (kX0_ofLetter (l := l) (D := D) (k := k) h2 h3 z12 z13 z14 z15 z16 v_letterRows x3 (2 : Int32) q79 hq79) mt_X0_ofLetter mw_499 ⟨rfl, rfl, Nat.le_of_ble_eq_true rfl, Nat.le_of_ble_eq_true rfl⟩ hP hD hS 2 rfl rfl rfl [2, 3] rfl rfl [none, none, some 0, some 1, none, none, none] rfl rfl (w2 := (wX1_mustWait k h0 h1 h2 h3 h4 h5 h6 z0 z1 z2 z3 z4 z5 z6 z7 z8 z9 z10 z11 z12 z13 z14 z15 z16 v_letterRows v_rules v_tokens v_lasts)) rfl rfl rfl hl.1 (rest := [.int x2, .int x1, .ref h0]) (Nat.le_of_ble_eq_true rfl) rfl dX1_mustWait_79 ⟨Nat.zero_le _, Nat.zero_le _⟩ (fun H locs hP hD hS => ?_)
            obtain ⟨q82, hq82, hf⟩ := bd_some hf
            refine kcVi C (kX1_metLater (l := l) (D := D) (k := k) h0 h1 h4 h6 (.ref h2) z0 z1 z2 z3 (.ref h2) z4 z5 (.ref h5) z6 z7 z8 z9 z10 z11 v_rules v_lasts x1 x2 q79 q82 hq82) mt_X1_metLater mw_550 ⟨rfl, rfl, Nat.le_of_ble_eq_true rfl, Nat.le_of_ble_eq_true rfl⟩ hP hD hS 0 rfl rfl rfl [0, 1, 4, 6] rfl rfl [some 0, some 1, none, none, some 2, none, some 3] rfl rfl (w2 := (wX1_mustWait k h0 h1 h2 h3 h4 h5 h6 z0 z1 z2 z3 z4 z5 z6 z7 z8 z9 z10 z11 z12 z13 z14 z15 z16 v_letterRows v_rules v_tokens v_lasts)) rfl rfl rfl hl.1 (rest := []) (Nat.le_of_ble_eq_true rfl) rfl dX1_mustWait_82 ⟨Nat.zero_le _, Nat.zero_le _⟩ (fun H locs hP hD hS => ?_)
            refine lv_if_ne (tgt := 92) hx hb dX1_mustWait_85 (by decide) (fun hc => ?_) (fun hc => ?_)
            · rw [if_neg hc] at hf
              refine lv_iconst (v := (0 : Int32)) hx hb dX1_mustWait_92 (by decide) ?_
              obtain rfl := Option.some.inj hf
              exact hret _ _ _ _ dX1_mustWait_93 (by decide) hP hS
            · rw [if_pos hc] at hf
              refine lv_iconst (v := (1 : Int32)) hx hb dX1_mustWait_88 (by decide) ?_
              refine lv_goto (tgt := 93) hx hb dX1_mustWait_89 (by decide) ?_
              obtain rfl := Option.some.inj hf
              exact hret _ _ _ _ dX1_mustWait_93 (by decide) hP hS
        · rw [if_neg hc2] at hf
          have hd : W p l e ({ frames := 2, cells := 0, slots := 0, locals := 46 } : Room) s m args below meth c H locs 0 0 Q (F0 m 94 ls []) := by
            refine lv_iconst (v := (1 : Int32)) hx hb dX1_mustWait_94 (by decide) ?_
            obtain rfl := Option.some.inj hf
            exact hret _ _ _ _ dX1_mustWait_95 (by decide) hP hS
          exact lv_tableOut (tgt := 94) hx hb dX1_mustWait_33 (by have := lv_neT hc0 (show ((0 : Int32)).toInt = 0 from rfl); have := lv_neT hc1 (show ((1 : Int32)).toInt = 1 from rfl); have := lv_neT hc2 (show ((2 : Int32)).toInt = 2 from rfl); omega) (by decide) hd
  clear hf
  have hf := hv22
  refine lv_icmp_ne (tgt := 21) hx hb dX1_mustWait_14 (by decide) (fun hc => ?_) (fun hc => ?_)
  · rw [if_neg hc] at hf
    refine lv_iconst (v := (0 : Int32)) hx hb dX1_mustWait_21 (by decide) ?_
    obtain rfl := Option.some.inj hf
    exact hj22 _ _ _ hP hD hS (lv_sub hl [0, 1, 2, 3] rfl)
  · rw [if_pos hc] at hf
    refine lv_iconst (v := (1 : Int32)) hx hb dX1_mustWait_17 (by decide) ?_
    refine lv_goto (tgt := 22) hx hb dX1_mustWait_18 (by decide) ?_
    obtain rfl := Option.some.inj hf
    exact hj22 _ _ _ hP hD hS (lv_sub hl [0, 1, 2, 3] rfl)
set_option maxHeartbeats 4000000 in
set_option maxRecDepth 100000 in
theorem kX1_reasonAgainst {l : Launch} {D : va_G} {k : Nat → ClassId} (h0 h1 h2 h3 h4 h5 h6 h7 : Nat) (z0 z1 z2 z3 z4 z5 z6 z7 z8 z9 z10 z11 z12 z13 z14 : Value) (v_letters : Int32) (v_rooms : Nat → Int32) (v_letterRows : Nat → Int32) (v_rules : Nat → Int32) (v_tokens : Nat → Int32) (v_lasts : Nat → Int32) (x1 : Int32) (x2 : Int32) (x3 : Int32) (x4 : Int32) (q : Int32) (hf : fX1_reasonAgainst v_letters v_rooms v_letterRows v_rules v_tokens v_lasts x1 x2 x3 x4 = some q) : KMi l yX1_reasonAgainst cX1_reasonAgainst 6 (some .int) ({ frames := 3, cells := 0, slots := 0, locals := 70 } : Room) D k [.ref h0, .int x1, .int x2, .int x3, .int x4] (wX1_reasonAgainst k h0 h1 h2 h3 h4 h5 h6 h7 z0 z1 z2 z3 z4 z5 z6 z7 z8 z9 z10 z11 z12 z13 z14 v_letters v_rooms v_letterRows v_rules v_tokens v_lasts) q (wX1_reasonAgainst k h0 h1 h2 h3 h4 h5 h6 h7 z0 z1 z2 z3 z4 z5 z6 z7 z8 z9 z10 z11 z12 z13 z14 v_letters v_rooms v_letterRows v_rules v_tokens v_lasts) := by
  refine kent_i (by decide) (Nat.le_of_ble_eq_true rfl) ?_
  intro p e s m below meth c A Q ls C hP hD hS hl hret
  obtain ⟨hx, hb, -⟩ := id C
  have hl : lv_has ls 6 [(0, .ref h0), (1, .int x1), (2, .int x2), (3, .int x3), (4, .int x4)] := hl
  unfold fX1_reasonAgainst at hf
  generalize ([.ref h0, .int x1, .int x2, .int x3, .int x4] : List Value).toArray = args at *
  refine lv_aload_n hx hb dX1_reasonAgainst_0 rfl (lv_at hl 0 rfl) ?_
  refine kget C inX1 hP 0 rfl rfl 0 (by decide) mw_194 rfl dX1_reasonAgainst_1 ?_
  refine lv_iload_n hx hb dX1_reasonAgainst_4 rfl (lv_at hl 2 rfl) ?_
  refine lv_iload_n hx hb dX1_reasonAgainst_5 rfl (lv_at hl 3 rfl) ?_
  obtain ⟨q6, hq6, hf⟩ := bd_some hf
  refine kcVi C (kX4_hasCopy (l := l) (D := D) (k := k) h1 h6 (.ref h2) (.ref h5) z4 z5 z6 z7 z8 (.ref h7) z9 z10 z11 v_tokens x2 x3 q6 hq6) mt_X4_hasCopy mw_494 ⟨rfl, rfl, Nat.le_of_ble_eq_true rfl, Nat.le_of_ble_eq_true rfl⟩ hP hD hS 1 rfl rfl rfl [1, 6] rfl rfl [none, some 0, none, none, none, none, some 1, none] rfl rfl (w2 := (wX1_reasonAgainst k h0 h1 h2 h3 h4 h5 h6 h7 z0 z1 z2 z3 z4 z5 z6 z7 z8 z9 z10 z11 z12 z13 z14 v_letters v_rooms v_letterRows v_rules v_tokens v_lasts)) rfl rfl rfl hl.1 (rest := []) (Nat.le_of_ble_eq_true rfl) rfl dX1_reasonAgainst_6 ⟨Nat.zero_le _, Nat.zero_le _⟩ (fun H locs hP hD hS => ?_)
  refine lv_if_eq (tgt := 14) hx hb dX1_reasonAgainst_9 (by decide) (fun hc => ?_) (fun hc => ?_)
  · rw [if_pos hc] at hf
    refine lv_aload_n hx hb dX1_reasonAgainst_14 rfl (lv_at hl 0 rfl) ?_
    refine kget C inX1 hP 0 rfl rfl 1 (by decide) mw_195 rfl dX1_reasonAgainst_15 ?_
    refine lv_iload_n hx hb dX1_reasonAgainst_18 rfl (lv_at hl 3 rfl) ?_
    refine lv_iconst (v := (2 : Int32)) hx hb dX1_reasonAgainst_19 (by decide) ?_
    obtain ⟨q20, hq20, hf⟩ := bd_some hf
    refine kcVi C (kX0_ofLetter (l := l) (D := D) (k := k) h2 h4 (.ref h3) z12 z13 z14 (.int v_letters) v_letterRows x3 (2 : Int32) q20 hq20) mt_X0_ofLetter mw_499 ⟨rfl, rfl, Nat.le_of_ble_eq_true rfl, Nat.le_of_ble_eq_true rfl⟩ hP hD hS 2 rfl rfl rfl [2, 4] rfl rfl [none, none, some 0, none, some 1, none, none, none] rfl rfl (w2 := (wX1_reasonAgainst k h0 h1 h2 h3 h4 h5 h6 h7 z0 z1 z2 z3 z4 z5 z6 z7 z8 z9 z10 z11 z12 z13 z14 v_letters v_rooms v_letterRows v_rules v_tokens v_lasts)) rfl rfl rfl hl.1 (rest := []) (Nat.le_of_ble_eq_true rfl) rfl dX1_reasonAgainst_20 ⟨Nat.zero_le _, Nat.zero_le _⟩ (fun H locs hP hD hS => ?_)
    refine lv_iload_n hx hb dX1_reasonAgainst_23 rfl (lv_at hl 2 rfl) ?_
    obtain ⟨v32, hv32, hf⟩ := bd_some hf
    have hj32 : ∀ (H : Heap) (locs : List Loc) (ls : Array Slot), va_P D vwCl (wX1_reasonAgainst k h0 h1 h2 h3 h4 h5 h6 h7 z0 z1 z2 z3 z4 z5 z6 z7 z8 z9 z10 z11 z12 z13 z14 v_letters v_rooms v_letterRows v_rules v_tokens v_lasts) H → va_D A (wX1_reasonAgainst k h0 h1 h2 h3 h4 h5 h6 h7 z0 z1 z2 z3 z4 z5 z6 z7 z8 z9 z10 z11 z12 z13 z14 v_letters v_rooms v_letterRows v_rules v_tokens v_lasts) → va_S A s.heap H locs → lv_has ls 6 [(0, .ref h0), (1, .int x1), (2, .int x2), (3, .int x3), (4, .int x4)] → W p l e ({ frames := 3, cells := 0, slots := 0, locals := 70 } : Room) s m args below meth c H locs 0 0 Q (F0 m 32 ls [.int v32]) := by
      intro H locs ls hP hD hS hl
      refine lv_istore (lv' := [(5, .int v32), (0, .ref h0), (1, .int x1), (2, .int x2), (3, .int x3), (4, .int x4)]) hx hb dX1_reasonAgainst_32 hl (by decide) rfl (fun ls hl => ?_)
      refine lv_iload hx hb dX1_reasonAgainst_34 (lv_at hl 0 rfl) ?_
      obtain ⟨u51, hv51, hf⟩ := lp_some hf
      have hr51 : ∀ t, u51 = .inl t → ∀ (H : Heap) (locs : List Loc) (ls : Array Slot) (pc : Nat), decode cX1_reasonAgainst pc = .ok (.ireturn, 1) → va_P D vwCl (wX1_reasonAgainst k h0 h1 h2 h3 h4 h5 h6 h7 z0 z1 z2 z3 z4 z5 z6 z7 z8 z9 z10 z11 z12 z13 z14 v_letters v_rooms v_letterRows v_rules v_tokens v_lasts) H → va_S A s.heap H locs → W p l e ({ frames := 3, cells := 0, slots := 0, locals := 70 } : Room) s m args below meth c H locs 0 0 Q (F0 m pc ls [.int t]) := by
        intro t ht H locs ls pc hdg hP hS
        subst ht
        obtain rfl := Option.some.inj hf
        exact hret _ _ _ _ hdg hP hS
      have hj51 : ∀ v51, u51 = .inr v51 → ∀ (H : Heap) (locs : List Loc) (ls : Array Slot), va_P D vwCl (wX1_reasonAgainst k h0 h1 h2 h3 h4 h5 h6 h7 z0 z1 z2 z3 z4 z5 z6 z7 z8 z9 z10 z11 z12 z13 z14 v_letters v_rooms v_letterRows v_rules v_tokens v_lasts) H → va_D A (wX1_reasonAgainst k h0 h1 h2 h3 h4 h5 h6 h7 z0 z1 z2 z3 z4 z5 z6 z7 z8 z9 z10 z11 z12 z13 z14 v_letters v_rooms v_letterRows v_rules v_tokens v_lasts) → va_S A s.heap H locs → lv_has ls 6 [(0, .ref h0), (2, .int x2), (3, .int x3), (4, .int x4), (5, .int v32)] → W p l e ({ frames := 3, cells := 0, slots := 0, locals := 70 } : Room) s m args below meth c H locs 0 0 Q (F0 m 51 ls []) := by
        intro v51 ht H locs ls hP hD hS hl
        subst ht
        refine lv_aload_n hx hb dX1_reasonAgainst_51 rfl (lv_at hl 0 rfl) ?_
        refine kget C inX1 hP 0 rfl rfl 1 (by decide) mw_195 rfl dX1_reasonAgainst_52 ?_
        refine lv_iload_n hx hb dX1_reasonAgainst_55 rfl (lv_at hl 2 rfl) ?_
        refine lv_iconst (v := (3 : Int32)) hx hb dX1_reasonAgainst_56 (by decide) ?_
        obtain ⟨q57, hq57, hf⟩ := bd_some hf
        refine kcVi C (kX0_ofLetter (l := l) (D := D) (k := k) h2 h4 (.ref h3) z12 z13 z14 (.int v_letters) v_letterRows x3 (3 : Int32) q57 hq57) mt_X0_ofLetter mw_499 ⟨rfl, rfl, Nat.le_of_ble_eq_true rfl, Nat.le_of_ble_eq_true rfl⟩ hP hD hS 2 rfl rfl rfl [2, 4] rfl rfl [none, none, some 0, none, some 1, none, none, none] rfl rfl (w2 := (wX1_reasonAgainst k h0 h1 h2 h3 h4 h5 h6 h7 z0 z1 z2 z3 z4 z5 z6 z7 z8 z9 z10 z11 z12 z13 z14 v_letters v_rooms v_letterRows v_rules v_tokens v_lasts)) rfl rfl rfl hl.1 (rest := []) (Nat.le_of_ble_eq_true rfl) rfl dX1_reasonAgainst_57 ⟨Nat.zero_le _, Nat.zero_le _⟩ (fun H locs hP hD hS => ?_)
        refine lv_iload hx hb dX1_reasonAgainst_60 (lv_at hl 3 rfl) ?_
        refine lv_icmp_le (tgt := 67) hx hb dX1_reasonAgainst_62 (by decide) (fun hc => ?_) (fun hc => ?_)
        · rw [if_pos hc] at hf
          refine lv_iload hx hb dX1_reasonAgainst_67 (lv_at hl 4 rfl) ?_
          refine lv_if_eq (tgt := 76) hx hb dX1_reasonAgainst_69 (by decide) (fun hc => ?_) (fun hc => ?_)
          · rw [if_pos hc] at hf
            refine lv_aload_n hx hb dX1_reasonAgainst_76 rfl (lv_at hl 0 rfl) ?_
            refine lv_iload_n hx hb dX1_reasonAgainst_77 rfl (lv_at hl 1 rfl) ?_
            refine lv_iload_n hx hb dX1_reasonAgainst_78 rfl (lv_at hl 2 rfl) ?_
            obtain ⟨q79, hq79, hf⟩ := bd_some hf
            refine kcVi C (kX1_lackOfRoom (l := l) (D := D) (k := k) h0 h1 h2 h3 h4 h5 h6 z0 z1 z2 z3 z4 z5 z6 z7 z8 (.ref h7) z9 z10 z11 z12 z13 z14 v_letters v_rooms v_letterRows v_rules v_tokens x2 x3 q79 hq79) mt_X1_lackOfRoom mw_555 ⟨rfl, rfl, Nat.le_of_ble_eq_true rfl, Nat.le_of_ble_eq_true rfl⟩ hP hD hS 0 rfl rfl rfl [0, 1, 2, 3, 4, 5, 6] rfl rfl [some 0, some 1, some 2, some 3, some 4, some 5, some 6, none] rfl rfl (w2 := (wX1_reasonAgainst k h0 h1 h2 h3 h4 h5 h6 h7 z0 z1 z2 z3 z4 z5 z6 z7 z8 z9 z10 z11 z12 z13 z14 v_letters v_rooms v_letterRows v_rules v_tokens v_lasts)) rfl rfl rfl hl.1 (rest := []) (Nat.le_of_ble_eq_true rfl) rfl dX1_reasonAgainst_79 ⟨Nat.zero_le _, Nat.zero_le _⟩ (fun H locs hP hD hS => ?_)
            obtain rfl := Option.some.inj hf
            exact hret _ _ _ _ dX1_reasonAgainst_82 hP hS
          · rw [if_neg hc] at hf
            refine lv_iconst (v := (0 : Int32)) hx hb dX1_reasonAgainst_72 (by decide) ?_
            refine lv_goto (tgt := 82) hx hb dX1_reasonAgainst_73 (by decide) ?_
            obtain rfl := Option.some.inj hf
            exact hret _ _ _ _ dX1_reasonAgainst_82 hP hS
        · rw [if_neg hc] at hf
          refine lv_iconst (v := (3 : Int32)) hx hb dX1_reasonAgainst_65 (by decide) ?_
          obtain rfl := Option.some.inj hf
          exact hret _ _ _ _ dX1_reasonAgainst_66 hP hS
      clear hf
      have hf := hv51
      refine lv_if_ne (tgt := 51) hx hb dX1_reasonAgainst_36 (by decide) (fun hc => ?_) (fun hc => ?_)
      · rw [if_neg hc] at hf
        obtain rfl := Option.some.inj hf
        exact hj51 _ rfl _ _ _ hP hD hS (lv_sub hl [1, 3, 4, 5, 0] rfl)
      · rw [if_pos hc] at hf
        refine lv_aload_n hx hb dX1_reasonAgainst_39 rfl (lv_at hl 1 rfl) ?_
        refine lv_iload_n hx hb dX1_reasonAgainst_40 rfl (lv_at hl 2 rfl) ?_
        refine lv_iload_n hx hb dX1_reasonAgainst_41 rfl (lv_at hl 3 rfl) ?_
        refine lv_iload_n hx hb dX1_reasonAgainst_42 rfl (lv_at hl 4 rfl) ?_
        obtain ⟨q43, hq43, hf⟩ := bd_some hf
        refine kcVi C (kX1_mustWait (l := l) (D := D) (k := k) h0 h1 h2 h4 h5 h6 h7 z0 z1 z2 z3 z4 z5 z6 z7 z8 z9 z10 z11 (.ref h3) z12 z13 z14 (.int v_letters) v_letterRows v_rules v_tokens v_lasts x1 x2 x3 q43 hq43) mt_X1_mustWait mw_546 ⟨rfl, rfl, Nat.le_of_ble_eq_true rfl, Nat.le_of_ble_eq_true rfl⟩ hP hD hS 0 rfl rfl rfl [0, 1, 2, 4, 5, 6, 7] rfl rfl [some 0, some 1, some 2, none, some 3, some 4, some 5, some 6] rfl rfl (w2 := (wX1_reasonAgainst k h0 h1 h2 h3 h4 h5 h6 h7 z0 z1 z2 z3 z4 z5 z6 z7 z8 z9 z10 z11 z12 z13 z14 v_letters v_rooms v_letterRows v_rules v_tokens v_lasts)) rfl rfl rfl hl.1 (rest := []) (Nat.le_of_ble_eq_true rfl) rfl dX1_reasonAgainst_43 ⟨Nat.zero_le _, Nat.zero_le _⟩ (fun H locs hP hD hS => ?_)
        refine lv_if_eq (tgt := 51) hx hb dX1_reasonAgainst_46 (by decide) (fun hc => ?_) (fun hc => ?_)
        · rw [if_pos hc] at hf
          obtain rfl := Option.some.inj hf
          exact hj51 _ rfl _ _ _ hP hD hS (lv_sub hl [1, 3, 4, 5, 0] rfl)
        · rw [if_neg hc] at hf
          refine lv_iconst (v := (2 : Int32)) hx hb dX1_reasonAgainst_49 (by decide) ?_
          obtain rfl := Option.some.inj hf
          exact hr51 _ rfl _ _ _ _ dX1_reasonAgainst_50 hP hS
    clear hf
    have hf := hv32
    refine lv_icmp_ne (tgt := 31) hx hb dX1_reasonAgainst_24 (by decide) (fun hc => ?_) (fun hc => ?_)
    · rw [if_neg hc] at hf
      refine lv_iconst (v := (0 : Int32)) hx hb dX1_reasonAgainst_31 (by decide) ?_
      obtain rfl := Option.some.inj hf
      exact hj32 _ _ _ hP hD hS (lv_sub hl [0, 1, 2, 3, 4] rfl)
    · rw [if_pos hc] at hf
      refine lv_iconst (v := (1 : Int32)) hx hb dX1_reasonAgainst_27 (by decide) ?_
      refine lv_goto (tgt := 32) hx hb dX1_reasonAgainst_28 (by decide) ?_
      obtain rfl := Option.some.inj hf
      exact hj32 _ _ _ hP hD hS (lv_sub hl [0, 1, 2, 3, 4] rfl)
  · rw [if_neg hc] at hf
    refine lv_iconst (v := (1 : Int32)) hx hb dX1_reasonAgainst_12 (by decide) ?_
    obtain rfl := Option.some.inj hf
    exact hret _ _ _ _ dX1_reasonAgainst_13 hP hS
set_option maxHeartbeats 4000000 in
set_option maxRecDepth 100000 in
theorem kX1_deliver {l : Launch} {D : va_G} {k : Nat → ClassId} (h0 h1 h2 h3 h4 h5 h6 h7 h8 h9 : Nat) (z0 z1 z2 z3 z4 z5 z6 z7 z8 z9 z10 z11 z12 : Value) (v_clock : Int32) (v_letterRows : Nat → Int32) (v_counts : Nat → Int32) (v_tokens : Nat → Int32) (v_hops : Nat → Int32) (v_notes : Nat → Int32) (v_deliveredAt : Nat → Int32) (v_deliveredHops : Nat → Int32) (x1 : Int32) (x2 : Int32) (x3 : Int32) (q : (Nat → Int32) × (Nat → Int32) × (Nat → Int32) × (Nat → Int32) × (Nat → Int32)) (hf : fX1_deliver v_clock v_letterRows v_counts v_tokens v_hops v_notes v_deliveredAt v_deliveredHops x1 x2 x3 = some q) : KMv l yX1_deliver cX1_deliver 4 ({ frames := 2, cells := 0, slots := 0, locals := 43 } : Room) D k [.ref h0, .int x1, .int x2, .int x3] (wX1_deliver k h0 h1 h2 h3 h4 h5 h6 h7 h8 h9 z0 z1 z2 z3 z4 z5 z6 z7 z8 z9 z10 z11 z12 v_clock v_letterRows v_counts v_tokens v_hops v_notes v_deliveredAt v_deliveredHops) (wX1_deliver k h0 h1 h2 h3 h4 h5 h6 h7 h8 h9 z0 z1 z2 z3 z4 z5 z6 z7 z8 z9 z10 z11 z12 v_clock v_letterRows q.1 q.2.1 v_hops q.2.2.1 q.2.2.2.1 q.2.2.2.2) := by
  refine kent_v (by decide) (Nat.le_of_ble_eq_true rfl) ?_
  intro p e s m below meth c A Q ls C hP hD hS hl hret
  obtain ⟨hx, hb, -⟩ := id C
  have hl : lv_has ls 4 [(0, .ref h0), (1, .int x1), (2, .int x2), (3, .int x3)] := hl
  unfold fX1_deliver at hf
  generalize ([.ref h0, .int x1, .int x2, .int x3] : List Value).toArray = args at *
  refine lv_aload_n hx hb dX1_deliver_0 rfl (lv_at hl 0 rfl) ?_
  refine kget C inX1 hP 0 rfl rfl 0 (by decide) mw_194 rfl dX1_deliver_1 ?_
  refine kget C inX4 hP 1 rfl rfl 9 (by decide) mw_155 rfl dX1_deliver_4 ?_
  refine lv_iload_n hx hb dX1_deliver_7 rfl (lv_at hl 3 rfl) ?_
  obtain ⟨hin, hf⟩ := gd_some hf
  refine kiald C hP 8 rfl hin dX1_deliver_8 (j := x3.toNatClampNeg) rfl ?_
  refine lv_bipush (v := (-4 : Int32)) hx hb dX1_deliver_9 (by decide) ?_
  obtain ⟨v97, hv97, hf⟩ := bd_some hf
  have hj97 : ∀ (H : Heap) (locs : List Loc) (ls : Array Slot), va_P D vwCl (wX1_deliver k h0 h1 h2 h3 h4 h5 h6 h7 h8 h9 z0 z1 z2 z3 z4 z5 z6 z7 z8 z9 z10 z11 z12 v_clock v_letterRows v97.1 v_tokens v_hops v_notes v97.2.1 v97.2.2) H → va_D A (wX1_deliver k h0 h1 h2 h3 h4 h5 h6 h7 h8 h9 z0 z1 z2 z3 z4 z5 z6 z7 z8 z9 z10 z11 z12 v_clock v_letterRows v97.1 v_tokens v_hops v_notes v97.2.1 v97.2.2) → va_S A s.heap H locs → lv_has ls 4 [(0, .ref h0), (1, .int x1), (2, .int x2), (3, .int x3)] → W p l e ({ frames := 2, cells := 0, slots := 0, locals := 43 } : Room) s m args below meth c H locs 0 0 Q (F0 m 97 ls []) := by
    intro H locs ls hP hD hS hl
    refine lv_aload_n hx hb dX1_deliver_97 rfl (lv_at hl 0 rfl) ?_
    refine kget C inX1 hP 0 rfl rfl 0 (by decide) mw_194 rfl dX1_deliver_98 ?_
    refine lv_iload_n hx hb dX1_deliver_101 rfl (lv_at hl 1 rfl) ?_
    refine lv_iload_n hx hb dX1_deliver_102 rfl (lv_at hl 3 rfl) ?_
    obtain ⟨q103, hq103, hf⟩ := bd_some hf
    refine kcVv C (kX4_removeCopy (l := l) (D := D) (k := k) h1 h5 (.ref h2) z4 (.ref h4) z5 (.ref h6) z6 (.ref h7) z7 (.ref h8) (.ref h9) (.int v_clock) v_tokens x1 x3 q103 hq103) mt_X4_removeCopy mw_580 ⟨rfl, rfl, Nat.le_of_ble_eq_true rfl, Nat.le_of_ble_eq_true rfl⟩ hP hD hS 1 rfl rfl rfl [1, 5] rfl rfl [none, some 0, none, none, none, some 1, none, none, none, none] rfl rfl (w2 := (wX1_deliver k h0 h1 h2 h3 h4 h5 h6 h7 h8 h9 z0 z1 z2 z3 z4 z5 z6 z7 z8 z9 z10 z11 z12 v_clock v_letterRows v97.1 q103 v_hops v_notes v97.2.1 v97.2.2)) rfl rfl rfl hl.1 (rest := []) (Nat.le_of_ble_eq_true rfl) rfl dX1_deliver_103 ⟨Nat.zero_le _, Nat.zero_le _⟩ (fun H locs hP hD hS => ?_)
    refine lv_aload_n hx hb dX1_deliver_106 rfl (lv_at hl 0 rfl) ?_
    refine kget C inX1 hP 0 rfl rfl 0 (by decide) mw_194 rfl dX1_deliver_107 ?_
    refine kget C inX4 hP 1 rfl rfl 7 (by decide) mw_151 rfl dX1_deliver_110 ?_
    refine lv_iload_n hx hb dX1_deliver_113 rfl (lv_at hl 1 rfl) ?_
    refine lv_dup2_11 hx hb dX1_deliver_114 rfl rfl ?_
    obtain ⟨hin, hf⟩ := gd_some hf
    refine kiald C hP 7 rfl hin dX1_deliver_115 (j := x1.toNatClampNeg) rfl ?_
    refine lv_iconst (v := (1 : Int32)) hx hb dX1_deliver_116 (by decide) ?_
    refine lv_iload_n hx hb dX1_deliver_117 rfl (lv_at hl 3 rfl) ?_
    refine lv_ishl hx hb dX1_deliver_118 ?_
    refine lv_ior hx hb dX1_deliver_119 ?_
    obtain ⟨hin, hf⟩ := gd_some hf
    obtain ⟨v_notes_120, hn120, hf⟩ := nm_some hf
    refine kiast C hP hD hS 7 rfl hin dX1_deliver_120 (j := x1.toNatClampNeg) rfl (g := v_notes_120) hn120 (w2 := (wX1_deliver k h0 h1 h2 h3 h4 h5 h6 h7 h8 h9 z0 z1 z2 z3 z4 z5 z6 z7 z8 z9 z10 z11 z12 v_clock v_letterRows v97.1 q103 v_hops v_notes_120 v97.2.1 v97.2.2)) rfl (fun H locs hP hD hS => ?_)
    refine lv_aload_n hx hb dX1_deliver_121 rfl (lv_at hl 0 rfl) ?_
    refine kget C inX1 hP 0 rfl rfl 0 (by decide) mw_194 rfl dX1_deliver_122 ?_
    refine kget C inX4 hP 1 rfl rfl 7 (by decide) mw_151 rfl dX1_deliver_125 ?_
    refine lv_iload_n hx hb dX1_deliver_128 rfl (lv_at hl 2 rfl) ?_
    refine lv_dup2_11 hx hb dX1_deliver_129 rfl rfl ?_
    obtain ⟨hin, hf⟩ := gd_some hf
    refine kiald C hP 7 rfl hin dX1_deliver_130 (j := x2.toNatClampNeg) rfl ?_
    refine lv_iconst (v := (1 : Int32)) hx hb dX1_deliver_131 (by decide) ?_
    refine lv_iload_n hx hb dX1_deliver_132 rfl (lv_at hl 3 rfl) ?_
    refine lv_ishl hx hb dX1_deliver_133 ?_
    refine lv_ior hx hb dX1_deliver_134 ?_
    obtain ⟨hin, hf⟩ := gd_some hf
    obtain ⟨v_notes_135, hn135, hf⟩ := nm_some hf
    refine kiast C hP hD hS 7 rfl hin dX1_deliver_135 (j := x2.toNatClampNeg) rfl (g := v_notes_135) hn135 (w2 := (wX1_deliver k h0 h1 h2 h3 h4 h5 h6 h7 h8 h9 z0 z1 z2 z3 z4 z5 z6 z7 z8 z9 z10 z11 z12 v_clock v_letterRows v97.1 q103 v_hops v_notes_135 v97.2.1 v97.2.2)) rfl (fun H locs hP hD hS => ?_)
    obtain rfl := Option.some.inj hf
    exact hret _ _ _ _ dX1_deliver_136 hP hS
  clear hf
  have hf := hv97
  refine lv_icmp_ne (tgt := 97) hx hb dX1_deliver_11 (by decide) (fun hc => ?_) (fun hc => ?_)
  · rw [if_neg hc] at hf
    obtain rfl := Option.some.inj hf
    exact hj97 _ _ _ hP hD hS (lv_sub hl [0, 1, 2, 3] rfl)
  · rw [if_pos hc] at hf
    refine lv_aload_n hx hb dX1_deliver_14 rfl (lv_at hl 0 rfl) ?_
    refine kget C inX1 hP 0 rfl rfl 0 (by decide) mw_194 rfl dX1_deliver_15 ?_
    refine kget C inX4 hP 1 rfl rfl 9 (by decide) mw_155 rfl dX1_deliver_18 ?_
    refine lv_iload_n hx hb dX1_deliver_21 rfl (lv_at hl 3 rfl) ?_
    refine lv_aload_n hx hb dX1_deliver_22 rfl (lv_at hl 0 rfl) ?_
    refine kget C inX1 hP 0 rfl rfl 0 (by decide) mw_194 rfl dX1_deliver_23 ?_
    refine kget C inX4 hP 1 rfl rfl 11 (by decide) mw_160 rfl dX1_deliver_26 ?_
    obtain ⟨hin, hf⟩ := gd_some hf
    obtain ⟨v_deliveredAt_29, hn29, hf⟩ := nm_some hf
    refine kiast C hP hD hS 8 rfl hin dX1_deliver_29 (j := x3.toNatClampNeg) rfl (g := v_deliveredAt_29) hn29 (w2 := (wX1_deliver k h0 h1 h2 h3 h4 h5 h6 h7 h8 h9 z0 z1 z2 z3 z4 z5 z6 z7 z8 z9 z10 z11 z12 v_clock v_letterRows v_counts v_tokens v_hops v_notes v_deliveredAt_29 v_deliveredHops)) rfl (fun H locs hP hD hS => ?_)
    refine lv_aload_n hx hb dX1_deliver_30 rfl (lv_at hl 0 rfl) ?_
    refine kget C inX1 hP 0 rfl rfl 0 (by decide) mw_194 rfl dX1_deliver_31 ?_
    refine kget C inX4 hP 1 rfl rfl 10 (by decide) mw_158 rfl dX1_deliver_34 ?_
    refine lv_iload_n hx hb dX1_deliver_37 rfl (lv_at hl 3 rfl) ?_
    refine lv_aload_n hx hb dX1_deliver_38 rfl (lv_at hl 0 rfl) ?_
    refine kget C inX1 hP 0 rfl rfl 0 (by decide) mw_194 rfl dX1_deliver_39 ?_
    refine kget C inX4 hP 1 rfl rfl 5 (by decide) mw_145 rfl dX1_deliver_42 ?_
    refine lv_iload_n hx hb dX1_deliver_45 rfl (lv_at hl 1 rfl) ?_
    refine lv_iload_n hx hb dX1_deliver_46 rfl (lv_at hl 3 rfl) ?_
    obtain ⟨q47, hq47, hf⟩ := bd_some hf
    refine kcSi C (kX4_place (l := l) (D := D) (k := k) x1 x3 q47 hq47) mt_X4_place mw_500 ⟨rfl, rfl, Nat.le_of_ble_eq_true rfl, Nat.le_of_ble_eq_true rfl⟩ hP hD hS [] rfl rfl [none, none, none, none, none, none, none, none, none, none] rfl rfl (w2 := (wX1_deliver k h0 h1 h2 h3 h4 h5 h6 h7 h8 h9 z0 z1 z2 z3 z4 z5 z6 z7 z8 z9 z10 z11 z12 v_clock v_letterRows v_counts v_tokens v_hops v_notes v_deliveredAt_29 v_deliveredHops)) rfl rfl rfl hl.1 (rest := [.ref h6, .int x3, .ref h9]) (Nat.le_of_ble_eq_true rfl) rfl dX1_deliver_47 ⟨Nat.zero_le _, Nat.zero_le _⟩ (fun H locs hP hD hS => ?_)
    obtain ⟨hin, hf⟩ := gd_some hf
    refine kiald C hP 6 rfl hin dX1_deliver_50 (j := q47.toNatClampNeg) rfl ?_
    refine lv_iconst (v := (1 : Int32)) hx hb dX1_deliver_51 (by decide) ?_
    refine lv_iadd hx hb dX1_deliver_52 ?_
    obtain ⟨hin, hf⟩ := gd_some hf
    obtain ⟨v_deliveredHops_53, hn53, hf⟩ := nm_some hf
    refine kiast C hP hD hS 9 rfl hin dX1_deliver_53 (j := x3.toNatClampNeg) rfl (g := v_deliveredHops_53) hn53 (w2 := (wX1_deliver k h0 h1 h2 h3 h4 h5 h6 h7 h8 h9 z0 z1 z2 z3 z4 z5 z6 z7 z8 z9 z10 z11 z12 v_clock v_letterRows v_counts v_tokens v_hops v_notes v_deliveredAt_29 v_deliveredHops_53)) rfl (fun H locs hP hD hS => ?_)
    refine lv_aload_n hx hb dX1_deliver_54 rfl (lv_at hl 0 rfl) ?_
    refine kget C inX1 hP 0 rfl rfl 0 (by decide) mw_194 rfl dX1_deliver_55 ?_
    refine kget C inX4 hP 1 rfl rfl 2 (by decide) mw_136 rfl dX1_deliver_58 ?_
    refine lv_iconst (v := (1 : Int32)) hx hb dX1_deliver_61 (by decide) ?_
    refine lv_dup2_11 hx hb dX1_deliver_62 rfl rfl ?_
    refine kiald C hP 4 rfl (by unfold vp_in; decide) dX1_deliver_63 (j := 1) (by decide) ?_
    refine lv_iconst (v := (1 : Int32)) hx hb dX1_deliver_64 (by decide) ?_
    refine lv_iadd hx hb dX1_deliver_65 ?_
    obtain ⟨v_counts_66, hn66, hf⟩ := nm_some hf
    refine kiast C hP hD hS 4 rfl (by unfold vp_in; decide) dX1_deliver_66 (j := 1) (by decide) (g := v_counts_66) hn66 (w2 := (wX1_deliver k h0 h1 h2 h3 h4 h5 h6 h7 h8 h9 z0 z1 z2 z3 z4 z5 z6 z7 z8 z9 z10 z11 z12 v_clock v_letterRows v_counts_66 v_tokens v_hops v_notes v_deliveredAt_29 v_deliveredHops_53)) rfl (fun H locs hP hD hS => ?_)
    refine lv_aload_n hx hb dX1_deliver_67 rfl (lv_at hl 0 rfl) ?_
    refine kget C inX1 hP 0 rfl rfl 0 (by decide) mw_194 rfl dX1_deliver_68 ?_
    refine kget C inX4 hP 1 rfl rfl 2 (by decide) mw_136 rfl dX1_deliver_71 ?_
    refine lv_bipush (v := (7 : Int32)) hx hb dX1_deliver_74 (by decide) ?_
    refine lv_dup2_11 hx hb dX1_deliver_76 rfl rfl ?_
    refine kiald C hP 4 rfl (by unfold vp_in; decide) dX1_deliver_77 (j := 7) (by decide) ?_
    refine lv_aload_n hx hb dX1_deliver_78 rfl (lv_at hl 0 rfl) ?_
    refine kget C inX1 hP 0 rfl rfl 0 (by decide) mw_194 rfl dX1_deliver_79 ?_
    refine kget C inX4 hP 1 rfl rfl 11 (by decide) mw_160 rfl dX1_deliver_82 ?_
    refine lv_aload_n hx hb dX1_deliver_85 rfl (lv_at hl 0 rfl) ?_
    refine kget C inX1 hP 0 rfl rfl 1 (by decide) mw_195 rfl dX1_deliver_86 ?_
    refine lv_iload_n hx hb dX1_deliver_89 rfl (lv_at hl 3 rfl) ?_
    refine lv_iconst (v := (0 : Int32)) hx hb dX1_deliver_90 (by decide) ?_
    obtain ⟨q91, hq91, hf⟩ := bd_some hf
    refine kcVi C (kX0_ofLetter (l := l) (D := D) (k := k) h2 h3 z8 z9 z10 z11 z12 v_letterRows x3 (0 : Int32) q91 hq91) mt_X0_ofLetter mw_499 ⟨rfl, rfl, Nat.le_of_ble_eq_true rfl, Nat.le_of_ble_eq_true rfl⟩ hP hD hS 2 rfl rfl rfl [2, 3] rfl rfl [none, none, some 0, some 1, none, none, none, none, none, none] rfl rfl (w2 := (wX1_deliver k h0 h1 h2 h3 h4 h5 h6 h7 h8 h9 z0 z1 z2 z3 z4 z5 z6 z7 z8 z9 z10 z11 z12 v_clock v_letterRows v_counts_66 v_tokens v_hops v_notes v_deliveredAt_29 v_deliveredHops_53)) rfl rfl rfl hl.1 (rest := [.int v_clock, .int (v_counts_66 7), .int (7 : Int32), .ref h4]) (Nat.le_of_ble_eq_true rfl) rfl dX1_deliver_91 ⟨Nat.zero_le _, Nat.zero_le _⟩ (fun H locs hP hD hS => ?_)
    refine lv_isub hx hb dX1_deliver_94 ?_
    refine lv_iadd hx hb dX1_deliver_95 ?_
    obtain ⟨v_counts_96, hn96, hf⟩ := nm_some hf
    refine kiast C hP hD hS 4 rfl (by unfold vp_in; decide) dX1_deliver_96 (j := 7) (by decide) (g := v_counts_96) hn96 (w2 := (wX1_deliver k h0 h1 h2 h3 h4 h5 h6 h7 h8 h9 z0 z1 z2 z3 z4 z5 z6 z7 z8 z9 z10 z11 z12 v_clock v_letterRows v_counts_96 v_tokens v_hops v_notes v_deliveredAt_29 v_deliveredHops_53)) rfl (fun H locs hP hD hS => ?_)
    obtain rfl := Option.some.inj hf
    exact hj97 _ _ _ hP hD hS (lv_sub hl [0, 1, 2, 3] rfl)
set_option maxHeartbeats 4000000 in
set_option maxRecDepth 100000 in
theorem kX1_handOver {l : Launch} {D : va_G} {k : Nat → ClassId} (h0 h1 h2 h3 h4 h5 h6 h7 h8 h9 h10 h11 h12 : Nat) (z0 z1 z2 z3 z4 z5 z6 z7 : Value) (v_left : Int32) (v_clock : Int32) (v_letters : Int32) (v_rooms : Nat → Int32) (v_letterRows : Nat → Int32) (v_rules : Nat → Int32) (v_counts : Nat → Int32) (v_tokens : Nat → Int32) (v_hops : Nat → Int32) (v_since : Nat → Int32) (v_notes : Nat → Int32) (v_deliveredAt : Nat → Int32) (v_deliveredHops : Nat → Int32) (x1 : Int32) (x2 : Int32) (x3 : Int32) (q : Int32 × (Nat → Int32) × (Nat → Int32) × (Nat → Int32) × (Nat → Int32) × (Nat → Int32) × (Nat → Int32) × (Nat → Int32)) (hf : fX1_handOver v_left v_clock v_letters v_rooms v_letterRows v_rules v_counts v_tokens v_hops v_since v_notes v_deliveredAt v_deliveredHops x1 x2 x3 = some q) : KMv l yX1_handOver cX1_handOver 7 ({ frames := 3, cells := 0, slots := 0, locals := 72 } : Room) D k [.ref h0, .int x1, .int x2, .int x3] (wX1_handOver k h0 h1 h2 h3 h4 h5 h6 h7 h8 h9 h10 h11 h12 z0 z1 z2 z3 z4 z5 z6 z7 v_left v_clock v_letters v_rooms v_letterRows v_rules v_counts v_tokens v_hops v_since v_notes v_deliveredAt v_deliveredHops) (wX1_handOver k h0 h1 h2 h3 h4 h5 h6 h7 h8 h9 h10 h11 h12 z0 z1 z2 z3 z4 z5 z6 z7 q.1 v_clock v_letters v_rooms v_letterRows v_rules q.2.1 q.2.2.1 q.2.2.2.1 q.2.2.2.2.1 q.2.2.2.2.2.1 q.2.2.2.2.2.2.1 q.2.2.2.2.2.2.2) := by
  refine kent_v (by decide) (Nat.le_of_ble_eq_true rfl) ?_
  intro p e s m below meth c A Q ls C hP hD hS hl hret
  obtain ⟨hx, hb, -⟩ := id C
  have hl : lv_has ls 7 [(0, .ref h0), (1, .int x1), (2, .int x2), (3, .int x3)] := hl
  unfold fX1_handOver at hf
  generalize ([.ref h0, .int x1, .int x2, .int x3] : List Value).toArray = args at *
  refine lv_aload_n hx hb dX1_handOver_0 rfl (lv_at hl 0 rfl) ?_
  refine kget C inX1 hP 0 rfl rfl 0 (by decide) mw_194 rfl dX1_handOver_1 ?_
  refine kget C inX4 hP 1 rfl rfl 2 (by decide) mw_136 rfl dX1_handOver_4 ?_
  refine lv_iconst (v := (0 : Int32)) hx hb dX1_handOver_7 (by decide) ?_
  refine lv_dup2_11 hx hb dX1_handOver_8 rfl rfl ?_
  refine kiald C hP 6 rfl (by unfold vp_in; decide) dX1_handOver_9 (j := 0) (by decide) ?_
  refine lv_iconst (v := (1 : Int32)) hx hb dX1_handOver_10 (by decide) ?_
  refine lv_iadd hx hb dX1_handOver_11 ?_
  obtain ⟨v_counts_12, hn12, hf⟩ := nm_some hf
  refine kiast C hP hD hS 6 rfl (by unfold vp_in; decide) dX1_handOver_12 (j := 0) (by decide) (g := v_counts_12) hn12 (w2 := (wX1_handOver k h0 h1 h2 h3 h4 h5 h6 h7 h8 h9 h10 h11 h12 z0 z1 z2 z3 z4 z5 z6 z7 v_left v_clock v_letters v_rooms v_letterRows v_rules v_counts_12 v_tokens v_hops v_since v_notes v_deliveredAt v_deliveredHops)) rfl (fun H locs hP hD hS => ?_)
  refine lv_aload_n hx hb dX1_handOver_13 rfl (lv_at hl 0 rfl) ?_
  refine lv_dup hx hb dX1_handOver_14 rfl ?_
  refine kget C inX1 hP 0 rfl rfl 4 (by decide) mw_198 rfl dX1_handOver_15 ?_
  refine lv_aload_n hx hb dX1_handOver_18 rfl (lv_at hl 0 rfl) ?_
  refine kget C inX1 hP 0 rfl rfl 1 (by decide) mw_195 rfl dX1_handOver_19 ?_
  refine lv_iload_n hx hb dX1_handOver_22 rfl (lv_at hl 3 rfl) ?_
  refine lv_iconst (v := (3 : Int32)) hx hb dX1_handOver_23 (by decide) ?_
  obtain ⟨q24, hq24, hf⟩ := bd_some hf
  refine kcVi C (kX0_ofLetter (l := l) (D := D) (k := k) h2 h4 (.ref h3) z5 z6 z7 (.int v_letters) v_letterRows x3 (3 : Int32) q24 hq24) mt_X0_ofLetter mw_499 ⟨rfl, rfl, Nat.le_of_ble_eq_true rfl, Nat.le_of_ble_eq_true rfl⟩ hP hD hS 2 rfl rfl rfl [2, 4] rfl rfl [none, none, some 0, none, some 1, none, none, none, none, none, none, none, none] rfl rfl (w2 := (wX1_handOver k h0 h1 h2 h3 h4 h5 h6 h7 h8 h9 h10 h11 h12 z0 z1 z2 z3 z4 z5 z6 z7 v_left v_clock v_letters v_rooms v_letterRows v_rules v_counts_12 v_tokens v_hops v_since v_notes v_deliveredAt v_deliveredHops)) rfl rfl rfl hl.1 (rest := [.int v_left, .ref h0]) (Nat.le_of_ble_eq_true rfl) rfl dX1_handOver_24 ⟨Nat.zero_le _, Nat.zero_le _⟩ (fun H locs hP hD hS => ?_)
  refine lv_isub hx hb dX1_handOver_27 ?_
  refine kput C inX1 tyX1_ok nmX1 hP hD hS 0 rfl rfl 4 (by decide) mw_198 rfl rfl rfl (Nat.le_of_ble_eq_true rfl) dX1_handOver_28 (w2 := (wX1_handOver k h0 h1 h2 h3 h4 h5 h6 h7 h8 h9 h10 h11 h12 z0 z1 z2 z3 z4 z5 z6 z7 (v_left - q24) v_clock v_letters v_rooms v_letterRows v_rules v_counts_12 v_tokens v_hops v_since v_notes v_deliveredAt v_deliveredHops)) rfl (fun H locs hP hD hS => ?_)
  refine lv_aload_n hx hb dX1_handOver_31 rfl (lv_at hl 0 rfl) ?_
  refine kget C inX1 hP 0 rfl rfl 1 (by decide) mw_195 rfl dX1_handOver_32 ?_
  refine lv_iload_n hx hb dX1_handOver_35 rfl (lv_at hl 3 rfl) ?_
  refine lv_iconst (v := (2 : Int32)) hx hb dX1_handOver_36 (by decide) ?_
  obtain ⟨q37, hq37, hf⟩ := bd_some hf
  refine kcVi C (kX0_ofLetter (l := l) (D := D) (k := k) h2 h4 (.ref h3) z5 z6 z7 (.int v_letters) v_letterRows x3 (2 : Int32) q37 hq37) mt_X0_ofLetter mw_499 ⟨rfl, rfl, Nat.le_of_ble_eq_true rfl, Nat.le_of_ble_eq_true rfl⟩ hP hD hS 2 rfl rfl rfl [2, 4] rfl rfl [none, none, some 0, none, some 1, none, none, none, none, none, none, none, none] rfl rfl (w2 := (wX1_handOver k h0 h1 h2 h3 h4 h5 h6 h7 h8 h9 h10 h11 h12 z0 z1 z2 z3 z4 z5 z6 z7 (v_left - q24) v_clock v_letters v_rooms v_letterRows v_rules v_counts_12 v_tokens v_hops v_since v_notes v_deliveredAt v_deliveredHops)) rfl rfl rfl hl.1 (rest := []) (Nat.le_of_ble_eq_true rfl) rfl dX1_handOver_37 ⟨Nat.zero_le _, Nat.zero_le _⟩ (fun H locs hP hD hS => ?_)
  refine lv_iload_n hx hb dX1_handOver_40 rfl (lv_at hl 2 rfl) ?_
  refine lv_icmp_ne (tgt := 52) hx hb dX1_handOver_41 (by decide) (fun hc => ?_) (fun hc => ?_)
  · rw [if_neg hc] at hf
    refine lv_aload_n hx hb dX1_handOver_52 rfl (lv_at hl 0 rfl) ?_
    refine lv_iload_n hx hb dX1_handOver_53 rfl (lv_at hl 2 rfl) ?_
    refine lv_iload_n hx hb dX1_handOver_54 rfl (lv_at hl 3 rfl) ?_
    obtain ⟨q55, hq55, hf⟩ := bd_some hf
    refine kcVv C (kX1_makeRoom (l := l) (D := D) (k := k) h0 h1 h2 h3 h4 h5 h6 h7 h9 z0 z1 (.int (v_left - q24)) z2 z3 (.ref h8) (.ref h10) z4 (.ref h11) (.ref h12) (.int v_clock) z5 z6 z7 v_letters v_rooms v_letterRows v_rules v_counts_12 v_tokens v_since x2 x3 q55 hq55) mt_X1_makeRoom mw_588 ⟨rfl, rfl, Nat.le_of_ble_eq_true rfl, Nat.le_of_ble_eq_true rfl⟩ hP hD hS 0 rfl rfl rfl [0, 1, 2, 3, 4, 5, 6, 7, 9] rfl rfl [some 0, some 1, some 2, some 3, some 4, some 5, some 6, some 7, none, some 8, none, none, none] rfl rfl (w2 := (wX1_handOver k h0 h1 h2 h3 h4 h5 h6 h7 h8 h9 h10 h11 h12 z0 z1 z2 z3 z4 z5 z6 z7 (v_left - q24) v_clock v_letters v_rooms v_letterRows v_rules q55.1 q55.2 v_hops v_since v_notes v_deliveredAt v_deliveredHops)) rfl rfl rfl hl.1 (rest := []) (Nat.le_of_ble_eq_true rfl) rfl dX1_handOver_55 ⟨Nat.zero_le _, Nat.zero_le _⟩ (fun H locs hP hD hS => ?_)
    refine lv_iload_n hx hb dX1_handOver_58 rfl (lv_at hl 1 rfl) ?_
    refine lv_iload_n hx hb dX1_handOver_59 rfl (lv_at hl 3 rfl) ?_
    obtain ⟨q60, hq60, hf⟩ := bd_some hf
    refine kcSi C (kX4_place (l := l) (D := D) (k := k) x1 x3 q60 hq60) mt_X4_place mw_500 ⟨rfl, rfl, Nat.le_of_ble_eq_true rfl, Nat.le_of_ble_eq_true rfl⟩ hP hD hS [] rfl rfl [none, none, none, none, none, none, none, none, none, none, none, none, none] rfl rfl (w2 := (wX1_handOver k h0 h1 h2 h3 h4 h5 h6 h7 h8 h9 h10 h11 h12 z0 z1 z2 z3 z4 z5 z6 z7 (v_left - q24) v_clock v_letters v_rooms v_letterRows v_rules q55.1 q55.2 v_hops v_since v_notes v_deliveredAt v_deliveredHops)) rfl rfl rfl hl.1 (rest := []) (Nat.le_of_ble_eq_true rfl) rfl dX1_handOver_60 ⟨Nat.zero_le _, Nat.zero_le _⟩ (fun H locs hP hD hS => ?_)
    refine lv_istore (lv' := [(4, .int q60), (0, .ref h0), (1, .int x1), (2, .int x2), (3, .int x3)]) hx hb dX1_handOver_63 hl (by decide) rfl (fun ls hl => ?_)
    refine lv_aload_n hx hb dX1_handOver_65 rfl (lv_at hl 1 rfl) ?_
    refine kget C inX1 hP 0 rfl rfl 0 (by decide) mw_194 rfl dX1_handOver_66 ?_
    refine kget C inX4 hP 1 rfl rfl 4 (by decide) mw_142 rfl dX1_handOver_69 ?_
    refine lv_iload hx hb dX1_handOver_72 (lv_at hl 0 rfl) ?_
    obtain ⟨hin, hf⟩ := gd_some hf
    refine kiald C hP 7 rfl hin dX1_handOver_74 (j := q60.toNatClampNeg) rfl ?_
    refine lv_istore (lv' := [(5, .int (q55.2 q60.toNatClampNeg)), (4, .int q60), (0, .ref h0), (1, .int x1), (2, .int x2), (3, .int x3)]) hx hb dX1_handOver_75 hl (by decide) rfl (fun ls hl => ?_)
    refine lv_iload hx hb dX1_handOver_77 (lv_at hl 0 rfl) ?_
    refine lv_iconst (v := (1 : Int32)) hx hb dX1_handOver_79 (by decide) ?_
    obtain ⟨v91, hv91, hf⟩ := bd_some hf
    have hj91 : ∀ (H : Heap) (locs : List Loc) (ls : Array Slot), va_P D vwCl (wX1_handOver k h0 h1 h2 h3 h4 h5 h6 h7 h8 h9 h10 h11 h12 z0 z1 z2 z3 z4 z5 z6 z7 (v_left - q24) v_clock v_letters v_rooms v_letterRows v_rules q55.1 q55.2 v_hops v_since v_notes v_deliveredAt v_deliveredHops) H → va_D A (wX1_handOver k h0 h1 h2 h3 h4 h5 h6 h7 h8 h9 h10 h11 h12 z0 z1 z2 z3 z4 z5 z6 z7 (v_left - q24) v_clock v_letters v_rooms v_letterRows v_rules q55.1 q55.2 v_hops v_since v_notes v_deliveredAt v_deliveredHops) → va_S A s.heap H locs → lv_has ls 7 [(0, .ref h0), (1, .int x1), (2, .int x2), (3, .int x3), (4, .int q60), (5, .int (q55.2 q60.toNatClampNeg))] → W p l e ({ frames := 3, cells := 0, slots := 0, locals := 72 } : Room) s m args below meth c H locs 0 0 Q (F0 m 91 ls [.int v91]) := by
      intro H locs ls hP hD hS hl
      refine lv_istore (lv' := [(6, .int v91), (0, .ref h0), (1, .int x1), (2, .int x2), (3, .int x3), (4, .int q60), (5, .int (q55.2 q60.toNatClampNeg))]) hx hb dX1_handOver_91 hl (by decide) rfl (fun ls hl => ?_)
      refine lv_aload_n hx hb dX1_handOver_93 rfl (lv_at hl 1 rfl) ?_
      refine kget C inX1 hP 0 rfl rfl 0 (by decide) mw_194 rfl dX1_handOver_94 ?_
      refine lv_iload_n hx hb dX1_handOver_97 rfl (lv_at hl 3 rfl) ?_
      refine lv_iload_n hx hb dX1_handOver_98 rfl (lv_at hl 4 rfl) ?_
      refine lv_iload hx hb dX1_handOver_99 (lv_at hl 0 rfl) ?_
      refine lv_aload_n hx hb dX1_handOver_101 rfl (lv_at hl 1 rfl) ?_
      refine kget C inX1 hP 0 rfl rfl 0 (by decide) mw_194 rfl dX1_handOver_102 ?_
      refine kget C inX4 hP 1 rfl rfl 5 (by decide) mw_145 rfl dX1_handOver_105 ?_
      refine lv_iload hx hb dX1_handOver_108 (lv_at hl 5 rfl) ?_
      obtain ⟨hin, hf⟩ := gd_some hf
      refine kiald C hP 8 rfl hin dX1_handOver_110 (j := q60.toNatClampNeg) rfl ?_
      refine lv_iconst (v := (1 : Int32)) hx hb dX1_handOver_111 (by decide) ?_
      refine lv_iadd hx hb dX1_handOver_112 ?_
      obtain ⟨q113, hq113, hf⟩ := bd_some hf
      refine kcVv C (kX4_putCopy (l := l) (D := D) (k := k) h1 h7 h8 h9 (.ref h2) (.ref h5) (.ref h6) z3 (.ref h10) z4 (.ref h11) (.ref h12) v_clock q55.2 v_hops v_since x2 x3 v91 ((v_hops q60.toNatClampNeg) + (1 : Int32)) q113 hq113) mt_X4_putCopy mw_600 ⟨rfl, rfl, Nat.le_of_ble_eq_true rfl, Nat.le_of_ble_eq_true rfl⟩ hP hD hS 1 rfl rfl rfl [1, 7, 8, 9] rfl rfl [none, some 0, none, none, none, none, none, some 1, some 2, some 3, none, none, none] rfl rfl (w2 := (wX1_handOver k h0 h1 h2 h3 h4 h5 h6 h7 h8 h9 h10 h11 h12 z0 z1 z2 z3 z4 z5 z6 z7 (v_left - q24) v_clock v_letters v_rooms v_letterRows v_rules q55.1 q113.1 q113.2.1 q113.2.2 v_notes v_deliveredAt v_deliveredHops)) rfl rfl rfl hl.1 (rest := []) (Nat.le_of_ble_eq_true rfl) rfl dX1_handOver_113 ⟨Nat.zero_le _, Nat.zero_le _⟩ (fun H locs hP hD hS => ?_)
      refine lv_iload hx hb dX1_handOver_116 (lv_at hl 6 rfl) ?_
      refine lv_iconst (v := (1 : Int32)) hx hb dX1_handOver_118 (by decide) ?_
      refine lv_icmp_le (tgt := 140) hx hb dX1_handOver_119 (by decide) (fun hc => ?_) (fun hc => ?_)
      · rw [if_pos hc] at hf
        refine lv_aload_n hx hb dX1_handOver_140 rfl (lv_at hl 1 rfl) ?_
        refine kget C inX1 hP 0 rfl rfl 0 (by decide) mw_194 rfl dX1_handOver_141 ?_
        refine kget C inX4 hP 1 rfl rfl 1 (by decide) mw_133 rfl dX1_handOver_144 ?_
        refine lv_iconst (v := (1 : Int32)) hx hb dX1_handOver_147 (by decide) ?_
        refine kiald C hP 5 rfl (by unfold vp_in; decide) dX1_handOver_148 (j := 1) (by decide) ?_
        refine lv_if_eq (tgt := 161) hx hb dX1_handOver_149 (by decide) (fun hc => ?_) (fun hc => ?_)
        · rw [if_pos hc] at hf
          obtain rfl := Option.some.inj hf
          exact hret _ _ _ _ dX1_handOver_161 hP hS
        · rw [if_neg hc] at hf
          refine lv_aload_n hx hb dX1_handOver_152 rfl (lv_at hl 1 rfl) ?_
          refine kget C inX1 hP 0 rfl rfl 0 (by decide) mw_194 rfl dX1_handOver_153 ?_
          refine lv_iload_n hx hb dX1_handOver_156 rfl (lv_at hl 2 rfl) ?_
          refine lv_iload_n hx hb dX1_handOver_157 rfl (lv_at hl 4 rfl) ?_
          obtain ⟨q158, hq158, hf⟩ := bd_some hf
          refine kcVv C (kX4_removeCopy (l := l) (D := D) (k := k) h1 h7 (.ref h2) (.ref h5) (.ref h6) z3 (.ref h8) (.ref h9) (.ref h10) z4 (.ref h11) (.ref h12) (.int v_clock) q113.1 x1 x3 q158 hq158) mt_X4_removeCopy mw_580 ⟨rfl, rfl, Nat.le_of_ble_eq_true rfl, Nat.le_of_ble_eq_true rfl⟩ hP hD hS 1 rfl rfl rfl [1, 7] rfl rfl [none, some 0, none, none, none, none, none, some 1, none, none, none, none, none] rfl rfl (w2 := (wX1_handOver k h0 h1 h2 h3 h4 h5 h6 h7 h8 h9 h10 h11 h12 z0 z1 z2 z3 z4 z5 z6 z7 (v_left - q24) v_clock v_letters v_rooms v_letterRows v_rules q55.1 q158 q113.2.1 q113.2.2 v_notes v_deliveredAt v_deliveredHops)) rfl rfl rfl hl.1 (rest := []) (Nat.le_of_ble_eq_true rfl) rfl dX1_handOver_158 ⟨Nat.zero_le _, Nat.zero_le _⟩ (fun H locs hP hD hS => ?_)
          obtain rfl := Option.some.inj hf
          exact hret _ _ _ _ dX1_handOver_161 hP hS
      · rw [if_neg hc] at hf
        refine lv_aload_n hx hb dX1_handOver_122 rfl (lv_at hl 1 rfl) ?_
        refine kget C inX1 hP 0 rfl rfl 0 (by decide) mw_194 rfl dX1_handOver_123 ?_
        refine kget C inX4 hP 1 rfl rfl 4 (by decide) mw_142 rfl dX1_handOver_126 ?_
        refine lv_iload hx hb dX1_handOver_129 (lv_at hl 5 rfl) ?_
        refine lv_iload hx hb dX1_handOver_131 (lv_at hl 6 rfl) ?_
        refine lv_iload hx hb dX1_handOver_133 (lv_at hl 0 rfl) ?_
        refine lv_isub hx hb dX1_handOver_135 ?_
        obtain ⟨hin, hf⟩ := gd_some hf
        obtain ⟨v_tokens_136, hn136, hf⟩ := nm_some hf
        refine kiast C hP hD hS 7 rfl hin dX1_handOver_136 (j := q60.toNatClampNeg) rfl (g := v_tokens_136) hn136 (w2 := (wX1_handOver k h0 h1 h2 h3 h4 h5 h6 h7 h8 h9 h10 h11 h12 z0 z1 z2 z3 z4 z5 z6 z7 (v_left - q24) v_clock v_letters v_rooms v_letterRows v_rules q55.1 v_tokens_136 q113.2.1 q113.2.2 v_notes v_deliveredAt v_deliveredHops)) rfl (fun H locs hP hD hS => ?_)
        refine lv_goto (tgt := 161) hx hb dX1_handOver_137 (by decide) ?_
        obtain rfl := Option.some.inj hf
        exact hret _ _ _ _ dX1_handOver_161 hP hS
    clear hf
    have hf := hv91
    refine lv_icmp_le (tgt := 90) hx hb dX1_handOver_80 (by decide) (fun hc => ?_) (fun hc => ?_)
    · rw [if_pos hc] at hf
      refine lv_iconst (v := (1 : Int32)) hx hb dX1_handOver_90 (by decide) ?_
      obtain rfl := Option.some.inj hf
      exact hj91 _ _ _ hP hD hS (lv_sub hl [2, 3, 4, 5, 1, 0] rfl)
    · rw [if_neg hc] at hf
      refine lv_iload hx hb dX1_handOver_83 (lv_at hl 0 rfl) ?_
      refine lv_iconst (v := (2 : Int32)) hx hb dX1_handOver_85 (by decide) ?_
      refine lv_idiv hx hb dX1_handOver_86 (by decide) ?_
      refine lv_goto (tgt := 91) hx hb dX1_handOver_87 (by decide) ?_
      obtain rfl := Option.some.inj hf
      exact hj91 _ _ _ hP hD hS (lv_sub hl [2, 3, 4, 5, 1, 0] rfl)
  · rw [if_pos hc] at hf
    refine lv_aload_n hx hb dX1_handOver_44 rfl (lv_at hl 0 rfl) ?_
    refine lv_iload_n hx hb dX1_handOver_45 rfl (lv_at hl 1 rfl) ?_
    refine lv_iload_n hx hb dX1_handOver_46 rfl (lv_at hl 2 rfl) ?_
    refine lv_iload_n hx hb dX1_handOver_47 rfl (lv_at hl 3 rfl) ?_
    obtain ⟨q48, hq48, hf⟩ := bd_some hf
    refine kcVv C (kX1_deliver (l := l) (D := D) (k := k) h0 h1 h2 h4 h6 h7 h8 h10 h11 h12 z0 z1 (.int (v_left - q24)) z2 (.ref h5) z3 (.ref h9) z4 (.ref h3) z5 z6 z7 (.int v_letters) v_clock v_letterRows v_counts_12 v_tokens v_hops v_notes v_deliveredAt v_deliveredHops x1 x2 x3 q48 hq48) mt_X1_deliver mw_621 ⟨rfl, rfl, Nat.le_of_ble_eq_true rfl, Nat.le_of_ble_eq_true rfl⟩ hP hD hS 0 rfl rfl rfl [0, 1, 2, 4, 6, 7, 8, 10, 11, 12] rfl rfl [some 0, some 1, some 2, none, some 3, none, some 4, some 5, some 6, none, some 7, some 8, some 9] rfl rfl (w2 := (wX1_handOver k h0 h1 h2 h3 h4 h5 h6 h7 h8 h9 h10 h11 h12 z0 z1 z2 z3 z4 z5 z6 z7 (v_left - q24) v_clock v_letters v_rooms v_letterRows v_rules q48.1 q48.2.1 v_hops v_since q48.2.2.1 q48.2.2.2.1 q48.2.2.2.2)) rfl rfl rfl hl.1 (rest := []) (Nat.le_of_ble_eq_true rfl) rfl dX1_handOver_48 ⟨Nat.zero_le _, Nat.zero_le _⟩ (fun H locs hP hD hS => ?_)
    obtain rfl := Option.some.inj hf
    exact hret _ _ _ _ dX1_handOver_51 hP hS
set_option maxHeartbeats 4000000 in
set_option maxRecDepth 100000 in
theorem kX1_rememberRefusal {l : Launch} {D : va_G} {k : Nat → ClassId} (h0 h1 h2 : Nat) (z0 z1 z2 z3 z4 z5 z6 z7 z8 z9 z10 z11 z12 z13 z14 : Value) (v_clock : Int32) (v_refused : Nat → Int32) (x1 : Int32) (x2 : Int32) (x3 : Int32) (x4 : Int32) (q : (Nat → Int32)) (hf : fX1_rememberRefusal v_clock v_refused x1 x2 x3 x4 = some q) : KMv l yX1_rememberRefusal cX1_rememberRefusal 7 ({ frames := 0, cells := 0, slots := 0, locals := 0 } : Room) D k [.ref h0, .int x1, .int x2, .int x3, .int x4] (wX1_rememberRefusal k h0 h1 h2 z0 z1 z2 z3 z4 z5 z6 z7 z8 z9 z10 z11 z12 z13 z14 v_clock v_refused) (wX1_rememberRefusal k h0 h1 h2 z0 z1 z2 z3 z4 z5 z6 z7 z8 z9 z10 z11 z12 z13 z14 v_clock q) := by
  refine kent_v (by decide) (Nat.le_of_ble_eq_true rfl) ?_
  intro p e s m below meth c A Q ls C hP hD hS hl hret
  obtain ⟨hx, hb, -⟩ := id C
  have hl : lv_has ls 7 [(0, .ref h0), (1, .int x1), (2, .int x2), (3, .int x3), (4, .int x4)] := hl
  unfold fX1_rememberRefusal at hf
  generalize ([.ref h0, .int x1, .int x2, .int x3, .int x4] : List Value).toArray = args at *
  refine lv_aload_n hx hb dX1_rememberRefusal_0 rfl (lv_at hl 0 rfl) ?_
  refine kget C inX1 hP 0 rfl rfl 0 (by decide) mw_194 rfl dX1_rememberRefusal_1 ?_
  refine kget C inX4 hP 1 rfl rfl 3 (by decide) mw_139 rfl dX1_rememberRefusal_4 ?_
  refine lv_astore (lv' := [(5, .ref h2), (0, .ref h0), (1, .int x1), (2, .int x2), (3, .int x3), (4, .int x4)]) hx hb dX1_rememberRefusal_7 hl (by decide) rfl (fun ls hl => ?_)
  refine lv_iload hx hb dX1_rememberRefusal_9 (lv_at hl 5 rfl) ?_
  refine lv_iconst (v := (4 : Int32)) hx hb dX1_rememberRefusal_11 (by decide) ?_
  obtain ⟨v20, hv20, hf⟩ := bd_some hf
  have hj20 : ∀ (H : Heap) (locs : List Loc) (ls : Array Slot), va_P D vwCl (wX1_rememberRefusal k h0 h1 h2 z0 z1 z2 z3 z4 z5 z6 z7 z8 z9 z10 z11 z12 z13 z14 v_clock v_refused) H → va_D A (wX1_rememberRefusal k h0 h1 h2 z0 z1 z2 z3 z4 z5 z6 z7 z8 z9 z10 z11 z12 z13 z14 v_clock v_refused) → va_S A s.heap H locs → lv_has ls 7 [(0, .ref h0), (1, .int x1), (2, .int x2), (3, .int x3), (4, .int x4), (5, .ref h2)] → W p l e ({ frames := 0, cells := 0, slots := 0, locals := 0 } : Room) s m args below meth c H locs 0 0 Q (F0 m 20 ls [.int v20]) := by
    intro H locs ls hP hD hS hl
    refine lv_istore (lv' := [(6, .int v20), (0, .ref h0), (1, .int x1), (2, .int x2), (3, .int x3), (4, .int x4), (5, .ref h2)]) hx hb dX1_rememberRefusal_20 hl (by decide) rfl (fun ls hl => ?_)
    refine lv_aload hx hb dX1_rememberRefusal_22 (lv_at hl 6 rfl) ?_
    refine lv_iconst (v := (0 : Int32)) hx hb dX1_rememberRefusal_24 (by decide) ?_
    refine lv_iload hx hb dX1_rememberRefusal_25 (lv_at hl 0 rfl) ?_
    obtain ⟨v36, hv36, hf⟩ := bd_some hf
    have hj36 : ∀ (H : Heap) (locs : List Loc) (ls : Array Slot), va_P D vwCl (wX1_rememberRefusal k h0 h1 h2 z0 z1 z2 z3 z4 z5 z6 z7 z8 z9 z10 z11 z12 z13 z14 v_clock v_refused) H → va_D A (wX1_rememberRefusal k h0 h1 h2 z0 z1 z2 z3 z4 z5 z6 z7 z8 z9 z10 z11 z12 z13 z14 v_clock v_refused) → va_S A s.heap H locs → lv_has ls 7 [(0, .ref h0), (1, .int x1), (2, .int x2), (3, .int x3), (4, .int x4), (5, .ref h2), (6, .int v20)] → W p l e ({ frames := 0, cells := 0, slots := 0, locals := 0 } : Room) s m args below meth c H locs 0 0 Q (F0 m 36 ls [.int v36, .int (0 : Int32), .ref h2]) := by
      intro H locs ls hP hD hS hl
      obtain ⟨v_refused_36, hn36, hf⟩ := nm_some hf
      refine kiast C hP hD hS 2 rfl (by unfold vp_in; decide) dX1_rememberRefusal_36 (j := 0) (by decide) (g := v_refused_36) hn36 (w2 := (wX1_rememberRefusal k h0 h1 h2 z0 z1 z2 z3 z4 z5 z6 z7 z8 z9 z10 z11 z12 z13 z14 v_clock v_refused_36)) rfl (fun H locs hP hD hS => ?_)
      refine lv_aload hx hb dX1_rememberRefusal_37 (lv_at hl 5 rfl) ?_
      refine lv_iconst (v := (1 : Int32)) hx hb dX1_rememberRefusal_39 (by decide) ?_
      refine lv_iload hx hb dX1_rememberRefusal_40 (lv_at hl 6 rfl) ?_
      obtain ⟨v52, hv52, hf⟩ := bd_some hf
      have hj52 : ∀ (H : Heap) (locs : List Loc) (ls : Array Slot), va_P D vwCl (wX1_rememberRefusal k h0 h1 h2 z0 z1 z2 z3 z4 z5 z6 z7 z8 z9 z10 z11 z12 z13 z14 v_clock v_refused_36) H → va_D A (wX1_rememberRefusal k h0 h1 h2 z0 z1 z2 z3 z4 z5 z6 z7 z8 z9 z10 z11 z12 z13 z14 v_clock v_refused_36) → va_S A s.heap H locs → lv_has ls 7 [(0, .ref h0), (1, .int x1), (2, .int x2), (3, .int x3), (5, .ref h2)] → W p l e ({ frames := 0, cells := 0, slots := 0, locals := 0 } : Room) s m args below meth c H locs 0 0 Q (F0 m 52 ls [.int v52, .int (1 : Int32), .ref h2]) := by
        intro H locs ls hP hD hS hl
        obtain ⟨v_refused_52, hn52, hf⟩ := nm_some hf
        refine kiast C hP hD hS 2 rfl (by unfold vp_in; decide) dX1_rememberRefusal_52 (j := 1) (by decide) (g := v_refused_52) hn52 (w2 := (wX1_rememberRefusal k h0 h1 h2 z0 z1 z2 z3 z4 z5 z6 z7 z8 z9 z10 z11 z12 z13 z14 v_clock v_refused_52)) rfl (fun H locs hP hD hS => ?_)
        refine lv_aload hx hb dX1_rememberRefusal_53 (lv_at hl 4 rfl) ?_
        refine lv_iconst (v := (2 : Int32)) hx hb dX1_rememberRefusal_55 (by decide) ?_
        refine lv_iload_n hx hb dX1_rememberRefusal_56 rfl (lv_at hl 3 rfl) ?_
        obtain ⟨v_refused_57, hn57, hf⟩ := nm_some hf
        refine kiast C hP hD hS 2 rfl (by unfold vp_in; decide) dX1_rememberRefusal_57 (j := 2) (by decide) (g := v_refused_57) hn57 (w2 := (wX1_rememberRefusal k h0 h1 h2 z0 z1 z2 z3 z4 z5 z6 z7 z8 z9 z10 z11 z12 z13 z14 v_clock v_refused_57)) rfl (fun H locs hP hD hS => ?_)
        refine lv_aload hx hb dX1_rememberRefusal_58 (lv_at hl 4 rfl) ?_
        refine lv_iconst (v := (3 : Int32)) hx hb dX1_rememberRefusal_60 (by decide) ?_
        refine lv_iload_n hx hb dX1_rememberRefusal_61 rfl (lv_at hl 1 rfl) ?_
        obtain ⟨v_refused_62, hn62, hf⟩ := nm_some hf
        refine kiast C hP hD hS 2 rfl (by unfold vp_in; decide) dX1_rememberRefusal_62 (j := 3) (by decide) (g := v_refused_62) hn62 (w2 := (wX1_rememberRefusal k h0 h1 h2 z0 z1 z2 z3 z4 z5 z6 z7 z8 z9 z10 z11 z12 z13 z14 v_clock v_refused_62)) rfl (fun H locs hP hD hS => ?_)
        refine lv_aload hx hb dX1_rememberRefusal_63 (lv_at hl 4 rfl) ?_
        refine lv_iconst (v := (4 : Int32)) hx hb dX1_rememberRefusal_65 (by decide) ?_
        refine lv_iload_n hx hb dX1_rememberRefusal_66 rfl (lv_at hl 2 rfl) ?_
        obtain ⟨v_refused_67, hn67, hf⟩ := nm_some hf
        refine kiast C hP hD hS 2 rfl (by unfold vp_in; decide) dX1_rememberRefusal_67 (j := 4) (by decide) (g := v_refused_67) hn67 (w2 := (wX1_rememberRefusal k h0 h1 h2 z0 z1 z2 z3 z4 z5 z6 z7 z8 z9 z10 z11 z12 z13 z14 v_clock v_refused_67)) rfl (fun H locs hP hD hS => ?_)
        refine lv_aload hx hb dX1_rememberRefusal_68 (lv_at hl 4 rfl) ?_
        refine lv_iconst (v := (5 : Int32)) hx hb dX1_rememberRefusal_70 (by decide) ?_
        refine lv_aload_n hx hb dX1_rememberRefusal_71 rfl (lv_at hl 0 rfl) ?_
        refine kget C inX1 hP 0 rfl rfl 0 (by decide) mw_194 rfl dX1_rememberRefusal_72 ?_
        refine kget C inX4 hP 1 rfl rfl 11 (by decide) mw_160 rfl dX1_rememberRefusal_75 ?_
        obtain ⟨v_refused_78, hn78, hf⟩ := nm_some hf
        refine kiast C hP hD hS 2 rfl (by unfold vp_in; decide) dX1_rememberRefusal_78 (j := 5) (by decide) (g := v_refused_78) hn78 (w2 := (wX1_rememberRefusal k h0 h1 h2 z0 z1 z2 z3 z4 z5 z6 z7 z8 z9 z10 z11 z12 z13 z14 v_clock v_refused_78)) rfl (fun H locs hP hD hS => ?_)
        obtain rfl := Option.some.inj hf
        exact hret _ _ _ _ dX1_rememberRefusal_79 hP hS
      clear hf
      have hf := hv52
      refine lv_if_eq (tgt := 50) hx hb dX1_rememberRefusal_42 (by decide) (fun hc => ?_) (fun hc => ?_)
      · rw [if_pos hc] at hf
        refine lv_bipush (v := (-4 : Int32)) hx hb dX1_rememberRefusal_50 (by decide) ?_
        obtain rfl := Option.some.inj hf
        exact hj52 _ _ _ hP hD hS (lv_sub hl [0, 1, 2, 3, 5] rfl)
      · rw [if_neg hc] at hf
        refine lv_iload hx hb dX1_rememberRefusal_45 (lv_at hl 4 rfl) ?_
        refine lv_goto (tgt := 52) hx hb dX1_rememberRefusal_47 (by decide) ?_
        obtain rfl := Option.some.inj hf
        exact hj52 _ _ _ hP hD hS (lv_sub hl [0, 1, 2, 3, 5] rfl)
    clear hf
    have hf := hv36
    refine lv_if_eq (tgt := 34) hx hb dX1_rememberRefusal_27 (by decide) (fun hc => ?_) (fun hc => ?_)
    · rw [if_pos hc] at hf
      refine lv_iload hx hb dX1_rememberRefusal_34 (lv_at hl 5 rfl) ?_
      obtain rfl := Option.some.inj hf
      exact hj36 _ _ _ hP hD hS (lv_sub hl [1, 2, 3, 4, 5, 6, 0] rfl)
    · rw [if_neg hc] at hf
      refine lv_iconst (v := (4 : Int32)) hx hb dX1_rememberRefusal_30 (by decide) ?_
      refine lv_goto (tgt := 36) hx hb dX1_rememberRefusal_31 (by decide) ?_
      obtain rfl := Option.some.inj hf
      exact hj36 _ _ _ hP hD hS (lv_sub hl [1, 2, 3, 4, 5, 6, 0] rfl)
  clear hf
  have hf := hv20
  refine lv_icmp_le (tgt := 19) hx hb dX1_rememberRefusal_12 (by decide) (fun hc => ?_) (fun hc => ?_)
  · rw [if_pos hc] at hf
    refine lv_iconst (v := (0 : Int32)) hx hb dX1_rememberRefusal_19 (by decide) ?_
    obtain rfl := Option.some.inj hf
    exact hj20 _ _ _ hP hD hS (lv_sub hl [1, 2, 3, 4, 5, 0] rfl)
  · rw [if_neg hc] at hf
    refine lv_iconst (v := (1 : Int32)) hx hb dX1_rememberRefusal_15 (by decide) ?_
    refine lv_goto (tgt := 20) hx hb dX1_rememberRefusal_16 (by decide) ?_
    obtain rfl := Option.some.inj hf
    exact hj20 _ _ _ hP hD hS (lv_sub hl [1, 2, 3, 4, 5, 0] rfl)
set_option maxHeartbeats 4000000 in
set_option maxRecDepth 100000 in
theorem wX1_handAll_10 {p : Program} {l : Launch} {e : Env} {s : State} {m : MethodId} {args : Array Value} {below : List Frame} {meth : Method} {c : Code} {A : Nat → Prop} {Q : State → Prop} {D : va_G} {k : Nat → ClassId} (C : Cx p s m args c cX1_handAll 7 RX1 A D k) (h0 h1 h2 h3 h4 h5 h6 h7 h8 h9 h10 h11 h12 h13 h14 h15 : Nat) (z0 z1 z2 z3 : Value) (v_clock : Int32) (v_letters : Int32) (v_rooms : Nat → Int32) (v_letterRows : Nat → Int32) (v_rules : Nat → Int32) (v_lasts : Nat → Int32) (v_order : Nat → Int32) (y1 : Int32) (y2 : Int32) (y3 : Int32) : ∀ (f : Nat) (v_left : Int32) (v_refusedOne : Int32) (v_counts : Nat → Int32) (v_refused : Nat → Int32) (v_tokens : Nat → Int32) (v_hops : Nat → Int32) (v_since : Nat → Int32) (v_notes : Nat → Int32) (v_deliveredAt : Nat → Int32) (v_deliveredHops : Nat → Int32) (y4 : Int32) (ex : (Int32 × Int32 × (Nat → Int32) × (Nat → Int32) × (Nat → Int32) × (Nat → Int32) × (Nat → Int32) × (Nat → Int32) × (Nat → Int32) × (Nat → Int32))) (H : Heap) (locs : List Loc) (ls : Array Slot), fX1_handAll_10 v_clock v_letters v_rooms v_letterRows v_rules v_lasts v_order y1 y2 y3 f v_left v_refusedOne v_counts v_refused v_tokens v_hops v_since v_notes v_deliveredAt v_deliveredHops y4 = some ex → va_P D vwCl (wX1_handAll k h0 h1 h2 h3 h4 h5 h6 h7 h8 h9 h10 h11 h12 h13 h14 h15 z0 z1 z2 z3 v_left v_refusedOne v_clock v_letters v_rooms v_letterRows v_rules v_counts v_refused v_tokens v_hops v_since v_notes v_lasts v_deliveredAt v_deliveredHops v_order) H → va_D A (wX1_handAll k h0 h1 h2 h3 h4 h5 h6 h7 h8 h9 h10 h11 h12 h13 h14 h15 z0 z1 z2 z3 v_left v_refusedOne v_clock v_letters v_rooms v_letterRows v_rules v_counts v_refused v_tokens v_hops v_since v_notes v_lasts v_deliveredAt v_deliveredHops v_order) → va_S A s.heap H locs → lv_has ls 7 [(0, .ref h0), (1, .int y1), (2, .int y2), (3, .int y3), (4, .int y4)] → (∀ (H : Heap) (locs : List Loc) (ls : Array Slot), va_P D vwCl (wX1_handAll k h0 h1 h2 h3 h4 h5 h6 h7 h8 h9 h10 h11 h12 h13 h14 h15 z0 z1 z2 z3 ex.1 ex.2.1 v_clock v_letters v_rooms v_letterRows v_rules ex.2.2.1 ex.2.2.2.1 ex.2.2.2.2.1 ex.2.2.2.2.2.1 ex.2.2.2.2.2.2.1 ex.2.2.2.2.2.2.2.1 v_lasts ex.2.2.2.2.2.2.2.2.1 ex.2.2.2.2.2.2.2.2.2 v_order) H → va_D A (wX1_handAll k h0 h1 h2 h3 h4 h5 h6 h7 h8 h9 h10 h11 h12 h13 h14 h15 z0 z1 z2 z3 ex.1 ex.2.1 v_clock v_letters v_rooms v_letterRows v_rules ex.2.2.1 ex.2.2.2.1 ex.2.2.2.2.1 ex.2.2.2.2.2.1 ex.2.2.2.2.2.2.1 ex.2.2.2.2.2.2.2.1 v_lasts ex.2.2.2.2.2.2.2.2.1 ex.2.2.2.2.2.2.2.2.2 v_order) → va_S A s.heap H locs → lv_has ls 7 [] → W p l e ({ frames := 4, cells := 0, slots := 0, locals := 98 } : Room) s m args below meth c H locs 0 0 Q (F0 m 83 ls [])) → W p l e ({ frames := 4, cells := 0, slots := 0, locals := 98 } : Room) s m args below meth c H locs 0 0 Q (F0 m 10 ls []) := by
  obtain ⟨hx, hb, -⟩ := id C
  intro f
  induction f with
  | zero =>
    intro v_left v_refusedOne v_counts v_refused v_tokens v_hops v_since v_notes v_deliveredAt v_deliveredHops y4 ex H locs ls hf hP hD hS hl hk
    cases hf
  | succ f ih =>
    intro v_left v_refusedOne v_counts v_refused v_tokens v_hops v_since v_notes v_deliveredAt v_deliveredHops y4 ex H locs ls hf hP hD hS hl hk
    rw [fX1_handAll_10] at hf
    refine lv_iload hx hb dX1_handAll_10 (lv_at hl 4 rfl) ?_
    refine lv_iload_n hx hb dX1_handAll_12 rfl (lv_at hl 3 rfl) ?_
    refine lv_icmp_ge (tgt := 83) hx hb dX1_handAll_13 (by decide) (fun hc => ?_) (fun hc => ?_)
    · rw [if_pos hc] at hf
      obtain rfl := Option.some.inj hf
      exact hk _ _ _ hP hD hS (lv_sub hl [] rfl)
    · rw [if_neg hc] at hf
      refine lv_aload_n hx hb dX1_handAll_16 rfl (lv_at hl 0 rfl) ?_
      refine kget C inX1 hP 0 rfl rfl 2 (by decide) mw_196 rfl dX1_handAll_17 ?_
      refine lv_iload hx hb dX1_handAll_20 (lv_at hl 4 rfl) ?_
      obtain ⟨hin, hf⟩ := gd_some hf
      refine kiald C hP 15 rfl hin dX1_handAll_22 (j := y4.toNatClampNeg) rfl ?_
      refine lv_istore (lv' := [(5, .int (v_order y4.toNatClampNeg)), (0, .ref h0), (1, .int y1), (2, .int y2), (3, .int y3), (4, .int y4)]) hx hb dX1_handAll_23 hl (by decide) rfl (fun ls hl => ?_)
      refine lv_aload_n hx hb dX1_handAll_25 rfl (lv_at hl 1 rfl) ?_
      refine lv_iload_n hx hb dX1_handAll_26 rfl (lv_at hl 2 rfl) ?_
      refine lv_iload_n hx hb dX1_handAll_27 rfl (lv_at hl 3 rfl) ?_
      refine lv_iload hx hb dX1_handAll_28 (lv_at hl 0 rfl) ?_
      refine lv_aload_n hx hb dX1_handAll_30 rfl (lv_at hl 1 rfl) ?_
      refine kget C inX1 hP 0 rfl rfl 4 (by decide) mw_198 rfl dX1_handAll_31 ?_
      obtain ⟨q34, hq34, hf⟩ := bd_some hf
      refine kcVi C (kX1_reasonAgainst (l := l) (D := D) (k := k) h0 h1 h2 h3 h4 h5 h8 h12 (.ref h15) z0 (.int v_left) (.int v_refusedOne) (.ref h6) (.ref h7) (.ref h9) (.ref h10) (.ref h11) (.ref h13) (.ref h14) (.int v_clock) z1 z2 z3 v_letters v_rooms v_letterRows v_rules v_tokens v_lasts y1 y2 (v_order y4.toNatClampNeg) v_left q34 hq34) mt_X1_reasonAgainst mw_616 ⟨rfl, rfl, Nat.le_of_ble_eq_true rfl, Nat.le_of_ble_eq_true rfl⟩ hP hD hS 0 rfl rfl rfl [0, 1, 2, 3, 4, 5, 8, 12] rfl rfl [some 0, some 1, some 2, some 3, some 4, some 5, none, none, some 6, none, none, none, some 7, none, none, none] rfl rfl (w2 := (wX1_handAll k h0 h1 h2 h3 h4 h5 h6 h7 h8 h9 h10 h11 h12 h13 h14 h15 z0 z1 z2 z3 v_left v_refusedOne v_clock v_letters v_rooms v_letterRows v_rules v_counts v_refused v_tokens v_hops v_since v_notes v_lasts v_deliveredAt v_deliveredHops v_order)) rfl rfl rfl hl.1 (rest := []) (Nat.le_of_ble_eq_true rfl) rfl dX1_handAll_34 ⟨Nat.zero_le _, Nat.zero_le _⟩ (fun H locs hP hD hS => ?_)
      refine lv_istore (lv' := [(6, .int q34), (5, .int (v_order y4.toNatClampNeg)), (0, .ref h0), (1, .int y1), (2, .int y2), (3, .int y3), (4, .int y4)]) hx hb dX1_handAll_37 hl (by decide) rfl (fun ls hl => ?_)
      refine lv_iload hx hb dX1_handAll_39 (lv_at hl 0 rfl) ?_
      refine lv_if_ne (tgt := 55) hx hb dX1_handAll_41 (by decide) (fun hc => ?_) (fun hc => ?_)
      · rw [if_neg hc] at hf
        refine lv_aload_n hx hb dX1_handAll_55 rfl (lv_at hl 2 rfl) ?_
        refine kget C inX1 hP 0 rfl rfl 5 (by decide) mw_199 rfl dX1_handAll_56 ?_
        refine lv_if_ne (tgt := 77) hx hb dX1_handAll_59 (by decide) (fun hc => ?_) (fun hc => ?_)
        · rw [if_neg hc] at hf
          refine lv_iinc (v := (y4 + (1 : Int32))) (lv' := [(4, .int (y4 + (1 : Int32))), (6, .int q34), (5, .int (v_order y4.toNatClampNeg)), (0, .ref h0), (1, .int y1), (2, .int y2), (3, .int y3)]) hx hb dX1_handAll_77 hl (k := 6) rfl rfl (by decide) rfl (fun ls hl => ?_)
          refine lv_goto (tgt := 10) hx hb dX1_handAll_80 (by decide) ?_
          exact ih v_left v_refusedOne v_counts v_refused v_tokens v_hops v_since v_notes v_deliveredAt v_deliveredHops (y4 + (1 : Int32)) _ _ _ _ hf hP hD hS (lv_sub hl [3, 4, 5, 6, 0] rfl) hk
        · rw [if_pos hc] at hf
          refine lv_aload_n hx hb dX1_handAll_62 rfl (lv_at hl 2 rfl) ?_
          refine lv_iconst (v := (1 : Int32)) hx hb dX1_handAll_63 (by decide) ?_
          refine kput C inX1 tyX1_ok nmX1 hP hD hS 0 rfl rfl 5 (by decide) mw_199 rfl rfl rfl (Nat.le_of_ble_eq_true rfl) dX1_handAll_64 (w2 := (wX1_handAll k h0 h1 h2 h3 h4 h5 h6 h7 h8 h9 h10 h11 h12 h13 h14 h15 z0 z1 z2 z3 v_left (1 : Int32) v_clock v_letters v_rooms v_letterRows v_rules v_counts v_refused v_tokens v_hops v_since v_notes v_lasts v_deliveredAt v_deliveredHops v_order)) rfl (fun H locs hP hD hS => ?_)
          refine lv_aload_n hx hb dX1_handAll_67 rfl (lv_at hl 2 rfl) ?_
          refine lv_iload_n hx hb dX1_handAll_68 rfl (lv_at hl 3 rfl) ?_
          refine lv_iload_n hx hb dX1_handAll_69 rfl (lv_at hl 4 rfl) ?_
          refine lv_iload hx hb dX1_handAll_70 (lv_at hl 1 rfl) ?_
          refine lv_iload hx hb dX1_handAll_72 (lv_at hl 0 rfl) ?_
          obtain ⟨q74, hq74, hf⟩ := bd_some hf
          refine kcVv C (kX1_rememberRefusal (l := l) (D := D) (k := k) h0 h1 h7 (.ref h2) (.ref h15) z0 (.int v_left) (.int (1 : Int32)) (.ref h2) (.ref h5) (.ref h6) (.ref h8) (.ref h9) (.ref h10) (.ref h11) (.ref h12) (.ref h13) (.ref h14) v_clock v_refused y1 y2 (v_order y4.toNatClampNeg) q34 q74 hq74) mt_X1_rememberRefusal mw_625 ⟨rfl, rfl, Nat.le_of_ble_eq_true rfl, Nat.le_of_ble_eq_true rfl⟩ hP hD hS 0 rfl rfl rfl [0, 1, 7] rfl rfl [some 0, some 1, none, none, none, none, none, some 2, none, none, none, none, none, none, none, none] rfl rfl (w2 := (wX1_handAll k h0 h1 h2 h3 h4 h5 h6 h7 h8 h9 h10 h11 h12 h13 h14 h15 z0 z1 z2 z3 v_left (1 : Int32) v_clock v_letters v_rooms v_letterRows v_rules v_counts q74 v_tokens v_hops v_since v_notes v_lasts v_deliveredAt v_deliveredHops v_order)) rfl rfl rfl hl.1 (rest := []) (Nat.le_of_ble_eq_true rfl) rfl dX1_handAll_74 ⟨Nat.zero_le _, Nat.zero_le _⟩ (fun H locs hP hD hS => ?_)
          refine lv_iinc (v := (y4 + (1 : Int32))) (lv' := [(4, .int (y4 + (1 : Int32))), (6, .int q34), (5, .int (v_order y4.toNatClampNeg)), (0, .ref h0), (1, .int y1), (2, .int y2), (3, .int y3)]) hx hb dX1_handAll_77 hl (k := 6) rfl rfl (by decide) rfl (fun ls hl => ?_)
          refine lv_goto (tgt := 10) hx hb dX1_handAll_80 (by decide) ?_
          exact ih v_left (1 : Int32) v_counts q74 v_tokens v_hops v_since v_notes v_deliveredAt v_deliveredHops (y4 + (1 : Int32)) _ _ _ _ hf hP hD hS (lv_sub hl [3, 4, 5, 6, 0] rfl) hk
      · rw [if_pos hc] at hf
        refine lv_aload_n hx hb dX1_handAll_44 rfl (lv_at hl 2 rfl) ?_
        refine lv_iload_n hx hb dX1_handAll_45 rfl (lv_at hl 3 rfl) ?_
        refine lv_iload_n hx hb dX1_handAll_46 rfl (lv_at hl 4 rfl) ?_
        refine lv_iload hx hb dX1_handAll_47 (lv_at hl 1 rfl) ?_
        obtain ⟨q49, hq49, hf⟩ := bd_some hf
        refine kcVv C (kX1_handOver (l := l) (D := D) (k := k) h0 h1 h2 h3 h4 h5 h6 h8 h9 h10 h11 h13 h14 (.ref h15) z0 (.int v_refusedOne) (.ref h7) (.ref h12) z1 z2 z3 v_left v_clock v_letters v_rooms v_letterRows v_rules v_counts v_tokens v_hops v_since v_notes v_deliveredAt v_deliveredHops y1 y2 (v_order y4.toNatClampNeg) q49 hq49) mt_X1_handOver mw_617 ⟨rfl, rfl, Nat.le_of_ble_eq_true rfl, Nat.le_of_ble_eq_true rfl⟩ hP hD hS 0 rfl rfl rfl [0, 1, 2, 3, 4, 5, 6, 8, 9, 10, 11, 13, 14] rfl rfl [some 0, some 1, some 2, some 3, some 4, some 5, some 6, none, some 7, some 8, some 9, some 10, none, some 11, some 12, none] rfl rfl (w2 := (wX1_handAll k h0 h1 h2 h3 h4 h5 h6 h7 h8 h9 h10 h11 h12 h13 h14 h15 z0 z1 z2 z3 q49.1 v_refusedOne v_clock v_letters v_rooms v_letterRows v_rules q49.2.1 v_refused q49.2.2.1 q49.2.2.2.1 q49.2.2.2.2.1 q49.2.2.2.2.2.1 v_lasts q49.2.2.2.2.2.2.1 q49.2.2.2.2.2.2.2 v_order)) rfl rfl rfl hl.1 (rest := []) (Nat.le_of_ble_eq_true rfl) rfl dX1_handAll_49 ⟨Nat.zero_le _, Nat.zero_le _⟩ (fun H locs hP hD hS => ?_)
        refine lv_goto (tgt := 77) hx hb dX1_handAll_52 (by decide) ?_
        refine lv_iinc (v := (y4 + (1 : Int32))) (lv' := [(4, .int (y4 + (1 : Int32))), (6, .int q34), (5, .int (v_order y4.toNatClampNeg)), (0, .ref h0), (1, .int y1), (2, .int y2), (3, .int y3)]) hx hb dX1_handAll_77 hl (k := 6) rfl rfl (by decide) rfl (fun ls hl => ?_)
        refine lv_goto (tgt := 10) hx hb dX1_handAll_80 (by decide) ?_
        exact ih q49.1 v_refusedOne q49.2.1 v_refused q49.2.2.1 q49.2.2.2.1 q49.2.2.2.2.1 q49.2.2.2.2.2.1 q49.2.2.2.2.2.2.1 q49.2.2.2.2.2.2.2 (y4 + (1 : Int32)) _ _ _ _ hf hP hD hS (lv_sub hl [3, 4, 5, 6, 0] rfl) hk
set_option maxHeartbeats 4000000 in
set_option maxRecDepth 100000 in
theorem kX1_handAll {l : Launch} {D : va_G} {k : Nat → ClassId} (h0 h1 h2 h3 h4 h5 h6 h7 h8 h9 h10 h11 h12 h13 h14 h15 : Nat) (z0 z1 z2 z3 : Value) (v_left : Int32) (v_refusedOne : Int32) (v_clock : Int32) (v_letters : Int32) (v_rooms : Nat → Int32) (v_letterRows : Nat → Int32) (v_rules : Nat → Int32) (v_counts : Nat → Int32) (v_refused : Nat → Int32) (v_tokens : Nat → Int32) (v_hops : Nat → Int32) (v_since : Nat → Int32) (v_notes : Nat → Int32) (v_lasts : Nat → Int32) (v_deliveredAt : Nat → Int32) (v_deliveredHops : Nat → Int32) (v_order : Nat → Int32) (x1 : Int32) (x2 : Int32) (q : Int32 × Int32 × (Nat → Int32) × (Nat → Int32) × (Nat → Int32) × (Nat → Int32) × (Nat → Int32) × (Nat → Int32) × (Nat → Int32) × (Nat → Int32) × (Nat → Int32)) (hf : fX1_handAll v_left v_refusedOne v_clock v_letters v_rooms v_letterRows v_rules v_counts v_refused v_tokens v_hops v_since v_notes v_lasts v_deliveredAt v_deliveredHops v_order x1 x2 = some q) : KMv l yX1_handAll cX1_handAll 7 ({ frames := 4, cells := 0, slots := 0, locals := 98 } : Room) D k [.ref h0, .int x1, .int x2] (wX1_handAll k h0 h1 h2 h3 h4 h5 h6 h7 h8 h9 h10 h11 h12 h13 h14 h15 z0 z1 z2 z3 v_left v_refusedOne v_clock v_letters v_rooms v_letterRows v_rules v_counts v_refused v_tokens v_hops v_since v_notes v_lasts v_deliveredAt v_deliveredHops v_order) (wX1_handAll k h0 h1 h2 h3 h4 h5 h6 h7 h8 h9 h10 h11 h12 h13 h14 h15 z0 z1 z2 z3 q.1 q.2.1 v_clock v_letters v_rooms v_letterRows v_rules q.2.2.1 q.2.2.2.1 q.2.2.2.2.1 q.2.2.2.2.2.1 q.2.2.2.2.2.2.1 q.2.2.2.2.2.2.2.1 v_lasts q.2.2.2.2.2.2.2.2.1 q.2.2.2.2.2.2.2.2.2.1 q.2.2.2.2.2.2.2.2.2.2) := by
  refine kent_v (by decide) (Nat.le_of_ble_eq_true rfl) ?_
  intro p e s m below meth c A Q ls C hP hD hS hl hret
  obtain ⟨hx, hb, -⟩ := id C
  have hl : lv_has ls 7 [(0, .ref h0), (1, .int x1), (2, .int x2)] := hl
  unfold fX1_handAll at hf
  generalize ([.ref h0, .int x1, .int x2] : List Value).toArray = args at *
  refine lv_aload_n hx hb dX1_handAll_0 rfl (lv_at hl 0 rfl) ?_
  refine lv_iload_n hx hb dX1_handAll_1 rfl (lv_at hl 1 rfl) ?_
  refine lv_iload_n hx hb dX1_handAll_2 rfl (lv_at hl 2 rfl) ?_
  obtain ⟨q3, hq3, hf⟩ := bd_some hf
  refine kcVi C (kX1_listCopies (l := l) (D := D) (k := k) h0 h1 h2 h4 h8 h9 h15 z0 (.int v_left) (.int v_refusedOne) (.ref h5) (.ref h6) (.ref h7) (.ref h10) (.ref h11) (.ref h12) (.ref h13) (.ref h14) (.int v_clock) (.ref h3) z1 z2 z3 v_letters v_letterRows v_tokens v_hops v_order x1 x2 q3 hq3) mt_X1_listCopies mw_490 ⟨rfl, rfl, Nat.le_of_ble_eq_true rfl, Nat.le_of_ble_eq_true rfl⟩ hP hD hS 0 rfl rfl rfl [0, 1, 2, 4, 8, 9, 15] rfl rfl [some 0, some 1, some 2, none, some 3, none, none, none, some 4, some 5, none, none, none, none, none, some 6] rfl rfl (w2 := (wX1_handAll k h0 h1 h2 h3 h4 h5 h6 h7 h8 h9 h10 h11 h12 h13 h14 h15 z0 z1 z2 z3 v_left v_refusedOne v_clock v_letters v_rooms v_letterRows v_rules v_counts v_refused v_tokens v_hops v_since v_notes v_lasts v_deliveredAt v_deliveredHops q3.2)) rfl rfl rfl hl.1 (rest := []) (Nat.le_of_ble_eq_true rfl) rfl dX1_handAll_3 ⟨Nat.zero_le _, Nat.zero_le _⟩ (fun H locs hP hD hS => ?_)
  refine lv_istore_n (lv' := [(3, .int q3.1), (0, .ref h0), (1, .int x1), (2, .int x2)]) hx hb dX1_handAll_6 rfl hl (by decide) rfl (fun ls hl => ?_)
  refine lv_iconst (v := (0 : Int32)) hx hb dX1_handAll_7 (by decide) ?_
  refine lv_istore (lv' := [(4, .int (0 : Int32)), (3, .int q3.1), (0, .ref h0), (1, .int x1), (2, .int x2)]) hx hb dX1_handAll_8 hl (by decide) rfl (fun ls hl => ?_)
  obtain ⟨ex10, hv, hf⟩ := bd_some hf
  refine wX1_handAll_10 C h0 h1 h2 h3 h4 h5 h6 h7 h8 h9 h10 h11 h12 h13 h14 h15 z0 z1 z2 z3 v_clock v_letters v_rooms v_letterRows v_rules v_lasts q3.2 x1 x2 q3.1 FU v_left v_refusedOne v_counts v_refused v_tokens v_hops v_since v_notes v_deliveredAt v_deliveredHops (0 : Int32) ex10 _ _ _ hv hP hD hS (lv_sub hl [2, 3, 4, 1, 0] rfl) (fun H locs ls hP hD hS hl => ?_)
  obtain rfl := Option.some.inj hf
  exact hret _ _ _ _ dX1_handAll_83 hP hS
set_option maxHeartbeats 4000000 in
set_option maxRecDepth 100000 in
theorem kX1_holdMeeting {l : Launch} {D : va_G} {k : Nat → ClassId} (h0 h1 h2 h3 h4 h5 h6 h7 h8 h9 h10 h11 h12 h13 h14 h15 : Nat) (z0 z1 z2 z3 : Value) (v_left : Int32) (v_refusedOne : Int32) (v_clock : Int32) (v_letters : Int32) (v_rooms : Nat → Int32) (v_letterRows : Nat → Int32) (v_rules : Nat → Int32) (v_counts : Nat → Int32) (v_refused : Nat → Int32) (v_tokens : Nat → Int32) (v_hops : Nat → Int32) (v_since : Nat → Int32) (v_notes : Nat → Int32) (v_lasts : Nat → Int32) (v_deliveredAt : Nat → Int32) (v_deliveredHops : Nat → Int32) (v_order : Nat → Int32) (x1 : Int32) (x2 : Int32) (x3 : Int32) (q : Int32 × Int32 × (Nat → Int32) × (Nat → Int32) × (Nat → Int32) × (Nat → Int32) × (Nat → Int32) × (Nat → Int32) × (Nat → Int32) × (Nat → Int32) × (Nat → Int32) × (Nat → Int32)) (hf : fX1_holdMeeting v_left v_refusedOne v_clock v_letters v_rooms v_letterRows v_rules v_counts v_refused v_tokens v_hops v_since v_notes v_lasts v_deliveredAt v_deliveredHops v_order x1 x2 x3 = some q) : KMv l yX1_holdMeeting cX1_holdMeeting 5 ({ frames := 5, cells := 0, slots := 0, locals := 124 } : Room) D k [.ref h0, .int x1, .int x2, .int x3] (wX1_holdMeeting k h0 h1 h2 h3 h4 h5 h6 h7 h8 h9 h10 h11 h12 h13 h14 h15 z0 z1 z2 z3 v_left v_refusedOne v_clock v_letters v_rooms v_letterRows v_rules v_counts v_refused v_tokens v_hops v_since v_notes v_lasts v_deliveredAt v_deliveredHops v_order) (wX1_holdMeeting k h0 h1 h2 h3 h4 h5 h6 h7 h8 h9 h10 h11 h12 h13 h14 h15 z0 z1 z2 z3 q.1 q.2.1 v_clock v_letters v_rooms v_letterRows v_rules q.2.2.1 q.2.2.2.1 q.2.2.2.2.1 q.2.2.2.2.2.1 q.2.2.2.2.2.2.1 q.2.2.2.2.2.2.2.1 q.2.2.2.2.2.2.2.2.1 q.2.2.2.2.2.2.2.2.2.1 q.2.2.2.2.2.2.2.2.2.2.1 q.2.2.2.2.2.2.2.2.2.2.2) := by
  refine kent_v (by decide) (Nat.le_of_ble_eq_true rfl) ?_
  intro p e s m below meth c A Q ls C hP hD hS hl hret
  obtain ⟨hx, hb, -⟩ := id C
  have hl : lv_has ls 5 [(0, .ref h0), (1, .int x1), (2, .int x2), (3, .int x3)] := hl
  unfold fX1_holdMeeting at hf
  generalize ([.ref h0, .int x1, .int x2, .int x3] : List Value).toArray = args at *
  refine lv_aload_n hx hb dX1_holdMeeting_0 rfl (lv_at hl 0 rfl) ?_
  refine kget C inX1 hP 0 rfl rfl 0 (by decide) mw_194 rfl dX1_holdMeeting_1 ?_
  refine kget C inX4 hP 1 rfl rfl 2 (by decide) mw_136 rfl dX1_holdMeeting_4 ?_
  refine lv_bipush (v := (6 : Int32)) hx hb dX1_holdMeeting_7 (by decide) ?_
  refine lv_dup2_11 hx hb dX1_holdMeeting_9 rfl rfl ?_
  refine kiald C hP 6 rfl (by unfold vp_in; decide) dX1_holdMeeting_10 (j := 6) (by decide) ?_
  refine lv_iconst (v := (1 : Int32)) hx hb dX1_holdMeeting_11 (by decide) ?_
  refine lv_iadd hx hb dX1_holdMeeting_12 ?_
  obtain ⟨v_counts_13, hn13, hf⟩ := nm_some hf
  refine kiast C hP hD hS 6 rfl (by unfold vp_in; decide) dX1_holdMeeting_13 (j := 6) (by decide) (g := v_counts_13) hn13 (w2 := (wX1_holdMeeting k h0 h1 h2 h3 h4 h5 h6 h7 h8 h9 h10 h11 h12 h13 h14 h15 z0 z1 z2 z3 v_left v_refusedOne v_clock v_letters v_rooms v_letterRows v_rules v_counts_13 v_refused v_tokens v_hops v_since v_notes v_lasts v_deliveredAt v_deliveredHops v_order)) rfl (fun H locs hP hD hS => ?_)
  refine lv_aload_n hx hb dX1_holdMeeting_14 rfl (lv_at hl 0 rfl) ?_
  refine lv_iload_n hx hb dX1_holdMeeting_15 rfl (lv_at hl 3 rfl) ?_
  refine kput C inX1 tyX1_ok nmX1 hP hD hS 0 rfl rfl 4 (by decide) mw_198 rfl rfl rfl (Nat.le_of_ble_eq_true rfl) dX1_holdMeeting_16 (w2 := (wX1_holdMeeting k h0 h1 h2 h3 h4 h5 h6 h7 h8 h9 h10 h11 h12 h13 h14 h15 z0 z1 z2 z3 x3 v_refusedOne v_clock v_letters v_rooms v_letterRows v_rules v_counts_13 v_refused v_tokens v_hops v_since v_notes v_lasts v_deliveredAt v_deliveredHops v_order)) rfl (fun H locs hP hD hS => ?_)
  refine lv_aload_n hx hb dX1_holdMeeting_19 rfl (lv_at hl 0 rfl) ?_
  refine lv_iconst (v := (0 : Int32)) hx hb dX1_holdMeeting_20 (by decide) ?_
  refine kput C inX1 tyX1_ok nmX1 hP hD hS 0 rfl rfl 5 (by decide) mw_199 rfl rfl rfl (Nat.le_of_ble_eq_true rfl) dX1_holdMeeting_21 (w2 := (wX1_holdMeeting k h0 h1 h2 h3 h4 h5 h6 h7 h8 h9 h10 h11 h12 h13 h14 h15 z0 z1 z2 z3 x3 (0 : Int32) v_clock v_letters v_rooms v_letterRows v_rules v_counts_13 v_refused v_tokens v_hops v_since v_notes v_lasts v_deliveredAt v_deliveredHops v_order)) rfl (fun H locs hP hD hS => ?_)
  refine lv_aload_n hx hb dX1_holdMeeting_24 rfl (lv_at hl 0 rfl) ?_
  refine kget C inX1 hP 0 rfl rfl 0 (by decide) mw_194 rfl dX1_holdMeeting_25 ?_
  refine kget C inX4 hP 1 rfl rfl 7 (by decide) mw_151 rfl dX1_holdMeeting_28 ?_
  refine lv_iload_n hx hb dX1_holdMeeting_31 rfl (lv_at hl 1 rfl) ?_
  obtain ⟨hin, hf⟩ := gd_some hf
  refine kiald C hP 11 rfl hin dX1_holdMeeting_32 (j := x1.toNatClampNeg) rfl ?_
  refine lv_aload_n hx hb dX1_holdMeeting_33 rfl (lv_at hl 0 rfl) ?_
  refine kget C inX1 hP 0 rfl rfl 0 (by decide) mw_194 rfl dX1_holdMeeting_34 ?_
  refine kget C inX4 hP 1 rfl rfl 7 (by decide) mw_151 rfl dX1_holdMeeting_37 ?_
  refine lv_iload_n hx hb dX1_holdMeeting_40 rfl (lv_at hl 2 rfl) ?_
  obtain ⟨hin, hf⟩ := gd_some hf
  refine kiald C hP 11 rfl hin dX1_holdMeeting_41 (j := x2.toNatClampNeg) rfl ?_
  refine lv_ior hx hb dX1_holdMeeting_42 ?_
  refine lv_istore (lv' := [(4, .int ((v_notes x1.toNatClampNeg) ||| (v_notes x2.toNatClampNeg))), (0, .ref h0), (1, .int x1), (2, .int x2), (3, .int x3)]) hx hb dX1_holdMeeting_43 hl (by decide) rfl (fun ls hl => ?_)
  refine lv_aload_n hx hb dX1_holdMeeting_45 rfl (lv_at hl 1 rfl) ?_
  refine kget C inX1 hP 0 rfl rfl 0 (by decide) mw_194 rfl dX1_holdMeeting_46 ?_
  refine kget C inX4 hP 1 rfl rfl 7 (by decide) mw_151 rfl dX1_holdMeeting_49 ?_
  refine lv_iload_n hx hb dX1_holdMeeting_52 rfl (lv_at hl 2 rfl) ?_
  refine lv_iload hx hb dX1_holdMeeting_53 (lv_at hl 0 rfl) ?_
  obtain ⟨hin, hf⟩ := gd_some hf
  obtain ⟨v_notes_55, hn55, hf⟩ := nm_some hf
  refine kiast C hP hD hS 11 rfl hin dX1_holdMeeting_55 (j := x1.toNatClampNeg) rfl (g := v_notes_55) hn55 (w2 := (wX1_holdMeeting k h0 h1 h2 h3 h4 h5 h6 h7 h8 h9 h10 h11 h12 h13 h14 h15 z0 z1 z2 z3 x3 (0 : Int32) v_clock v_letters v_rooms v_letterRows v_rules v_counts_13 v_refused v_tokens v_hops v_since v_notes_55 v_lasts v_deliveredAt v_deliveredHops v_order)) rfl (fun H locs hP hD hS => ?_)
  refine lv_aload_n hx hb dX1_holdMeeting_56 rfl (lv_at hl 1 rfl) ?_
  refine kget C inX1 hP 0 rfl rfl 0 (by decide) mw_194 rfl dX1_holdMeeting_57 ?_
  refine kget C inX4 hP 1 rfl rfl 7 (by decide) mw_151 rfl dX1_holdMeeting_60 ?_
  refine lv_iload_n hx hb dX1_holdMeeting_63 rfl (lv_at hl 3 rfl) ?_
  refine lv_iload hx hb dX1_holdMeeting_64 (lv_at hl 0 rfl) ?_
  obtain ⟨hin, hf⟩ := gd_some hf
  obtain ⟨v_notes_66, hn66, hf⟩ := nm_some hf
  refine kiast C hP hD hS 11 rfl hin dX1_holdMeeting_66 (j := x2.toNatClampNeg) rfl (g := v_notes_66) hn66 (w2 := (wX1_holdMeeting k h0 h1 h2 h3 h4 h5 h6 h7 h8 h9 h10 h11 h12 h13 h14 h15 z0 z1 z2 z3 x3 (0 : Int32) v_clock v_letters v_rooms v_letterRows v_rules v_counts_13 v_refused v_tokens v_hops v_since v_notes_66 v_lasts v_deliveredAt v_deliveredHops v_order)) rfl (fun H locs hP hD hS => ?_)
  refine lv_aload_n hx hb dX1_holdMeeting_67 rfl (lv_at hl 1 rfl) ?_
  refine lv_iload_n hx hb dX1_holdMeeting_68 rfl (lv_at hl 2 rfl) ?_
  obtain ⟨q69, hq69, hf⟩ := bd_some hf
  refine kcVv C (kX1_cure (l := l) (D := D) (k := k) h0 h1 h2 h6 h8 h11 (.ref h15) z0 (.int x3) (.int (0 : Int32)) (.ref h5) (.ref h7) (.ref h9) (.ref h10) (.ref h12) (.ref h13) (.ref h14) (.int v_clock) (.ref h3) z1 (.ref h4) z2 z3 v_letters v_counts_13 v_tokens v_notes_66 x1 q69 hq69) mt_X1_cure mw_608 ⟨rfl, rfl, Nat.le_of_ble_eq_true rfl, Nat.le_of_ble_eq_true rfl⟩ hP hD hS 0 rfl rfl rfl [0, 1, 2, 6, 8, 11] rfl rfl [some 0, some 1, some 2, none, none, none, some 3, none, some 4, none, none, some 5, none, none, none, none] rfl rfl (w2 := (wX1_holdMeeting k h0 h1 h2 h3 h4 h5 h6 h7 h8 h9 h10 h11 h12 h13 h14 h15 z0 z1 z2 z3 x3 (0 : Int32) v_clock v_letters v_rooms v_letterRows v_rules q69.1 v_refused q69.2 v_hops v_since v_notes_66 v_lasts v_deliveredAt v_deliveredHops v_order)) rfl rfl rfl hl.1 (rest := []) (Nat.le_of_ble_eq_true rfl) rfl dX1_holdMeeting_69 ⟨Nat.zero_le _, Nat.zero_le _⟩ (fun H locs hP hD hS => ?_)
  refine lv_aload_n hx hb dX1_holdMeeting_72 rfl (lv_at hl 1 rfl) ?_
  refine lv_iload_n hx hb dX1_holdMeeting_73 rfl (lv_at hl 3 rfl) ?_
  obtain ⟨q74, hq74, hf⟩ := bd_some hf
  refine kcVv C (kX1_cure (l := l) (D := D) (k := k) h0 h1 h2 h6 h8 h11 (.ref h15) z0 (.int x3) (.int (0 : Int32)) (.ref h5) (.ref h7) (.ref h9) (.ref h10) (.ref h12) (.ref h13) (.ref h14) (.int v_clock) (.ref h3) z1 (.ref h4) z2 z3 v_letters q69.1 q69.2 v_notes_66 x2 q74 hq74) mt_X1_cure mw_608 ⟨rfl, rfl, Nat.le_of_ble_eq_true rfl, Nat.le_of_ble_eq_true rfl⟩ hP hD hS 0 rfl rfl rfl [0, 1, 2, 6, 8, 11] rfl rfl [some 0, some 1, some 2, none, none, none, some 3, none, some 4, none, none, some 5, none, none, none, none] rfl rfl (w2 := (wX1_holdMeeting k h0 h1 h2 h3 h4 h5 h6 h7 h8 h9 h10 h11 h12 h13 h14 h15 z0 z1 z2 z3 x3 (0 : Int32) v_clock v_letters v_rooms v_letterRows v_rules q74.1 v_refused q74.2 v_hops v_since v_notes_66 v_lasts v_deliveredAt v_deliveredHops v_order)) rfl rfl rfl hl.1 (rest := []) (Nat.le_of_ble_eq_true rfl) rfl dX1_holdMeeting_74 ⟨Nat.zero_le _, Nat.zero_le _⟩ (fun H locs hP hD hS => ?_)
  refine lv_aload_n hx hb dX1_holdMeeting_77 rfl (lv_at hl 1 rfl) ?_
  refine lv_iload_n hx hb dX1_holdMeeting_78 rfl (lv_at hl 2 rfl) ?_
  refine lv_iload_n hx hb dX1_holdMeeting_79 rfl (lv_at hl 3 rfl) ?_
  obtain ⟨q80, hq80, hf⟩ := bd_some hf
  refine kcVv C (kX1_handAll (l := l) (D := D) (k := k) h0 h1 h2 h3 h4 h5 h6 h7 h8 h9 h10 h11 h12 h13 h14 h15 z0 z1 z2 z3 x3 (0 : Int32) v_clock v_letters v_rooms v_letterRows v_rules q74.1 v_refused q74.2 v_hops v_since v_notes_66 v_lasts v_deliveredAt v_deliveredHops v_order x1 x2 q80 hq80) mt_X1_handAll mw_612 ⟨rfl, rfl, Nat.le_of_ble_eq_true rfl, Nat.le_of_ble_eq_true rfl⟩ hP hD hS 0 rfl rfl rfl [0, 1, 2, 3, 4, 5, 6, 7, 8, 9, 10, 11, 12, 13, 14, 15] rfl rfl [some 0, some 1, some 2, some 3, some 4, some 5, some 6, some 7, some 8, some 9, some 10, some 11, some 12, some 13, some 14, some 15] rfl rfl (w2 := (wX1_holdMeeting k h0 h1 h2 h3 h4 h5 h6 h7 h8 h9 h10 h11 h12 h13 h14 h15 z0 z1 z2 z3 q80.1 q80.2.1 v_clock v_letters v_rooms v_letterRows v_rules q80.2.2.1 q80.2.2.2.1 q80.2.2.2.2.1 q80.2.2.2.2.2.1 q80.2.2.2.2.2.2.1 q80.2.2.2.2.2.2.2.1 v_lasts q80.2.2.2.2.2.2.2.2.1 q80.2.2.2.2.2.2.2.2.2.1 q80.2.2.2.2.2.2.2.2.2.2)) rfl rfl rfl hl.1 (rest := []) (Nat.le_of_ble_eq_true rfl) rfl dX1_holdMeeting_80 ⟨Nat.zero_le _, Nat.zero_le _⟩ (fun H locs hP hD hS => ?_)
  refine lv_aload_n hx hb dX1_holdMeeting_83 rfl (lv_at hl 1 rfl) ?_
  refine lv_iload_n hx hb dX1_holdMeeting_84 rfl (lv_at hl 3 rfl) ?_
  refine lv_iload_n hx hb dX1_holdMeeting_85 rfl (lv_at hl 2 rfl) ?_
  obtain ⟨q86, hq86, hf⟩ := bd_some hf
  refine kcVv C (kX1_handAll (l := l) (D := D) (k := k) h0 h1 h2 h3 h4 h5 h6 h7 h8 h9 h10 h11 h12 h13 h14 h15 z0 z1 z2 z3 q80.1 q80.2.1 v_clock v_letters v_rooms v_letterRows v_rules q80.2.2.1 q80.2.2.2.1 q80.2.2.2.2.1 q80.2.2.2.2.2.1 q80.2.2.2.2.2.2.1 q80.2.2.2.2.2.2.2.1 v_lasts q80.2.2.2.2.2.2.2.2.1 q80.2.2.2.2.2.2.2.2.2.1 q80.2.2.2.2.2.2.2.2.2.2 x2 x1 q86 hq86) mt_X1_handAll mw_612 ⟨rfl, rfl, Nat.le_of_ble_eq_true rfl, Nat.le_of_ble_eq_true rfl⟩ hP hD hS 0 rfl rfl rfl [0, 1, 2, 3, 4, 5, 6, 7, 8, 9, 10, 11, 12, 13, 14, 15] rfl rfl [some 0, some 1, some 2, some 3, some 4, some 5, some 6, some 7, some 8, some 9, some 10, some 11, some 12, some 13, some 14, some 15] rfl rfl (w2 := (wX1_holdMeeting k h0 h1 h2 h3 h4 h5 h6 h7 h8 h9 h10 h11 h12 h13 h14 h15 z0 z1 z2 z3 q86.1 q86.2.1 v_clock v_letters v_rooms v_letterRows v_rules q86.2.2.1 q86.2.2.2.1 q86.2.2.2.2.1 q86.2.2.2.2.2.1 q86.2.2.2.2.2.2.1 q86.2.2.2.2.2.2.2.1 v_lasts q86.2.2.2.2.2.2.2.2.1 q86.2.2.2.2.2.2.2.2.2.1 q86.2.2.2.2.2.2.2.2.2.2)) rfl rfl rfl hl.1 (rest := []) (Nat.le_of_ble_eq_true rfl) rfl dX1_holdMeeting_86 ⟨Nat.zero_le _, Nat.zero_le _⟩ (fun H locs hP hD hS => ?_)
  refine lv_aload_n hx hb dX1_holdMeeting_89 rfl (lv_at hl 1 rfl) ?_
  refine kget C inX1 hP 0 rfl rfl 0 (by decide) mw_194 rfl dX1_holdMeeting_90 ?_
  refine lv_iload_n hx hb dX1_holdMeeting_93 rfl (lv_at hl 2 rfl) ?_
  refine lv_iload_n hx hb dX1_holdMeeting_94 rfl (lv_at hl 3 rfl) ?_
  obtain ⟨q95, hq95, hf⟩ := bd_some hf
  refine kcVv C (kX4_noteMet (l := l) (D := D) (k := k) h1 h12 (.ref h2) (.ref h5) (.ref h6) (.ref h7) (.ref h8) (.ref h9) (.ref h10) (.ref h11) (.ref h13) (.ref h14) v_clock v_lasts x1 x2 q95 hq95) mt_X4_noteMet mw_629 ⟨rfl, rfl, Nat.le_of_ble_eq_true rfl, Nat.le_of_ble_eq_true rfl⟩ hP hD hS 1 rfl rfl rfl [1, 12] rfl rfl [none, some 0, none, none, none, none, none, none, none, none, none, none, some 1, none, none, none] rfl rfl (w2 := (wX1_holdMeeting k h0 h1 h2 h3 h4 h5 h6 h7 h8 h9 h10 h11 h12 h13 h14 h15 z0 z1 z2 z3 q86.1 q86.2.1 v_clock v_letters v_rooms v_letterRows v_rules q86.2.2.1 q86.2.2.2.1 q86.2.2.2.2.1 q86.2.2.2.2.2.1 q86.2.2.2.2.2.2.1 q86.2.2.2.2.2.2.2.1 q95 q86.2.2.2.2.2.2.2.2.1 q86.2.2.2.2.2.2.2.2.2.1 q86.2.2.2.2.2.2.2.2.2.2)) rfl rfl rfl hl.1 (rest := []) (Nat.le_of_ble_eq_true rfl) rfl dX1_holdMeeting_95 ⟨Nat.zero_le _, Nat.zero_le _⟩ (fun H locs hP hD hS => ?_)
  obtain rfl := Option.some.inj hf
  exact hret _ _ _ _ dX1_holdMeeting_98 hP hS
set_option maxHeartbeats 4000000 in
set_option maxRecDepth 100000 in
theorem wX1_passMinute_19 {p : Program} {l : Launch} {e : Env} {s : State} {m : MethodId} {args : Array Value} {below : List Frame} {meth : Method} {c : Code} {A : Nat → Prop} {Q : State → Prop} {D : va_G} {k : Nat → ClassId} (C : Cx p s m args c cX1_passMinute 2 RX1 A D k) (h0 h1 h2 h3 h4 h5 h6 h7 h8 h9 h10 h11 h12 h13 h14 h15 h16 : Nat) (z0 : Value) (v_left : Int32) (v_refusedOne : Int32) (v_clock : Int32) (v_nodes : Int32) (v_meetings : Int32) (v_letters : Int32) (v_rooms : Nat → Int32) (v_meetingRows : Nat → Int32) (v_letterRows : Nat → Int32) (v_rules : Nat → Int32) (v_refused : Nat → Int32) (v_notes : Nat → Int32) (v_lasts : Nat → Int32) (v_deliveredAt : Nat → Int32) (v_deliveredHops : Nat → Int32) (v_order : Nat → Int32) : ∀ (f : Nat) (v_counts : Nat → Int32) (v_tokens : Nat → Int32) (v_hops : Nat → Int32) (v_since : Nat → Int32) (y1 : Int32) (ex : ((Nat → Int32) × (Nat → Int32) × (Nat → Int32) × (Nat → Int32))) (H : Heap) (locs : List Loc) (ls : Array Slot), fX1_passMinute_19 v_clock v_letters v_rooms v_letterRows v_rules f v_counts v_tokens v_hops v_since y1 = some ex → va_P D vwCl (wX1_passMinute k h0 h1 h2 h3 h4 h5 h6 h7 h8 h9 h10 h11 h12 h13 h14 h15 h16 z0 v_left v_refusedOne v_clock v_nodes v_meetings v_letters v_rooms v_meetingRows v_letterRows v_rules v_counts v_refused v_tokens v_hops v_since v_notes v_lasts v_deliveredAt v_deliveredHops v_order) H → va_D A (wX1_passMinute k h0 h1 h2 h3 h4 h5 h6 h7 h8 h9 h10 h11 h12 h13 h14 h15 h16 z0 v_left v_refusedOne v_clock v_nodes v_meetings v_letters v_rooms v_meetingRows v_letterRows v_rules v_counts v_refused v_tokens v_hops v_since v_notes v_lasts v_deliveredAt v_deliveredHops v_order) → va_S A s.heap H locs → lv_has ls 2 [(0, .ref h0), (1, .int y1)] → (∀ (H : Heap) (locs : List Loc) (ls : Array Slot), va_P D vwCl (wX1_passMinute k h0 h1 h2 h3 h4 h5 h6 h7 h8 h9 h10 h11 h12 h13 h14 h15 h16 z0 v_left v_refusedOne v_clock v_nodes v_meetings v_letters v_rooms v_meetingRows v_letterRows v_rules ex.1 v_refused ex.2.1 ex.2.2.1 ex.2.2.2 v_notes v_lasts v_deliveredAt v_deliveredHops v_order) H → va_D A (wX1_passMinute k h0 h1 h2 h3 h4 h5 h6 h7 h8 h9 h10 h11 h12 h13 h14 h15 h16 z0 v_left v_refusedOne v_clock v_nodes v_meetings v_letters v_rooms v_meetingRows v_letterRows v_rules ex.1 v_refused ex.2.1 ex.2.2.1 ex.2.2.2 v_notes v_lasts v_deliveredAt v_deliveredHops v_order) → va_S A s.heap H locs → lv_has ls 2 [(0, .ref h0)] → W p l e ({ frames := 6, cells := 0, slots := 0, locals := 148 } : Room) s m args below meth c H locs 0 0 Q (F0 m 60 ls [])) → W p l e ({ frames := 6, cells := 0, slots := 0, locals := 148 } : Room) s m args below meth c H locs 0 0 Q (F0 m 19 ls []) := by
  obtain ⟨hx, hb, -⟩ := id C
  intro f
  induction f with
  | zero =>
    intro v_counts v_tokens v_hops v_since y1 ex H locs ls hf hP hD hS hl hk
    cases hf
  | succ f ih =>
    intro v_counts v_tokens v_hops v_since y1 ex H locs ls hf hP hD hS hl hk
    rw [fX1_passMinute_19] at hf
    refine lv_iload_n hx hb dX1_passMinute_19 rfl (lv_at hl 1 rfl) ?_
    refine lv_aload_n hx hb dX1_passMinute_20 rfl (lv_at hl 0 rfl) ?_
    refine kget C inX1 hP 0 rfl rfl 1 (by decide) mw_195 rfl dX1_passMinute_21 ?_
    refine kget C inX0 hP 2 rfl rfl 5 (by decide) mw_68 rfl dX1_passMinute_24 ?_
    refine lv_icmp_ge (tgt := 60) hx hb dX1_passMinute_27 (by decide) (fun hc => ?_) (fun hc => ?_)
    · rw [if_pos hc] at hf
      obtain rfl := Option.some.inj hf
      exact hk _ _ _ hP hD hS (lv_sub hl [0] rfl)
    · rw [if_neg hc] at hf
      refine lv_aload_n hx hb dX1_passMinute_30 rfl (lv_at hl 0 rfl) ?_
      refine kget C inX1 hP 0 rfl rfl 1 (by decide) mw_195 rfl dX1_passMinute_31 ?_
      refine lv_iload_n hx hb dX1_passMinute_34 rfl (lv_at hl 1 rfl) ?_
      refine lv_iconst (v := (0 : Int32)) hx hb dX1_passMinute_35 (by decide) ?_
      obtain ⟨q36, hq36, hf⟩ := bd_some hf
      refine kcVi C (kX0_ofLetter (l := l) (D := D) (k := k) h2 h5 (.ref h3) (.ref h4) (.int v_nodes) (.int v_meetings) (.int v_letters) v_letterRows y1 (0 : Int32) q36 hq36) mt_X0_ofLetter mw_499 ⟨rfl, rfl, Nat.le_of_ble_eq_true rfl, Nat.le_of_ble_eq_true rfl⟩ hP hD hS 2 rfl rfl rfl [2, 5] rfl rfl [none, none, some 0, none, none, some 1, none, none, none, none, none, none, none, none, none, none, none] rfl rfl (w2 := (wX1_passMinute k h0 h1 h2 h3 h4 h5 h6 h7 h8 h9 h10 h11 h12 h13 h14 h15 h16 z0 v_left v_refusedOne v_clock v_nodes v_meetings v_letters v_rooms v_meetingRows v_letterRows v_rules v_counts v_refused v_tokens v_hops v_since v_notes v_lasts v_deliveredAt v_deliveredHops v_order)) rfl rfl rfl hl.1 (rest := []) (Nat.le_of_ble_eq_true rfl) rfl dX1_passMinute_36 ⟨Nat.zero_le _, Nat.zero_le _⟩ (fun H locs hP hD hS => ?_)
      refine lv_aload_n hx hb dX1_passMinute_39 rfl (lv_at hl 0 rfl) ?_
      refine kget C inX1 hP 0 rfl rfl 0 (by decide) mw_194 rfl dX1_passMinute_40 ?_
      refine kget C inX4 hP 1 rfl rfl 11 (by decide) mw_160 rfl dX1_passMinute_43 ?_
      refine lv_icmp_ne (tgt := 54) hx hb dX1_passMinute_46 (by decide) (fun hc => ?_) (fun hc => ?_)
      · rw [if_neg hc] at hf
        refine lv_iinc (v := (y1 + (1 : Int32))) (lv' := [(1, .int (y1 + (1 : Int32))), (0, .ref h0)]) hx hb dX1_passMinute_54 hl (k := 1) rfl rfl (by decide) rfl (fun ls hl => ?_)
        refine lv_goto (tgt := 19) hx hb dX1_passMinute_57 (by decide) ?_
        exact ih v_counts v_tokens v_hops v_since (y1 + (1 : Int32)) _ _ _ _ hf hP hD hS (lv_sub hl [1, 0] rfl) hk
      · rw [if_pos hc] at hf
        refine lv_aload_n hx hb dX1_passMinute_49 rfl (lv_at hl 0 rfl) ?_
        refine lv_iload_n hx hb dX1_passMinute_50 rfl (lv_at hl 1 rfl) ?_
        obtain ⟨q51, hq51, hf⟩ := bd_some hf
        refine kcVv C (kX1_bear (l := l) (D := D) (k := k) h0 h1 h2 h3 h5 h6 h7 h9 h10 h11 (.ref h16) z0 (.int v_left) (.int v_refusedOne) (.ref h8) (.ref h12) (.ref h13) (.ref h14) (.ref h15) (.ref h4) (.int v_nodes) (.int v_meetings) v_clock v_letters v_rooms v_letterRows v_rules v_counts v_tokens v_hops v_since y1 q51 hq51) mt_X1_bear mw_584 ⟨rfl, rfl, Nat.le_of_ble_eq_true rfl, Nat.le_of_ble_eq_true rfl⟩ hP hD hS 0 rfl rfl rfl [0, 1, 2, 3, 5, 6, 7, 9, 10, 11] rfl rfl [some 0, some 1, some 2, some 3, none, some 4, some 5, some 6, none, some 7, some 8, some 9, none, none, none, none, none] rfl rfl (w2 := (wX1_passMinute k h0 h1 h2 h3 h4 h5 h6 h7 h8 h9 h10 h11 h12 h13 h14 h15 h16 z0 v_left v_refusedOne v_clock v_nodes v_meetings v_letters v_rooms v_meetingRows v_letterRows v_rules q51.1 v_refused q51.2.1 q51.2.2.1 q51.2.2.2 v_notes v_lasts v_deliveredAt v_deliveredHops v_order)) rfl rfl rfl hl.1 (rest := []) (Nat.le_of_ble_eq_true rfl) rfl dX1_passMinute_51 ⟨Nat.zero_le _, Nat.zero_le _⟩ (fun H locs hP hD hS => ?_)
        refine lv_iinc (v := (y1 + (1 : Int32))) (lv' := [(1, .int (y1 + (1 : Int32))), (0, .ref h0)]) hx hb dX1_passMinute_54 hl (k := 1) rfl rfl (by decide) rfl (fun ls hl => ?_)
        refine lv_goto (tgt := 19) hx hb dX1_passMinute_57 (by decide) ?_
        exact ih q51.1 q51.2.1 q51.2.2.1 q51.2.2.2 (y1 + (1 : Int32)) _ _ _ _ hf hP hD hS (lv_sub hl [1, 0] rfl) hk
set_option maxHeartbeats 4000000 in
set_option maxRecDepth 100000 in
theorem wX1_passMinute_62 {p : Program} {l : Launch} {e : Env} {s : State} {m : MethodId} {args : Array Value} {below : List Frame} {meth : Method} {c : Code} {A : Nat → Prop} {Q : State → Prop} {D : va_G} {k : Nat → ClassId} (C : Cx p s m args c cX1_passMinute 2 RX1 A D k) (h0 h1 h2 h3 h4 h5 h6 h7 h8 h9 h10 h11 h12 h13 h14 h15 h16 : Nat) (z0 : Value) (v_clock : Int32) (v_nodes : Int32) (v_meetings : Int32) (v_letters : Int32) (v_rooms : Nat → Int32) (v_meetingRows : Nat → Int32) (v_letterRows : Nat → Int32) (v_rules : Nat → Int32) : ∀ (f : Nat) (v_left : Int32) (v_refusedOne : Int32) (v_counts : Nat → Int32) (v_refused : Nat → Int32) (v_tokens : Nat → Int32) (v_hops : Nat → Int32) (v_since : Nat → Int32) (v_notes : Nat → Int32) (v_lasts : Nat → Int32) (v_deliveredAt : Nat → Int32) (v_deliveredHops : Nat → Int32) (v_order : Nat → Int32) (y1 : Int32) (ex : (Int32 × Int32 × (Nat → Int32) × (Nat → Int32) × (Nat → Int32) × (Nat → Int32) × (Nat → Int32) × (Nat → Int32) × (Nat → Int32) × (Nat → Int32) × (Nat → Int32) × (Nat → Int32))) (H : Heap) (locs : List Loc) (ls : Array Slot), fX1_passMinute_62 v_clock v_meetings v_letters v_rooms v_meetingRows v_letterRows v_rules f v_left v_refusedOne v_counts v_refused v_tokens v_hops v_since v_notes v_lasts v_deliveredAt v_deliveredHops v_order y1 = some ex → va_P D vwCl (wX1_passMinute k h0 h1 h2 h3 h4 h5 h6 h7 h8 h9 h10 h11 h12 h13 h14 h15 h16 z0 v_left v_refusedOne v_clock v_nodes v_meetings v_letters v_rooms v_meetingRows v_letterRows v_rules v_counts v_refused v_tokens v_hops v_since v_notes v_lasts v_deliveredAt v_deliveredHops v_order) H → va_D A (wX1_passMinute k h0 h1 h2 h3 h4 h5 h6 h7 h8 h9 h10 h11 h12 h13 h14 h15 h16 z0 v_left v_refusedOne v_clock v_nodes v_meetings v_letters v_rooms v_meetingRows v_letterRows v_rules v_counts v_refused v_tokens v_hops v_since v_notes v_lasts v_deliveredAt v_deliveredHops v_order) → va_S A s.heap H locs → lv_has ls 2 [(0, .ref h0), (1, .int y1)] → (∀ (H : Heap) (locs : List Loc) (ls : Array Slot), va_P D vwCl (wX1_passMinute k h0 h1 h2 h3 h4 h5 h6 h7 h8 h9 h10 h11 h12 h13 h14 h15 h16 z0 ex.1 ex.2.1 v_clock v_nodes v_meetings v_letters v_rooms v_meetingRows v_letterRows v_rules ex.2.2.1 ex.2.2.2.1 ex.2.2.2.2.1 ex.2.2.2.2.2.1 ex.2.2.2.2.2.2.1 ex.2.2.2.2.2.2.2.1 ex.2.2.2.2.2.2.2.2.1 ex.2.2.2.2.2.2.2.2.2.1 ex.2.2.2.2.2.2.2.2.2.2.1 ex.2.2.2.2.2.2.2.2.2.2.2) H → va_D A (wX1_passMinute k h0 h1 h2 h3 h4 h5 h6 h7 h8 h9 h10 h11 h12 h13 h14 h15 h16 z0 ex.1 ex.2.1 v_clock v_nodes v_meetings v_letters v_rooms v_meetingRows v_letterRows v_rules ex.2.2.1 ex.2.2.2.1 ex.2.2.2.2.1 ex.2.2.2.2.2.1 ex.2.2.2.2.2.2.1 ex.2.2.2.2.2.2.2.1 ex.2.2.2.2.2.2.2.2.1 ex.2.2.2.2.2.2.2.2.2.1 ex.2.2.2.2.2.2.2.2.2.2.1 ex.2.2.2.2.2.2.2.2.2.2.2) → va_S A s.heap H locs → lv_has ls 2 [] → W p l e ({ frames := 6, cells := 0, slots := 0, locals := 148 } : Room) s m args below meth c H locs 0 0 Q (F0 m 137 ls [])) → W p l e ({ frames := 6, cells := 0, slots := 0, locals := 148 } : Room) s m args below meth c H locs 0 0 Q (F0 m 62 ls []) := by
  obtain ⟨hx, hb, -⟩ := id C
  intro f
  induction f with
  | zero =>
    intro v_left v_refusedOne v_counts v_refused v_tokens v_hops v_since v_notes v_lasts v_deliveredAt v_deliveredHops v_order y1 ex H locs ls hf hP hD hS hl hk
    cases hf
  | succ f ih =>
    intro v_left v_refusedOne v_counts v_refused v_tokens v_hops v_since v_notes v_lasts v_deliveredAt v_deliveredHops v_order y1 ex H locs ls hf hP hD hS hl hk
    rw [fX1_passMinute_62] at hf
    refine lv_iload_n hx hb dX1_passMinute_62 rfl (lv_at hl 1 rfl) ?_
    refine lv_aload_n hx hb dX1_passMinute_63 rfl (lv_at hl 0 rfl) ?_
    refine kget C inX1 hP 0 rfl rfl 1 (by decide) mw_195 rfl dX1_passMinute_64 ?_
    refine kget C inX0 hP 2 rfl rfl 4 (by decide) mw_64 rfl dX1_passMinute_67 ?_
    refine lv_icmp_ge (tgt := 137) hx hb dX1_passMinute_70 (by decide) (fun hc => ?_) (fun hc => ?_)
    · rw [if_pos hc] at hf
      obtain rfl := Option.some.inj hf
      exact hk _ _ _ hP hD hS (lv_sub hl [] rfl)
    · rw [if_neg hc] at hf
      refine lv_aload_n hx hb dX1_passMinute_73 rfl (lv_at hl 0 rfl) ?_
      refine kget C inX1 hP 0 rfl rfl 1 (by decide) mw_195 rfl dX1_passMinute_74 ?_
      refine lv_iload_n hx hb dX1_passMinute_77 rfl (lv_at hl 1 rfl) ?_
      refine lv_aload_n hx hb dX1_passMinute_78 rfl (lv_at hl 0 rfl) ?_
      refine kget C inX1 hP 0 rfl rfl 0 (by decide) mw_194 rfl dX1_passMinute_79 ?_
      refine kget C inX4 hP 1 rfl rfl 11 (by decide) mw_160 rfl dX1_passMinute_82 ?_
      refine lv_aload_n hx hb dX1_passMinute_85 rfl (lv_at hl 0 rfl) ?_
      refine kget C inX1 hP 0 rfl rfl 0 (by decide) mw_194 rfl dX1_passMinute_86 ?_
      refine kget C inX4 hP 1 rfl rfl 1 (by decide) mw_133 rfl dX1_passMinute_89 ?_
      refine lv_iconst (v := (0 : Int32)) hx hb dX1_passMinute_92 (by decide) ?_
      refine kiald C hP 6 rfl (by unfold vp_in; decide) dX1_passMinute_93 (j := 0) (by decide) ?_
      obtain ⟨q94, hq94, hf⟩ := bd_some hf
      refine kcVi C (kX0_isAt (l := l) (D := D) (k := k) h2 h4 (.ref h3) (.ref h5) (.int v_nodes) (.int v_meetings) (.int v_letters) v_meetingRows y1 v_clock (v_rules 0) q94 hq94) mt_X0_isAt mw_532 ⟨rfl, rfl, Nat.le_of_ble_eq_true rfl, Nat.le_of_ble_eq_true rfl⟩ hP hD hS 2 rfl rfl rfl [2, 4] rfl rfl [none, none, some 0, none, some 1, none, none, none, none, none, none, none, none, none, none, none, none] rfl rfl (w2 := (wX1_passMinute k h0 h1 h2 h3 h4 h5 h6 h7 h8 h9 h10 h11 h12 h13 h14 h15 h16 z0 v_left v_refusedOne v_clock v_nodes v_meetings v_letters v_rooms v_meetingRows v_letterRows v_rules v_counts v_refused v_tokens v_hops v_since v_notes v_lasts v_deliveredAt v_deliveredHops v_order)) rfl rfl rfl hl.1 (rest := []) (Nat.le_of_ble_eq_true rfl) rfl dX1_passMinute_94 ⟨Nat.zero_le _, Nat.zero_le _⟩ (fun H locs hP hD hS => ?_)
      refine lv_if_eq (tgt := 131) hx hb dX1_passMinute_97 (by decide) (fun hc => ?_) (fun hc => ?_)
      · rw [if_pos hc] at hf
        refine lv_iinc (v := (y1 + (1 : Int32))) (lv' := [(1, .int (y1 + (1 : Int32))), (0, .ref h0)]) hx hb dX1_passMinute_131 hl (k := 1) rfl rfl (by decide) rfl (fun ls hl => ?_)
        refine lv_goto (tgt := 62) hx hb dX1_passMinute_134 (by decide) ?_
        exact ih v_left v_refusedOne v_counts v_refused v_tokens v_hops v_since v_notes v_lasts v_deliveredAt v_deliveredHops v_order (y1 + (1 : Int32)) _ _ _ _ hf hP hD hS (lv_sub hl [1, 0] rfl) hk
      · rw [if_neg hc] at hf
        refine lv_aload_n hx hb dX1_passMinute_100 rfl (lv_at hl 0 rfl) ?_
        refine lv_aload_n hx hb dX1_passMinute_101 rfl (lv_at hl 0 rfl) ?_
        refine kget C inX1 hP 0 rfl rfl 1 (by decide) mw_195 rfl dX1_passMinute_102 ?_
        refine lv_iload_n hx hb dX1_passMinute_105 rfl (lv_at hl 1 rfl) ?_
        refine lv_iconst (v := (1 : Int32)) hx hb dX1_passMinute_106 (by decide) ?_
        obtain ⟨q107, hq107, hf⟩ := bd_some hf
        refine kcVi C (kX0_ofMeeting (l := l) (D := D) (k := k) h2 h4 (.ref h3) (.ref h5) (.int v_nodes) (.int v_meetings) (.int v_letters) v_meetingRows y1 (1 : Int32) q107 hq107) mt_X0_ofMeeting mw_536 ⟨rfl, rfl, Nat.le_of_ble_eq_true rfl, Nat.le_of_ble_eq_true rfl⟩ hP hD hS 2 rfl rfl rfl [2, 4] rfl rfl [none, none, some 0, none, some 1, none, none, none, none, none, none, none, none, none, none, none, none] rfl rfl (w2 := (wX1_passMinute k h0 h1 h2 h3 h4 h5 h6 h7 h8 h9 h10 h11 h12 h13 h14 h15 h16 z0 v_left v_refusedOne v_clock v_nodes v_meetings v_letters v_rooms v_meetingRows v_letterRows v_rules v_counts v_refused v_tokens v_hops v_since v_notes v_lasts v_deliveredAt v_deliveredHops v_order)) rfl rfl rfl hl.1 (rest := [.ref h0]) (Nat.le_of_ble_eq_true rfl) rfl dX1_passMinute_107 ⟨Nat.zero_le _, Nat.zero_le _⟩ (fun H locs hP hD hS => ?_)
        refine lv_aload_n hx hb dX1_passMinute_110 rfl (lv_at hl 0 rfl) ?_
        refine kget C inX1 hP 0 rfl rfl 1 (by decide) mw_195 rfl dX1_passMinute_111 ?_
        refine lv_iload_n hx hb dX1_passMinute_114 rfl (lv_at hl 1 rfl) ?_
        refine lv_iconst (v := (2 : Int32)) hx hb dX1_passMinute_115 (by decide) ?_
        obtain ⟨q116, hq116, hf⟩ := bd_some hf
        refine kcVi C (kX0_ofMeeting (l := l) (D := D) (k := k) h2 h4 (.ref h3) (.ref h5) (.int v_nodes) (.int v_meetings) (.int v_letters) v_meetingRows y1 (2 : Int32) q116 hq116) mt_X0_ofMeeting mw_536 ⟨rfl, rfl, Nat.le_of_ble_eq_true rfl, Nat.le_of_ble_eq_true rfl⟩ hP hD hS 2 rfl rfl rfl [2, 4] rfl rfl [none, none, some 0, none, some 1, none, none, none, none, none, none, none, none, none, none, none, none] rfl rfl (w2 := (wX1_passMinute k h0 h1 h2 h3 h4 h5 h6 h7 h8 h9 h10 h11 h12 h13 h14 h15 h16 z0 v_left v_refusedOne v_clock v_nodes v_meetings v_letters v_rooms v_meetingRows v_letterRows v_rules v_counts v_refused v_tokens v_hops v_since v_notes v_lasts v_deliveredAt v_deliveredHops v_order)) rfl rfl rfl hl.1 (rest := [.int q107, .ref h0]) (Nat.le_of_ble_eq_true rfl) rfl dX1_passMinute_116 ⟨Nat.zero_le _, Nat.zero_le _⟩ (fun H locs hP hD hS => ?_)
        refine lv_aload_n hx hb dX1_passMinute_119 rfl (lv_at hl 0 rfl) ?_
        refine kget C inX1 hP 0 rfl rfl 1 (by decide) mw_195 rfl dX1_passMinute_120 ?_
        refine lv_iload_n hx hb dX1_passMinute_123 rfl (lv_at hl 1 rfl) ?_
        refine lv_iconst (v := (3 : Int32)) hx hb dX1_passMinute_124 (by decide) ?_
        obtain ⟨q125, hq125, hf⟩ := bd_some hf
        refine kcVi C (kX0_ofMeeting (l := l) (D := D) (k := k) h2 h4 (.ref h3) (.ref h5) (.int v_nodes) (.int v_meetings) (.int v_letters) v_meetingRows y1 (3 : Int32) q125 hq125) mt_X0_ofMeeting mw_536 ⟨rfl, rfl, Nat.le_of_ble_eq_true rfl, Nat.le_of_ble_eq_true rfl⟩ hP hD hS 2 rfl rfl rfl [2, 4] rfl rfl [none, none, some 0, none, some 1, none, none, none, none, none, none, none, none, none, none, none, none] rfl rfl (w2 := (wX1_passMinute k h0 h1 h2 h3 h4 h5 h6 h7 h8 h9 h10 h11 h12 h13 h14 h15 h16 z0 v_left v_refusedOne v_clock v_nodes v_meetings v_letters v_rooms v_meetingRows v_letterRows v_rules v_counts v_refused v_tokens v_hops v_since v_notes v_lasts v_deliveredAt v_deliveredHops v_order)) rfl rfl rfl hl.1 (rest := [.int q116, .int q107, .ref h0]) (Nat.le_of_ble_eq_true rfl) rfl dX1_passMinute_125 ⟨Nat.zero_le _, Nat.zero_le _⟩ (fun H locs hP hD hS => ?_)
        obtain ⟨q128, hq128, hf⟩ := bd_some hf
        refine kcVv C (kX1_holdMeeting (l := l) (D := D) (k := k) h0 h1 h2 h3 h5 h6 h7 h8 h9 h10 h11 h12 h13 h14 h15 h16 z0 (.ref h4) (.int v_nodes) (.int v_meetings) v_left v_refusedOne v_clock v_letters v_rooms v_letterRows v_rules v_counts v_refused v_tokens v_hops v_since v_notes v_lasts v_deliveredAt v_deliveredHops v_order q107 q116 q125 q128 hq128) mt_X1_holdMeeting mw_604 ⟨rfl, rfl, Nat.le_of_ble_eq_true rfl, Nat.le_of_ble_eq_true rfl⟩ hP hD hS 0 rfl rfl rfl [0, 1, 2, 3, 5, 6, 7, 8, 9, 10, 11, 12, 13, 14, 15, 16] rfl rfl [some 0, some 1, some 2, some 3, none, some 4, some 5, some 6, some 7, some 8, some 9, some 10, some 11, some 12, some 13, some 14, some 15] rfl rfl (w2 := (wX1_passMinute k h0 h1 h2 h3 h4 h5 h6 h7 h8 h9 h10 h11 h12 h13 h14 h15 h16 z0 q128.1 q128.2.1 v_clock v_nodes v_meetings v_letters v_rooms v_meetingRows v_letterRows v_rules q128.2.2.1 q128.2.2.2.1 q128.2.2.2.2.1 q128.2.2.2.2.2.1 q128.2.2.2.2.2.2.1 q128.2.2.2.2.2.2.2.1 q128.2.2.2.2.2.2.2.2.1 q128.2.2.2.2.2.2.2.2.2.1 q128.2.2.2.2.2.2.2.2.2.2.1 q128.2.2.2.2.2.2.2.2.2.2.2)) rfl rfl rfl hl.1 (rest := []) (Nat.le_of_ble_eq_true rfl) rfl dX1_passMinute_128 ⟨Nat.zero_le _, Nat.zero_le _⟩ (fun H locs hP hD hS => ?_)
        refine lv_iinc (v := (y1 + (1 : Int32))) (lv' := [(1, .int (y1 + (1 : Int32))), (0, .ref h0)]) hx hb dX1_passMinute_131 hl (k := 1) rfl rfl (by decide) rfl (fun ls hl => ?_)
        refine lv_goto (tgt := 62) hx hb dX1_passMinute_134 (by decide) ?_
        exact ih q128.1 q128.2.1 q128.2.2.1 q128.2.2.2.1 q128.2.2.2.2.1 q128.2.2.2.2.2.1 q128.2.2.2.2.2.2.1 q128.2.2.2.2.2.2.2.1 q128.2.2.2.2.2.2.2.2.1 q128.2.2.2.2.2.2.2.2.2.1 q128.2.2.2.2.2.2.2.2.2.2.1 q128.2.2.2.2.2.2.2.2.2.2.2 (y1 + (1 : Int32)) _ _ _ _ hf hP hD hS (lv_sub hl [1, 0] rfl) hk
set_option maxHeartbeats 4000000 in
set_option maxRecDepth 100000 in
theorem kX1_passMinute {l : Launch} {D : va_G} {k : Nat → ClassId} (h0 h1 h2 h3 h4 h5 h6 h7 h8 h9 h10 h11 h12 h13 h14 h15 h16 : Nat) (z0 : Value) (v_left : Int32) (v_refusedOne : Int32) (v_clock : Int32) (v_nodes : Int32) (v_meetings : Int32) (v_letters : Int32) (v_rooms : Nat → Int32) (v_meetingRows : Nat → Int32) (v_letterRows : Nat → Int32) (v_rules : Nat → Int32) (v_counts : Nat → Int32) (v_refused : Nat → Int32) (v_tokens : Nat → Int32) (v_hops : Nat → Int32) (v_since : Nat → Int32) (v_notes : Nat → Int32) (v_lasts : Nat → Int32) (v_deliveredAt : Nat → Int32) (v_deliveredHops : Nat → Int32) (v_order : Nat → Int32) (q : Int32 × Int32 × Int32 × (Nat → Int32) × (Nat → Int32) × (Nat → Int32) × (Nat → Int32) × (Nat → Int32) × (Nat → Int32) × (Nat → Int32) × (Nat → Int32) × (Nat → Int32) × (Nat → Int32)) (hf : fX1_passMinute v_left v_refusedOne v_clock v_nodes v_meetings v_letters v_rooms v_meetingRows v_letterRows v_rules v_counts v_refused v_tokens v_hops v_since v_notes v_lasts v_deliveredAt v_deliveredHops v_order = some q) : KMv l yX1_passMinute cX1_passMinute 2 ({ frames := 6, cells := 0, slots := 0, locals := 148 } : Room) D k [.ref h0] (wX1_passMinute k h0 h1 h2 h3 h4 h5 h6 h7 h8 h9 h10 h11 h12 h13 h14 h15 h16 z0 v_left v_refusedOne v_clock v_nodes v_meetings v_letters v_rooms v_meetingRows v_letterRows v_rules v_counts v_refused v_tokens v_hops v_since v_notes v_lasts v_deliveredAt v_deliveredHops v_order) (wX1_passMinute k h0 h1 h2 h3 h4 h5 h6 h7 h8 h9 h10 h11 h12 h13 h14 h15 h16 z0 q.1 q.2.1 q.2.2.1 v_nodes v_meetings v_letters v_rooms v_meetingRows v_letterRows v_rules q.2.2.2.1 q.2.2.2.2.1 q.2.2.2.2.2.1 q.2.2.2.2.2.2.1 q.2.2.2.2.2.2.2.1 q.2.2.2.2.2.2.2.2.1 q.2.2.2.2.2.2.2.2.2.1 q.2.2.2.2.2.2.2.2.2.2.1 q.2.2.2.2.2.2.2.2.2.2.2.1 q.2.2.2.2.2.2.2.2.2.2.2.2) := by
  refine kent_v (by decide) (Nat.le_of_ble_eq_true rfl) ?_
  intro p e s m below meth c A Q ls C hP hD hS hl hret
  obtain ⟨hx, hb, -⟩ := id C
  have hl : lv_has ls 2 [(0, .ref h0)] := hl
  unfold fX1_passMinute at hf
  generalize ([.ref h0] : List Value).toArray = args at *
  refine lv_aload_n hx hb dX1_passMinute_0 rfl (lv_at hl 0 rfl) ?_
  refine kget C inX1 hP 0 rfl rfl 0 (by decide) mw_194 rfl dX1_passMinute_1 ?_
  refine lv_dup hx hb dX1_passMinute_4 rfl ?_
  refine kget C inX4 hP 1 rfl rfl 11 (by decide) mw_160 rfl dX1_passMinute_5 ?_
  refine lv_iconst (v := (1 : Int32)) hx hb dX1_passMinute_8 (by decide) ?_
  refine lv_iadd hx hb dX1_passMinute_9 ?_
  refine kput C inX4 tyX4_ok nmX4 hP hD hS 1 rfl rfl 11 (by decide) mw_160 rfl rfl rfl (Nat.le_of_ble_eq_true rfl) dX1_passMinute_10 (w2 := (wX1_passMinute k h0 h1 h2 h3 h4 h5 h6 h7 h8 h9 h10 h11 h12 h13 h14 h15 h16 z0 v_left v_refusedOne (v_clock + (1 : Int32)) v_nodes v_meetings v_letters v_rooms v_meetingRows v_letterRows v_rules v_counts v_refused v_tokens v_hops v_since v_notes v_lasts v_deliveredAt v_deliveredHops v_order)) rfl (fun H locs hP hD hS => ?_)
  refine lv_aload_n hx hb dX1_passMinute_13 rfl (lv_at hl 0 rfl) ?_
  obtain ⟨q14, hq14, hf⟩ := bd_some hf
  refine kcVv C (kX1_expire (l := l) (D := D) (k := k) h0 h1 h2 h5 h7 h9 (.ref h16) z0 (.int v_left) (.int v_refusedOne) (.ref h6) (.ref h8) (.ref h10) (.ref h11) (.ref h12) (.ref h13) (.ref h14) (.ref h15) (.ref h3) (.ref h4) (.int v_meetings) (v_clock + (1 : Int32)) v_nodes v_letters v_letterRows v_counts v_tokens q14 hq14) mt_X1_expire mw_576 ⟨rfl, rfl, Nat.le_of_ble_eq_true rfl, Nat.le_of_ble_eq_true rfl⟩ hP hD hS 0 rfl rfl rfl [0, 1, 2, 5, 7, 9] rfl rfl [some 0, some 1, some 2, none, none, some 3, none, some 4, none, some 5, none, none, none, none, none, none, none] rfl rfl (w2 := (wX1_passMinute k h0 h1 h2 h3 h4 h5 h6 h7 h8 h9 h10 h11 h12 h13 h14 h15 h16 z0 v_left v_refusedOne (v_clock + (1 : Int32)) v_nodes v_meetings v_letters v_rooms v_meetingRows v_letterRows v_rules q14.1 v_refused q14.2 v_hops v_since v_notes v_lasts v_deliveredAt v_deliveredHops v_order)) rfl rfl rfl hl.1 (rest := []) (Nat.le_of_ble_eq_true rfl) rfl dX1_passMinute_14 ⟨Nat.zero_le _, Nat.zero_le _⟩ (fun H locs hP hD hS => ?_)
  refine lv_iconst (v := (0 : Int32)) hx hb dX1_passMinute_17 (by decide) ?_
  refine lv_istore_n (lv' := [(1, .int (0 : Int32)), (0, .ref h0)]) hx hb dX1_passMinute_18 rfl hl (by decide) rfl (fun ls hl => ?_)
  obtain ⟨ex19, hv, hf⟩ := bd_some hf
  refine wX1_passMinute_19 C h0 h1 h2 h3 h4 h5 h6 h7 h8 h9 h10 h11 h12 h13 h14 h15 h16 z0 v_left v_refusedOne (v_clock + (1 : Int32)) v_nodes v_meetings v_letters v_rooms v_meetingRows v_letterRows v_rules v_refused v_notes v_lasts v_deliveredAt v_deliveredHops v_order FU q14.1 q14.2 v_hops v_since (0 : Int32) ex19 _ _ _ hv hP hD hS (lv_sub hl [1, 0] rfl) (fun H locs ls hP hD hS hl => ?_)
  refine lv_iconst (v := (0 : Int32)) hx hb dX1_passMinute_60 (by decide) ?_
  refine lv_istore_n (lv' := [(1, .int (0 : Int32)), (0, .ref h0)]) hx hb dX1_passMinute_61 rfl hl (by decide) rfl (fun ls hl => ?_)
  obtain ⟨ex62, hv, hf⟩ := bd_some hf
  refine wX1_passMinute_62 C h0 h1 h2 h3 h4 h5 h6 h7 h8 h9 h10 h11 h12 h13 h14 h15 h16 z0 (v_clock + (1 : Int32)) v_nodes v_meetings v_letters v_rooms v_meetingRows v_letterRows v_rules FU v_left v_refusedOne ex19.1 v_refused ex19.2.1 ex19.2.2.1 ex19.2.2.2 v_notes v_lasts v_deliveredAt v_deliveredHops v_order (0 : Int32) ex62 _ _ _ hv hP hD hS (lv_sub hl [1, 0] rfl) (fun H locs ls hP hD hS hl => ?_)
  obtain rfl := Option.some.inj hf
  exact hret _ _ _ _ dX1_passMinute_137 hP hS
set_option maxHeartbeats 4000000 in
set_option maxRecDepth 100000 in
theorem kX1_copyByOrder {l : Launch} {D : va_G} {k : Nat → ClassId} (h0 h1 h2 h3 h4 h5 h6 : Nat) (z0 z1 z2 z3 z4 z5 z6 z7 z8 z9 z10 z11 z12 z13 z14 z15 : Value) (v_letters : Int32) (v_letterRows : Nat → Int32) (v_tokens : Nat → Int32) (v_hops : Nat → Int32) (v_order : Nat → Int32) (x1 : Int32) (x2 : Int32) (q : Int32 × (Nat → Int32)) (hf : fX1_copyByOrder v_letters v_letterRows v_tokens v_hops v_order x1 x2 = some q) : KMi l yX1_copyByOrder cX1_copyByOrder 4 (some .int) ({ frames := 3, cells := 0, slots := 0, locals := 73 } : Room) D k [.ref h0, .int x1, .int x2] (wX1_copyByOrder k h0 h1 h2 h3 h4 h5 h6 z0 z1 z2 z3 z4 z5 z6 z7 z8 z9 z10 z11 z12 z13 z14 z15 v_letters v_letterRows v_tokens v_hops v_order) q.1 (wX1_copyByOrder k h0 h1 h2 h3 h4 h5 h6 z0 z1 z2 z3 z4 z5 z6 z7 z8 z9 z10 z11 z12 z13 z14 z15 v_letters v_letterRows v_tokens v_hops q.2) := by
  refine kent_i (by decide) (Nat.le_of_ble_eq_true rfl) ?_
  intro p e s m below meth c A Q ls C hP hD hS hl hret
  obtain ⟨hx, hb, -⟩ := id C
  have hl : lv_has ls 4 [(0, .ref h0), (1, .int x1), (2, .int x2)] := hl
  unfold fX1_copyByOrder at hf
  generalize ([.ref h0, .int x1, .int x2] : List Value).toArray = args at *
  refine lv_aload_n hx hb dX1_copyByOrder_0 rfl (lv_at hl 0 rfl) ?_
  refine lv_iload_n hx hb dX1_copyByOrder_1 rfl (lv_at hl 1 rfl) ?_
  refine lv_iconst (v := (-1 : Int32)) hx hb dX1_copyByOrder_2 (by decide) ?_
  obtain ⟨q3, hq3, hf⟩ := bd_some hf
  refine kcVi C (kX1_listCopies (l := l) (D := D) (k := k) h0 h1 h2 h3 h4 h5 h6 z0 z1 z2 z3 z4 z5 z6 z7 z8 z9 z10 z11 z12 z13 z14 z15 v_letters v_letterRows v_tokens v_hops v_order x1 (-1 : Int32) q3 hq3) mt_X1_listCopies mw_490 ⟨rfl, rfl, Nat.le_of_ble_eq_true rfl, Nat.le_of_ble_eq_true rfl⟩ hP hD hS 0 rfl rfl rfl [0, 1, 2, 3, 4, 5, 6] rfl rfl [some 0, some 1, some 2, some 3, some 4, some 5, some 6] rfl rfl (w2 := (wX1_copyByOrder k h0 h1 h2 h3 h4 h5 h6 z0 z1 z2 z3 z4 z5 z6 z7 z8 z9 z10 z11 z12 z13 z14 z15 v_letters v_letterRows v_tokens v_hops q3.2)) rfl rfl rfl hl.1 (rest := []) (Nat.le_of_ble_eq_true rfl) rfl dX1_copyByOrder_3 ⟨Nat.zero_le _, Nat.zero_le _⟩ (fun H locs hP hD hS => ?_)
  refine lv_istore_n (lv' := [(3, .int q3.1), (0, .ref h0), (1, .int x1), (2, .int x2)]) hx hb dX1_copyByOrder_6 rfl hl (by decide) rfl (fun ls hl => ?_)
  refine lv_iload_n hx hb dX1_copyByOrder_7 rfl (lv_at hl 3 rfl) ?_
  refine lv_if_lt (tgt := 25) hx hb dX1_copyByOrder_8 (by decide) (fun hc => ?_) (fun hc => ?_)
  · rw [if_pos hc] at hf
    refine lv_iconst (v := (-1 : Int32)) hx hb dX1_copyByOrder_25 (by decide) ?_
    obtain rfl := Option.some.inj hf
    exact hret _ _ _ _ dX1_copyByOrder_26 hP hS
  · rw [if_neg hc] at hf
    refine lv_iload_n hx hb dX1_copyByOrder_11 rfl (lv_at hl 3 rfl) ?_
    refine lv_iload_n hx hb dX1_copyByOrder_12 rfl (lv_at hl 0 rfl) ?_
    refine lv_icmp_ge (tgt := 25) hx hb dX1_copyByOrder_13 (by decide) (fun hc => ?_) (fun hc => ?_)
    · rw [if_pos hc] at hf
      refine lv_iconst (v := (-1 : Int32)) hx hb dX1_copyByOrder_25 (by decide) ?_
      obtain rfl := Option.some.inj hf
      exact hret _ _ _ _ dX1_copyByOrder_26 hP hS
    · rw [if_neg hc] at hf
      refine lv_aload_n hx hb dX1_copyByOrder_16 rfl (lv_at hl 1 rfl) ?_
      refine kget C inX1 hP 0 rfl rfl 2 (by decide) mw_196 rfl dX1_copyByOrder_17 ?_
      refine lv_iload_n hx hb dX1_copyByOrder_20 rfl (lv_at hl 3 rfl) ?_
      obtain ⟨hin, hf⟩ := gd_some hf
      refine kiald C hP 6 rfl hin dX1_copyByOrder_21 (j := x2.toNatClampNeg) rfl ?_
      refine lv_goto (tgt := 26) hx hb dX1_copyByOrder_22 (by decide) ?_
      obtain rfl := Option.some.inj hf
      exact hret _ _ _ _ dX1_copyByOrder_26 hP hS
set_option maxHeartbeats 4000000 in
set_option maxRecDepth 100000 in
theorem wX1_spreadIn_2 {p : Program} {l : Launch} {e : Env} {s : State} {m : MethodId} {args : Array Value} {below : List Frame} {meth : Method} {c : Code} {A : Nat → Prop} {Q : State → Prop} {D : va_G} {k : Nat → ClassId} (C : Cx p s m args c cX1_spreadIn 6 RX1 A D k) (h0 h1 h2 h3 h4 h5 : Nat) (z0 z1 z2 z3 z4 z5 z6 z7 z8 z9 z10 z11 z12 z13 z14 z15 z16 : Value) (v_meetings : Int32) (v_meetingRows : Nat → Int32) (v_rules : Nat → Int32) (y1 : Int32) : ∀ (f : Nat) (v_reached : Nat → Int32) (y2 : Int32) (ex : ((Nat → Int32))) (H : Heap) (locs : List Loc) (ls : Array Slot), fX1_spreadIn_2 v_meetings v_meetingRows v_rules y1 f v_reached y2 = some ex → va_P D vwCl (wX1_spreadIn k h0 h1 h2 h3 h4 h5 z0 z1 z2 z3 z4 z5 z6 z7 z8 z9 z10 z11 z12 z13 z14 z15 z16 v_meetings v_meetingRows v_rules v_reached) H → va_D A (wX1_spreadIn k h0 h1 h2 h3 h4 h5 z0 z1 z2 z3 z4 z5 z6 z7 z8 z9 z10 z11 z12 z13 z14 z15 z16 v_meetings v_meetingRows v_rules v_reached) → va_S A s.heap H locs → lv_has ls 6 [(0, .ref h0), (1, .int y1), (2, .int y2)] → (∀ (H : Heap) (locs : List Loc) (ls : Array Slot), va_P D vwCl (wX1_spreadIn k h0 h1 h2 h3 h4 h5 z0 z1 z2 z3 z4 z5 z6 z7 z8 z9 z10 z11 z12 z13 z14 z15 z16 v_meetings v_meetingRows v_rules ex) H → va_D A (wX1_spreadIn k h0 h1 h2 h3 h4 h5 z0 z1 z2 z3 z4 z5 z6 z7 z8 z9 z10 z11 z12 z13 z14 z15 z16 v_meetings v_meetingRows v_rules ex) → va_S A s.heap H locs → lv_has ls 6 [] → W p l e ({ frames := 2, cells := 0, slots := 0, locals := 46 } : Room) s m args below meth c H locs 0 0 Q (F0 m 107 ls [])) → W p l e ({ frames := 2, cells := 0, slots := 0, locals := 46 } : Room) s m args below meth c H locs 0 0 Q (F0 m 2 ls []) := by
  obtain ⟨hx, hb, -⟩ := id C
  intro f
  induction f with
  | zero =>
    intro v_reached y2 ex H locs ls hf hP hD hS hl hk
    cases hf
  | succ f ih =>
    intro v_reached y2 ex H locs ls hf hP hD hS hl hk
    rw [fX1_spreadIn_2] at hf
    refine lv_iload_n hx hb dX1_spreadIn_2 rfl (lv_at hl 2 rfl) ?_
    refine lv_aload_n hx hb dX1_spreadIn_3 rfl (lv_at hl 0 rfl) ?_
    refine kget C inX1 hP 0 rfl rfl 1 (by decide) mw_195 rfl dX1_spreadIn_4 ?_
    refine kget C inX0 hP 2 rfl rfl 4 (by decide) mw_64 rfl dX1_spreadIn_7 ?_
    refine lv_icmp_ge (tgt := 107) hx hb dX1_spreadIn_10 (by decide) (fun hc => ?_) (fun hc => ?_)
    · rw [if_pos hc] at hf
      obtain rfl := Option.some.inj hf
      exact hk _ _ _ hP hD hS (lv_sub hl [] rfl)
    · rw [if_neg hc] at hf
      refine lv_aload_n hx hb dX1_spreadIn_13 rfl (lv_at hl 0 rfl) ?_
      refine kget C inX1 hP 0 rfl rfl 1 (by decide) mw_195 rfl dX1_spreadIn_14 ?_
      refine lv_iload_n hx hb dX1_spreadIn_17 rfl (lv_at hl 2 rfl) ?_
      refine lv_iload_n hx hb dX1_spreadIn_18 rfl (lv_at hl 1 rfl) ?_
      refine lv_aload_n hx hb dX1_spreadIn_19 rfl (lv_at hl 0 rfl) ?_
      refine kget C inX1 hP 0 rfl rfl 0 (by decide) mw_194 rfl dX1_spreadIn_20 ?_
      refine kget C inX4 hP 1 rfl rfl 1 (by decide) mw_133 rfl dX1_spreadIn_23 ?_
      refine lv_iconst (v := (0 : Int32)) hx hb dX1_spreadIn_26 (by decide) ?_
      refine kiald C hP 4 rfl (by unfold vp_in; decide) dX1_spreadIn_27 (j := 0) (by decide) ?_
      obtain ⟨q28, hq28, hf⟩ := bd_some hf
      refine kcVi C (kX0_isAt (l := l) (D := D) (k := k) h2 h3 z13 z14 z15 (.int v_meetings) z16 v_meetingRows y2 y1 (v_rules 0) q28 hq28) mt_X0_isAt mw_532 ⟨rfl, rfl, Nat.le_of_ble_eq_true rfl, Nat.le_of_ble_eq_true rfl⟩ hP hD hS 2 rfl rfl rfl [2, 3] rfl rfl [none, none, some 0, some 1, none, none] rfl rfl (w2 := (wX1_spreadIn k h0 h1 h2 h3 h4 h5 z0 z1 z2 z3 z4 z5 z6 z7 z8 z9 z10 z11 z12 z13 z14 z15 z16 v_meetings v_meetingRows v_rules v_reached)) rfl rfl rfl hl.1 (rest := []) (Nat.le_of_ble_eq_true rfl) rfl dX1_spreadIn_28 ⟨Nat.zero_le _, Nat.zero_le _⟩ (fun H locs hP hD hS => ?_)
      refine lv_if_ne (tgt := 37) hx hb dX1_spreadIn_31 (by decide) (fun hc => ?_) (fun hc => ?_)
      · rw [if_neg hc] at hf
        refine lv_aload_n hx hb dX1_spreadIn_37 rfl (lv_at hl 0 rfl) ?_
        refine kget C inX1 hP 0 rfl rfl 1 (by decide) mw_195 rfl dX1_spreadIn_38 ?_
        refine lv_iload_n hx hb dX1_spreadIn_41 rfl (lv_at hl 2 rfl) ?_
        refine lv_iconst (v := (1 : Int32)) hx hb dX1_spreadIn_42 (by decide) ?_
        obtain ⟨q43, hq43, hf⟩ := bd_some hf
        refine kcVi C (kX0_ofMeeting (l := l) (D := D) (k := k) h2 h3 z13 z14 z15 (.int v_meetings) z16 v_meetingRows y2 (1 : Int32) q43 hq43) mt_X0_ofMeeting mw_536 ⟨rfl, rfl, Nat.le_of_ble_eq_true rfl, Nat.le_of_ble_eq_true rfl⟩ hP hD hS 2 rfl rfl rfl [2, 3] rfl rfl [none, none, some 0, some 1, none, none] rfl rfl (w2 := (wX1_spreadIn k h0 h1 h2 h3 h4 h5 z0 z1 z2 z3 z4 z5 z6 z7 z8 z9 z10 z11 z12 z13 z14 z15 z16 v_meetings v_meetingRows v_rules v_reached)) rfl rfl rfl hl.1 (rest := []) (Nat.le_of_ble_eq_true rfl) rfl dX1_spreadIn_43 ⟨Nat.zero_le _, Nat.zero_le _⟩ (fun H locs hP hD hS => ?_)
        refine lv_istore_n (lv' := [(3, .int q43), (0, .ref h0), (1, .int y1), (2, .int y2)]) hx hb dX1_spreadIn_46 rfl hl (by decide) rfl (fun ls hl => ?_)
        refine lv_aload_n hx hb dX1_spreadIn_47 rfl (lv_at hl 1 rfl) ?_
        refine kget C inX1 hP 0 rfl rfl 1 (by decide) mw_195 rfl dX1_spreadIn_48 ?_
        refine lv_iload_n hx hb dX1_spreadIn_51 rfl (lv_at hl 3 rfl) ?_
        refine lv_iconst (v := (2 : Int32)) hx hb dX1_spreadIn_52 (by decide) ?_
        obtain ⟨q53, hq53, hf⟩ := bd_some hf
        refine kcVi C (kX0_ofMeeting (l := l) (D := D) (k := k) h2 h3 z13 z14 z15 (.int v_meetings) z16 v_meetingRows y2 (2 : Int32) q53 hq53) mt_X0_ofMeeting mw_536 ⟨rfl, rfl, Nat.le_of_ble_eq_true rfl, Nat.le_of_ble_eq_true rfl⟩ hP hD hS 2 rfl rfl rfl [2, 3] rfl rfl [none, none, some 0, some 1, none, none] rfl rfl (w2 := (wX1_spreadIn k h0 h1 h2 h3 h4 h5 z0 z1 z2 z3 z4 z5 z6 z7 z8 z9 z10 z11 z12 z13 z14 z15 z16 v_meetings v_meetingRows v_rules v_reached)) rfl rfl rfl hl.1 (rest := []) (Nat.le_of_ble_eq_true rfl) rfl dX1_spreadIn_53 ⟨Nat.zero_le _, Nat.zero_le _⟩ (fun H locs hP hD hS => ?_)
        refine lv_istore (lv' := [(4, .int q53), (3, .int q43), (0, .ref h0), (1, .int y1), (2, .int y2)]) hx hb dX1_spreadIn_56 hl (by decide) rfl (fun ls hl => ?_)
        refine lv_aload_n hx hb dX1_spreadIn_58 rfl (lv_at hl 2 rfl) ?_
        refine kget C inX1 hP 0 rfl rfl 3 (by decide) mw_197 rfl dX1_spreadIn_59 ?_
        refine lv_iload_n hx hb dX1_spreadIn_62 rfl (lv_at hl 1 rfl) ?_
        obtain ⟨hin, hf⟩ := gd_some hf
        refine kzald C hP 5 rfl hin dX1_spreadIn_63 (j := q43.toNatClampNeg) rfl ?_
        obtain ⟨v82, hv82, hf⟩ := bd_some hf
        have hj82 : ∀ (H : Heap) (locs : List Loc) (ls : Array Slot), va_P D vwCl (wX1_spreadIn k h0 h1 h2 h3 h4 h5 z0 z1 z2 z3 z4 z5 z6 z7 z8 z9 z10 z11 z12 z13 z14 z15 z16 v_meetings v_meetingRows v_rules v_reached) H → va_D A (wX1_spreadIn k h0 h1 h2 h3 h4 h5 z0 z1 z2 z3 z4 z5 z6 z7 z8 z9 z10 z11 z12 z13 z14 z15 z16 v_meetings v_meetingRows v_rules v_reached) → va_S A s.heap H locs → lv_has ls 6 [(0, .ref h0), (1, .int y1), (2, .int y2), (3, .int q43), (4, .int q53)] → W p l e ({ frames := 2, cells := 0, slots := 0, locals := 46 } : Room) s m args below meth c H locs 0 0 Q (F0 m 82 ls [.int v82]) := by
          intro H locs ls hP hD hS hl
          refine lv_istore (lv' := [(5, .int v82), (0, .ref h0), (1, .int y1), (2, .int y2), (3, .int q43), (4, .int q53)]) hx hb dX1_spreadIn_82 hl (by decide) rfl (fun ls hl => ?_)
          refine lv_aload_n hx hb dX1_spreadIn_84 rfl (lv_at hl 1 rfl) ?_
          refine kget C inX1 hP 0 rfl rfl 3 (by decide) mw_197 rfl dX1_spreadIn_85 ?_
          refine lv_iload_n hx hb dX1_spreadIn_88 rfl (lv_at hl 4 rfl) ?_
          refine lv_iload hx hb dX1_spreadIn_89 (lv_at hl 0 rfl) ?_
          obtain ⟨hin, hf⟩ := gd_some hf
          obtain ⟨v_reached_91, hn91, hf⟩ := nm_some hf
          refine kzast C hP hD hS 5 rfl hin dX1_spreadIn_91 (j := q43.toNatClampNeg) rfl (g := v_reached_91) hn91 (w2 := (wX1_spreadIn k h0 h1 h2 h3 h4 h5 z0 z1 z2 z3 z4 z5 z6 z7 z8 z9 z10 z11 z12 z13 z14 z15 z16 v_meetings v_meetingRows v_rules v_reached_91)) rfl (fun H locs hP hD hS => ?_)
          refine lv_aload_n hx hb dX1_spreadIn_92 rfl (lv_at hl 1 rfl) ?_
          refine kget C inX1 hP 0 rfl rfl 3 (by decide) mw_197 rfl dX1_spreadIn_93 ?_
          refine lv_iload hx hb dX1_spreadIn_96 (lv_at hl 5 rfl) ?_
          refine lv_iload hx hb dX1_spreadIn_98 (lv_at hl 0 rfl) ?_
          obtain ⟨hin, hf⟩ := gd_some hf
          obtain ⟨v_reached_100, hn100, hf⟩ := nm_some hf
          refine kzast C hP hD hS 5 rfl hin dX1_spreadIn_100 (j := q53.toNatClampNeg) rfl (g := v_reached_100) hn100 (w2 := (wX1_spreadIn k h0 h1 h2 h3 h4 h5 z0 z1 z2 z3 z4 z5 z6 z7 z8 z9 z10 z11 z12 z13 z14 z15 z16 v_meetings v_meetingRows v_rules v_reached_100)) rfl (fun H locs hP hD hS => ?_)
          refine lv_iinc (v := (y2 + (1 : Int32))) (lv' := [(2, .int (y2 + (1 : Int32))), (5, .int v82), (0, .ref h0), (1, .int y1), (3, .int q43), (4, .int q53)]) hx hb dX1_spreadIn_101 hl (k := 3) rfl rfl (by decide) rfl (fun ls hl => ?_)
          refine lv_goto (tgt := 2) hx hb dX1_spreadIn_104 (by decide) ?_
          exact ih v_reached_100 (y2 + (1 : Int32)) _ _ _ _ hf hP hD hS (lv_sub hl [2, 3, 0] rfl) hk
        clear hf
        have hf := hv82
        refine lv_if_ne (tgt := 77) hx hb dX1_spreadIn_64 (by decide) (fun hc => ?_) (fun hc => ?_)
        · rw [if_neg hc] at hf
          refine lv_iconst (v := (1 : Int32)) hx hb dX1_spreadIn_77 (by decide) ?_
          refine lv_goto (tgt := 82) hx hb dX1_spreadIn_78 (by decide) ?_
          obtain rfl := Option.some.inj hf
          exact hj82 _ _ _ hP hD hS (lv_sub hl [2, 3, 4, 1, 0] rfl)
        · rw [if_pos hc] at hf
          refine lv_aload_n hx hb dX1_spreadIn_67 rfl (lv_at hl 2 rfl) ?_
          refine kget C inX1 hP 0 rfl rfl 3 (by decide) mw_197 rfl dX1_spreadIn_68 ?_
          refine lv_iload hx hb dX1_spreadIn_71 (lv_at hl 0 rfl) ?_
          obtain ⟨hin, hf⟩ := gd_some hf
          refine kzald C hP 5 rfl hin dX1_spreadIn_73 (j := q53.toNatClampNeg) rfl ?_
          refine lv_if_eq (tgt := 81) hx hb dX1_spreadIn_74 (by decide) (fun hc => ?_) (fun hc => ?_)
          · rw [if_pos hc] at hf
            refine lv_iconst (v := (0 : Int32)) hx hb dX1_spreadIn_81 (by decide) ?_
            obtain rfl := Option.some.inj hf
            exact hj82 _ _ _ hP hD hS (lv_sub hl [2, 3, 4, 1, 0] rfl)
          · rw [if_neg hc] at hf
            refine lv_iconst (v := (1 : Int32)) hx hb dX1_spreadIn_77 (by decide) ?_
            refine lv_goto (tgt := 82) hx hb dX1_spreadIn_78 (by decide) ?_
            obtain rfl := Option.some.inj hf
            exact hj82 _ _ _ hP hD hS (lv_sub hl [2, 3, 4, 1, 0] rfl)
      · rw [if_pos hc] at hf
        refine lv_goto (tgt := 101) hx hb dX1_spreadIn_34 (by decide) ?_
        refine lv_iinc (v := (y2 + (1 : Int32))) (lv' := [(2, .int (y2 + (1 : Int32))), (0, .ref h0), (1, .int y1)]) hx hb dX1_spreadIn_101 hl (k := 2) rfl rfl (by decide) rfl (fun ls hl => ?_)
        refine lv_goto (tgt := 2) hx hb dX1_spreadIn_104 (by decide) ?_
        exact ih v_reached (y2 + (1 : Int32)) _ _ _ _ hf hP hD hS (lv_sub hl [1, 2, 0] rfl) hk
set_option maxHeartbeats 4000000 in
set_option maxRecDepth 100000 in
theorem kX1_spreadIn {l : Launch} {D : va_G} {k : Nat → ClassId} (h0 h1 h2 h3 h4 h5 : Nat) (z0 z1 z2 z3 z4 z5 z6 z7 z8 z9 z10 z11 z12 z13 z14 z15 z16 : Value) (v_meetings : Int32) (v_meetingRows : Nat → Int32) (v_rules : Nat → Int32) (v_reached : Nat → Int32) (x1 : Int32) (q : (Nat → Int32)) (hf : fX1_spreadIn v_meetings v_meetingRows v_rules v_reached x1 = some q) : KMv l yX1_spreadIn cX1_spreadIn 6 ({ frames := 2, cells := 0, slots := 0, locals := 46 } : Room) D k [.ref h0, .int x1] (wX1_spreadIn k h0 h1 h2 h3 h4 h5 z0 z1 z2 z3 z4 z5 z6 z7 z8 z9 z10 z11 z12 z13 z14 z15 z16 v_meetings v_meetingRows v_rules v_reached) (wX1_spreadIn k h0 h1 h2 h3 h4 h5 z0 z1 z2 z3 z4 z5 z6 z7 z8 z9 z10 z11 z12 z13 z14 z15 z16 v_meetings v_meetingRows v_rules q) := by
  refine kent_v (by decide) (Nat.le_of_ble_eq_true rfl) ?_
  intro p e s m below meth c A Q ls C hP hD hS hl hret
  obtain ⟨hx, hb, -⟩ := id C
  have hl : lv_has ls 6 [(0, .ref h0), (1, .int x1)] := hl
  unfold fX1_spreadIn at hf
  generalize ([.ref h0, .int x1] : List Value).toArray = args at *
  refine lv_iconst (v := (0 : Int32)) hx hb dX1_spreadIn_0 (by decide) ?_
  refine lv_istore_n (lv' := [(2, .int (0 : Int32)), (0, .ref h0), (1, .int x1)]) hx hb dX1_spreadIn_1 rfl hl (by decide) rfl (fun ls hl => ?_)
  obtain ⟨ex2, hv, hf⟩ := bd_some hf
  refine wX1_spreadIn_2 C h0 h1 h2 h3 h4 h5 z0 z1 z2 z3 z4 z5 z6 z7 z8 z9 z10 z11 z12 z13 z14 z15 z16 v_meetings v_meetingRows v_rules x1 FU v_reached (0 : Int32) ex2 _ _ _ hv hP hD hS (lv_sub hl [1, 2, 0] rfl) (fun H locs ls hP hD hS hl => ?_)
  obtain rfl := Option.some.inj hf
  exact hret _ _ _ _ dX1_spreadIn_107 hP hS
set_option maxHeartbeats 4000000 in
set_option maxRecDepth 100000 in
theorem wX1_soonestOf_2 {p : Program} {l : Launch} {e : Env} {s : State} {m : MethodId} {args : Array Value} {below : List Frame} {meth : Method} {c : Code} {A : Nat → Prop} {Q : State → Prop} {D : va_G} {k : Nat → ClassId} (C : Cx p s m args c cX1_soonestOf 5 RX1 A D k) (h0 h1 h2 h3 h4 h5 h6 : Nat) (z0 z1 z2 z3 z4 z5 z6 z7 z8 z9 z10 z11 z12 z13 z14 z15 : Value) (v_meetings : Int32) (v_meetingRows : Nat → Int32) (v_letterRows : Nat → Int32) (v_rules : Nat → Int32) (y1 : Int32) : ∀ (f : Nat) (v_reached : Nat → Int32) (y2 : Int32) (ex : ((Nat → Int32))) (H : Heap) (locs : List Loc) (ls : Array Slot), fX1_soonestOf_2 y1 f v_reached y2 = some ex → va_P D vwCl (wX1_soonestOf k h0 h1 h2 h3 h4 h5 h6 z0 z1 z2 z3 z4 z5 z6 z7 z8 z9 z10 z11 z12 z13 z14 z15 v_meetings v_meetingRows v_letterRows v_rules v_reached) H → va_D A (wX1_soonestOf k h0 h1 h2 h3 h4 h5 h6 z0 z1 z2 z3 z4 z5 z6 z7 z8 z9 z10 z11 z12 z13 z14 z15 v_meetings v_meetingRows v_letterRows v_rules v_reached) → va_S A s.heap H locs → lv_has ls 5 [(0, .ref h0), (1, .int y1), (2, .int y2)] → (∀ (H : Heap) (locs : List Loc) (ls : Array Slot), va_P D vwCl (wX1_soonestOf k h0 h1 h2 h3 h4 h5 h6 z0 z1 z2 z3 z4 z5 z6 z7 z8 z9 z10 z11 z12 z13 z14 z15 v_meetings v_meetingRows v_letterRows v_rules ex) H → va_D A (wX1_soonestOf k h0 h1 h2 h3 h4 h5 h6 z0 z1 z2 z3 z4 z5 z6 z7 z8 z9 z10 z11 z12 z13 z14 z15 v_meetings v_meetingRows v_letterRows v_rules ex) → va_S A s.heap H locs → lv_has ls 5 [(0, .ref h0), (1, .int y1)] → W p l e ({ frames := 3, cells := 0, slots := 0, locals := 71 } : Room) s m args below meth c H locs 0 0 Q (F0 m 21 ls [])) → W p l e ({ frames := 3, cells := 0, slots := 0, locals := 71 } : Room) s m args below meth c H locs 0 0 Q (F0 m 2 ls []) := by
  obtain ⟨hx, hb, -⟩ := id C
  intro f
  induction f with
  | zero =>
    intro v_reached y2 ex H locs ls hf hP hD hS hl hk
    cases hf
  | succ f ih =>
    intro v_reached y2 ex H locs ls hf hP hD hS hl hk
    rw [fX1_soonestOf_2] at hf
    refine lv_iload_n hx hb dX1_soonestOf_2 rfl (lv_at hl 2 rfl) ?_
    refine lv_bipush (v := (8 : Int32)) hx hb dX1_soonestOf_3 (by decide) ?_
    refine lv_icmp_ge (tgt := 21) hx hb dX1_soonestOf_5 (by decide) (fun hc => ?_) (fun hc => ?_)
    · rw [if_pos hc] at hf
      obtain rfl := Option.some.inj hf
      exact hk _ _ _ hP hD hS (lv_sub hl [0, 1] rfl)
    · rw [if_neg hc] at hf
      refine lv_aload_n hx hb dX1_soonestOf_8 rfl (lv_at hl 0 rfl) ?_
      refine kget C inX1 hP 0 rfl rfl 3 (by decide) mw_197 rfl dX1_soonestOf_9 ?_
      refine lv_iload_n hx hb dX1_soonestOf_12 rfl (lv_at hl 2 rfl) ?_
      refine lv_iconst (v := (0 : Int32)) hx hb dX1_soonestOf_13 (by decide) ?_
      obtain ⟨hin, hf⟩ := gd_some hf
      obtain ⟨v_reached_14, hn14, hf⟩ := nm_some hf
      refine kzast C hP hD hS 6 rfl hin dX1_soonestOf_14 (j := y2.toNatClampNeg) rfl (g := v_reached_14) hn14 (w2 := (wX1_soonestOf k h0 h1 h2 h3 h4 h5 h6 z0 z1 z2 z3 z4 z5 z6 z7 z8 z9 z10 z11 z12 z13 z14 z15 v_meetings v_meetingRows v_letterRows v_rules v_reached_14)) rfl (fun H locs hP hD hS => ?_)
      refine lv_iinc (v := (y2 + (1 : Int32))) (lv' := [(2, .int (y2 + (1 : Int32))), (0, .ref h0), (1, .int y1)]) hx hb dX1_soonestOf_15 hl (k := 2) rfl rfl (by decide) rfl (fun ls hl => ?_)
      refine lv_goto (tgt := 2) hx hb dX1_soonestOf_18 (by decide) ?_
      exact ih v_reached_14 (y2 + (1 : Int32)) _ _ _ _ hf hP hD hS (lv_sub hl [1, 2, 0] rfl) hk
set_option maxHeartbeats 4000000 in
set_option maxRecDepth 100000 in
theorem wX1_soonestOf_66 {p : Program} {l : Launch} {e : Env} {s : State} {m : MethodId} {args : Array Value} {below : List Frame} {meth : Method} {c : Code} {A : Nat → Prop} {Q : State → Prop} {D : va_G} {k : Nat → ClassId} (C : Cx p s m args c cX1_soonestOf 5 RX1 A D k) (h0 h1 h2 h3 h4 h5 h6 : Nat) (z0 z1 z2 z3 z4 z5 z6 z7 z8 z9 z10 z11 z12 z13 z14 z15 : Value) (v_meetings : Int32) (v_meetingRows : Nat → Int32) (v_letterRows : Nat → Int32) (v_rules : Nat → Int32) (y2 : Int32) (y3 : Int32) : ∀ (f : Nat) (v_reached : Nat → Int32) (y4 : Int32) (u : (Int32 × (Nat → Int32)) ⊕ ((Nat → Int32))) (H : Heap) (locs : List Loc) (ls : Array Slot), fX1_soonestOf_66 v_meetings v_meetingRows v_rules y2 y3 f v_reached y4 = some u → va_P D vwCl (wX1_soonestOf k h0 h1 h2 h3 h4 h5 h6 z0 z1 z2 z3 z4 z5 z6 z7 z8 z9 z10 z11 z12 z13 z14 z15 v_meetings v_meetingRows v_letterRows v_rules v_reached) H → va_D A (wX1_soonestOf k h0 h1 h2 h3 h4 h5 h6 z0 z1 z2 z3 z4 z5 z6 z7 z8 z9 z10 z11 z12 z13 z14 z15 v_meetings v_meetingRows v_letterRows v_rules v_reached) → va_S A s.heap H locs → lv_has ls 5 [(0, .ref h0), (2, .int y2), (3, .int y3), (4, .int y4)] → (∀ ex, u = .inr ex → ∀ (H : Heap) (locs : List Loc) (ls : Array Slot), va_P D vwCl (wX1_soonestOf k h0 h1 h2 h3 h4 h5 h6 z0 z1 z2 z3 z4 z5 z6 z7 z8 z9 z10 z11 z12 z13 z14 z15 v_meetings v_meetingRows v_letterRows v_rules ex) H → va_D A (wX1_soonestOf k h0 h1 h2 h3 h4 h5 h6 z0 z1 z2 z3 z4 z5 z6 z7 z8 z9 z10 z11 z12 z13 z14 z15 v_meetings v_meetingRows v_letterRows v_rules ex) → va_S A s.heap H locs → lv_has ls 5 [] → W p l e ({ frames := 3, cells := 0, slots := 0, locals := 71 } : Room) s m args below meth c H locs 0 0 Q (F0 m 96 ls [])) → (∀ t, u = .inl t → ∀ (H : Heap) (locs : List Loc) (ls : Array Slot) (pc : Nat), decode cX1_soonestOf pc = .ok (.ireturn, 1) → va_P D vwCl (wX1_soonestOf k h0 h1 h2 h3 h4 h5 h6 z0 z1 z2 z3 z4 z5 z6 z7 z8 z9 z10 z11 z12 z13 z14 z15 v_meetings v_meetingRows v_letterRows v_rules t.2) H → va_S A s.heap H locs → W p l e ({ frames := 3, cells := 0, slots := 0, locals := 71 } : Room) s m args below meth c H locs 0 0 Q (F0 m pc ls [.int t.1])) → W p l e ({ frames := 3, cells := 0, slots := 0, locals := 71 } : Room) s m args below meth c H locs 0 0 Q (F0 m 66 ls []) := by
  obtain ⟨hx, hb, -⟩ := id C
  intro f
  induction f with
  | zero =>
    intro v_reached y4 u H locs ls hf hP hD hS hl hk hr
    cases hf
  | succ f ih =>
    intro v_reached y4 u H locs ls hf hP hD hS hl hk hr
    rw [fX1_soonestOf_66] at hf
    refine lv_iload hx hb dX1_soonestOf_66 (lv_at hl 3 rfl) ?_
    refine lv_iload_n hx hb dX1_soonestOf_68 rfl (lv_at hl 2 rfl) ?_
    refine lv_icmp_ge (tgt := 96) hx hb dX1_soonestOf_69 (by decide) (fun hc => ?_) (fun hc => ?_)
    · rw [if_pos hc] at hf
      obtain rfl := Option.some.inj hf
      exact hk _ rfl _ _ _ hP hD hS (lv_sub hl [] rfl)
    · rw [if_neg hc] at hf
      refine lv_aload_n hx hb dX1_soonestOf_72 rfl (lv_at hl 0 rfl) ?_
      refine lv_iload hx hb dX1_soonestOf_73 (lv_at hl 3 rfl) ?_
      obtain ⟨q75, hq75, hf⟩ := bd_some hf
      refine kcVv C (kX1_spreadIn (l := l) (D := D) (k := k) h0 h1 h2 h3 h5 h6 z0 z1 z2 z3 z4 z5 z6 z7 z8 z9 z10 z11 z12 z13 (.ref h4) z14 z15 v_meetings v_meetingRows v_rules v_reached y4 q75 hq75) mt_X1_spreadIn mw_528 ⟨rfl, rfl, Nat.le_of_ble_eq_true rfl, Nat.le_of_ble_eq_true rfl⟩ hP hD hS 0 rfl rfl rfl [0, 1, 2, 3, 5, 6] rfl rfl [some 0, some 1, some 2, some 3, none, some 4, some 5] rfl rfl (w2 := (wX1_soonestOf k h0 h1 h2 h3 h4 h5 h6 z0 z1 z2 z3 z4 z5 z6 z7 z8 z9 z10 z11 z12 z13 z14 z15 v_meetings v_meetingRows v_letterRows v_rules q75)) rfl rfl rfl hl.1 (rest := []) (Nat.le_of_ble_eq_true rfl) rfl dX1_soonestOf_75 ⟨Nat.zero_le _, Nat.zero_le _⟩ (fun H locs hP hD hS => ?_)
      refine lv_aload_n hx hb dX1_soonestOf_78 rfl (lv_at hl 0 rfl) ?_
      refine kget C inX1 hP 0 rfl rfl 3 (by decide) mw_197 rfl dX1_soonestOf_79 ?_
      refine lv_iload_n hx hb dX1_soonestOf_82 rfl (lv_at hl 1 rfl) ?_
      obtain ⟨hin, hf⟩ := gd_some hf
      refine kzald C hP 6 rfl hin dX1_soonestOf_83 (j := y2.toNatClampNeg) rfl ?_
      refine lv_if_eq (tgt := 90) hx hb dX1_soonestOf_84 (by decide) (fun hc => ?_) (fun hc => ?_)
      · rw [if_pos hc] at hf
        refine lv_iinc (v := (y4 + (1 : Int32))) (lv' := [(4, .int (y4 + (1 : Int32))), (0, .ref h0), (2, .int y2), (3, .int y3)]) hx hb dX1_soonestOf_90 hl (k := 3) rfl rfl (by decide) rfl (fun ls hl => ?_)
        refine lv_goto (tgt := 66) hx hb dX1_soonestOf_93 (by decide) ?_
        exact ih q75 (y4 + (1 : Int32)) _ _ _ _ hf hP hD hS (lv_sub hl [1, 2, 3, 0] rfl) hk hr
      · rw [if_neg hc] at hf
        refine lv_iload hx hb dX1_soonestOf_87 (lv_at hl 3 rfl) ?_
        obtain rfl := Option.some.inj hf
        exact hr _ rfl _ _ _ _ dX1_soonestOf_89 hP hS
set_option maxHeartbeats 4000000 in
set_option maxRecDepth 100000 in
theorem kX1_soonestOf {l : Launch} {D : va_G} {k : Nat → ClassId} (h0 h1 h2 h3 h4 h5 h6 : Nat) (z0 z1 z2 z3 z4 z5 z6 z7 z8 z9 z10 z11 z12 z13 z14 z15 : Value) (v_meetings : Int32) (v_meetingRows : Nat → Int32) (v_letterRows : Nat → Int32) (v_rules : Nat → Int32) (v_reached : Nat → Int32) (x1 : Int32) (q : Int32 × (Nat → Int32)) (hf : fX1_soonestOf v_meetings v_meetingRows v_letterRows v_rules v_reached x1 = some q) : KMi l yX1_soonestOf cX1_soonestOf 5 (some .int) ({ frames := 3, cells := 0, slots := 0, locals := 71 } : Room) D k [.ref h0, .int x1] (wX1_soonestOf k h0 h1 h2 h3 h4 h5 h6 z0 z1 z2 z3 z4 z5 z6 z7 z8 z9 z10 z11 z12 z13 z14 z15 v_meetings v_meetingRows v_letterRows v_rules v_reached) q.1 (wX1_soonestOf k h0 h1 h2 h3 h4 h5 h6 z0 z1 z2 z3 z4 z5 z6 z7 z8 z9 z10 z11 z12 z13 z14 z15 v_meetings v_meetingRows v_letterRows v_rules q.2) := by
  refine kent_i (by decide) (Nat.le_of_ble_eq_true rfl) ?_
  intro p e s m below meth c A Q ls C hP hD hS hl hret
  obtain ⟨hx, hb, -⟩ := id C
  have hl : lv_has ls 5 [(0, .ref h0), (1, .int x1)] := hl
  unfold fX1_soonestOf at hf
  generalize ([.ref h0, .int x1] : List Value).toArray = args at *
  refine lv_iconst (v := (0 : Int32)) hx hb dX1_soonestOf_0 (by decide) ?_
  refine lv_istore_n (lv' := [(2, .int (0 : Int32)), (0, .ref h0), (1, .int x1)]) hx hb dX1_soonestOf_1 rfl hl (by decide) rfl (fun ls hl => ?_)
  obtain ⟨ex2, hv, hf⟩ := bd_some hf
  refine wX1_soonestOf_2 C h0 h1 h2 h3 h4 h5 h6 z0 z1 z2 z3 z4 z5 z6 z7 z8 z9 z10 z11 z12 z13 z14 z15 v_meetings v_meetingRows v_letterRows v_rules x1 FU v_reached (0 : Int32) ex2 _ _ _ hv hP hD hS (lv_sub hl [1, 2, 0] rfl) (fun H locs ls hP hD hS hl => ?_)
  refine lv_aload_n hx hb dX1_soonestOf_21 rfl (lv_at hl 0 rfl) ?_
  refine kget C inX1 hP 0 rfl rfl 3 (by decide) mw_197 rfl dX1_soonestOf_22 ?_
  refine lv_aload_n hx hb dX1_soonestOf_25 rfl (lv_at hl 0 rfl) ?_
  refine kget C inX1 hP 0 rfl rfl 1 (by decide) mw_195 rfl dX1_soonestOf_26 ?_
  refine lv_iload_n hx hb dX1_soonestOf_29 rfl (lv_at hl 1 rfl) ?_
  refine lv_iconst (v := (1 : Int32)) hx hb dX1_soonestOf_30 (by decide) ?_
  obtain ⟨q31, hq31, hf⟩ := bd_some hf
  refine kcVi C (kX0_ofLetter (l := l) (D := D) (k := k) h2 h4 z13 (.ref h3) z14 (.int v_meetings) z15 v_letterRows x1 (1 : Int32) q31 hq31) mt_X0_ofLetter mw_499 ⟨rfl, rfl, Nat.le_of_ble_eq_true rfl, Nat.le_of_ble_eq_true rfl⟩ hP hD hS 2 rfl rfl rfl [2, 4] rfl rfl [none, none, some 0, none, some 1, none, none] rfl rfl (w2 := (wX1_soonestOf k h0 h1 h2 h3 h4 h5 h6 z0 z1 z2 z3 z4 z5 z6 z7 z8 z9 z10 z11 z12 z13 z14 z15 v_meetings v_meetingRows v_letterRows v_rules ex2)) rfl rfl rfl hl.1 (rest := [.ref h6]) (Nat.le_of_ble_eq_true rfl) rfl dX1_soonestOf_31 ⟨Nat.zero_le _, Nat.zero_le _⟩ (fun H locs hP hD hS => ?_)
  refine lv_iconst (v := (1 : Int32)) hx hb dX1_soonestOf_34 (by decide) ?_
  obtain ⟨hin, hf⟩ := gd_some hf
  obtain ⟨v_reached_35, hn35, hf⟩ := nm_some hf
  refine kzast C hP hD hS 6 rfl hin dX1_soonestOf_35 (j := q31.toNatClampNeg) rfl (g := v_reached_35) hn35 (w2 := (wX1_soonestOf k h0 h1 h2 h3 h4 h5 h6 z0 z1 z2 z3 z4 z5 z6 z7 z8 z9 z10 z11 z12 z13 z14 z15 v_meetings v_meetingRows v_letterRows v_rules v_reached_35)) rfl (fun H locs hP hD hS => ?_)
  refine lv_aload_n hx hb dX1_soonestOf_36 rfl (lv_at hl 0 rfl) ?_
  refine kget C inX1 hP 0 rfl rfl 1 (by decide) mw_195 rfl dX1_soonestOf_37 ?_
  refine lv_iload_n hx hb dX1_soonestOf_40 rfl (lv_at hl 1 rfl) ?_
  refine lv_iconst (v := (2 : Int32)) hx hb dX1_soonestOf_41 (by decide) ?_
  obtain ⟨q42, hq42, hf⟩ := bd_some hf
  refine kcVi C (kX0_ofLetter (l := l) (D := D) (k := k) h2 h4 z13 (.ref h3) z14 (.int v_meetings) z15 v_letterRows x1 (2 : Int32) q42 hq42) mt_X0_ofLetter mw_499 ⟨rfl, rfl, Nat.le_of_ble_eq_true rfl, Nat.le_of_ble_eq_true rfl⟩ hP hD hS 2 rfl rfl rfl [2, 4] rfl rfl [none, none, some 0, none, some 1, none, none] rfl rfl (w2 := (wX1_soonestOf k h0 h1 h2 h3 h4 h5 h6 z0 z1 z2 z3 z4 z5 z6 z7 z8 z9 z10 z11 z12 z13 z14 z15 v_meetings v_meetingRows v_letterRows v_rules v_reached_35)) rfl rfl rfl hl.1 (rest := []) (Nat.le_of_ble_eq_true rfl) rfl dX1_soonestOf_42 ⟨Nat.zero_le _, Nat.zero_le _⟩ (fun H locs hP hD hS => ?_)
  refine lv_istore_n (lv' := [(2, .int q42), (0, .ref h0), (1, .int x1)]) hx hb dX1_soonestOf_45 rfl hl (by decide) rfl (fun ls hl => ?_)
  refine lv_aload_n hx hb dX1_soonestOf_46 rfl (lv_at hl 1 rfl) ?_
  refine kget C inX1 hP 0 rfl rfl 1 (by decide) mw_195 rfl dX1_soonestOf_47 ?_
  refine lv_iload_n hx hb dX1_soonestOf_50 rfl (lv_at hl 2 rfl) ?_
  obtain ⟨q51, hq51, hf⟩ := bd_some hf
  refine kcVi C (kX0_endOf (l := l) (D := D) (k := k) h2 h4 z13 (.ref h3) z14 (.int v_meetings) z15 v_letterRows x1 q51 hq51) mt_X0_endOf mw_524 ⟨rfl, rfl, Nat.le_of_ble_eq_true rfl, Nat.le_of_ble_eq_true rfl⟩ hP hD hS 2 rfl rfl rfl [2, 4] rfl rfl [none, none, some 0, none, some 1, none, none] rfl rfl (w2 := (wX1_soonestOf k h0 h1 h2 h3 h4 h5 h6 z0 z1 z2 z3 z4 z5 z6 z7 z8 z9 z10 z11 z12 z13 z14 z15 v_meetings v_meetingRows v_letterRows v_rules v_reached_35)) rfl rfl rfl hl.1 (rest := []) (Nat.le_of_ble_eq_true rfl) rfl dX1_soonestOf_51 ⟨Nat.zero_le _, Nat.zero_le _⟩ (fun H locs hP hD hS => ?_)
  refine lv_istore_n (lv' := [(3, .int q51), (2, .int q42), (0, .ref h0), (1, .int x1)]) hx hb dX1_soonestOf_54 rfl hl (by decide) rfl (fun ls hl => ?_)
  refine lv_aload_n hx hb dX1_soonestOf_55 rfl (lv_at hl 2 rfl) ?_
  refine kget C inX1 hP 0 rfl rfl 1 (by decide) mw_195 rfl dX1_soonestOf_56 ?_
  refine lv_iload_n hx hb dX1_soonestOf_59 rfl (lv_at hl 3 rfl) ?_
  refine lv_iconst (v := (0 : Int32)) hx hb dX1_soonestOf_60 (by decide) ?_
  obtain ⟨q61, hq61, hf⟩ := bd_some hf
  refine kcVi C (kX0_ofLetter (l := l) (D := D) (k := k) h2 h4 z13 (.ref h3) z14 (.int v_meetings) z15 v_letterRows x1 (0 : Int32) q61 hq61) mt_X0_ofLetter mw_499 ⟨rfl, rfl, Nat.le_of_ble_eq_true rfl, Nat.le_of_ble_eq_true rfl⟩ hP hD hS 2 rfl rfl rfl [2, 4] rfl rfl [none, none, some 0, none, some 1, none, none] rfl rfl (w2 := (wX1_soonestOf k h0 h1 h2 h3 h4 h5 h6 z0 z1 z2 z3 z4 z5 z6 z7 z8 z9 z10 z11 z12 z13 z14 z15 v_meetings v_meetingRows v_letterRows v_rules v_reached_35)) rfl rfl rfl hl.1 (rest := []) (Nat.le_of_ble_eq_true rfl) rfl dX1_soonestOf_61 ⟨Nat.zero_le _, Nat.zero_le _⟩ (fun H locs hP hD hS => ?_)
  refine lv_istore (lv' := [(4, .int q61), (3, .int q51), (2, .int q42), (0, .ref h0), (1, .int x1)]) hx hb dX1_soonestOf_64 hl (by decide) rfl (fun ls hl => ?_)
  obtain ⟨u66, hv, hf⟩ := lp_some hf
  refine wX1_soonestOf_66 C h0 h1 h2 h3 h4 h5 h6 z0 z1 z2 z3 z4 z5 z6 z7 z8 z9 z10 z11 z12 z13 z14 z15 v_meetings v_meetingRows v_letterRows v_rules q42 q51 FU v_reached_35 q61 u66 _ _ _ hv hP hD hS (lv_sub hl [3, 2, 1, 0] rfl) (fun ex66 ht H locs ls hP hD hS hl => ?_) (fun t ht H locs ls pc hdg hP hS => ?_)
  · subst ht
    refine lv_bipush (v := (-4 : Int32)) hx hb dX1_soonestOf_96 (by decide) ?_
    obtain rfl := Option.some.inj hf
    exact hret _ _ _ _ dX1_soonestOf_98 hP hS
  · subst ht
    obtain rfl := Option.some.inj hf
    exact hret _ _ _ _ hdg hP hS
