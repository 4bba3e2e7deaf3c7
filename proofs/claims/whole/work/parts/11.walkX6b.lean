set_option maxHeartbeats 4000000 in
set_option maxRecDepth 100000 in
theorem kX6_refuses {l : Launch} {D : va_G} {k : Nat → ClassId} (h0 h1 : Nat) (z0 z1 z2 z3 z4 z5 z6 z7 z8 z9 z10 z11 z12 z13 z14 z15 z16 z17 : Value) (v_isRefused : Int32) (v_page : Nat → Int32) (x1 : Int32) (x2 : Int32) (x3 : Int32) (x4 : Int32) (q : Int32 × (Nat → Int32)) (hf : fX6_refuses v_isRefused v_page x1 x2 x3 x4 = some q) : KMv l yX6_refuses cX6_refuses 5 ({ frames := 4, cells := 0, slots := 0, locals := 90 } : Room) D k [.ref h0, .int x1, .int x2, .int x3, .int x4] (wX6_refuses k h0 h1 z0 z1 z2 z3 z4 z5 z6 z7 z8 z9 z10 z11 z12 z13 z14 z15 z16 z17 v_isRefused v_page) (wX6_refuses k h0 h1 z0 z1 z2 z3 z4 z5 z6 z7 z8 z9 z10 z11 z12 z13 z14 z15 z16 z17 q.1 q.2) := by
  refine kent_v (by decide) (Nat.le_of_ble_eq_true rfl) ?_
  intro p e s m below meth c A Q ls C hP hD hS hl hret
  obtain ⟨hx, hb, -⟩ := id C
  have hl : lv_has ls 5 [(0, .ref h0), (1, .int x1), (2, .int x2), (3, .int x3), (4, .int x4)] := hl
  unfold fX6_refuses at hf
  generalize ([.ref h0, .int x1, .int x2, .int x3, .int x4] : List Value).toArray = args at *
  refine lv_aload_n hx hb dX6_refuses_0 rfl (lv_at hl 0 rfl) ?_
  refine kget C inX6 hP 0 rfl rfl 17 (by decide) mw_704 rfl dX6_refuses_1 ?_
  refine lv_if_ne (tgt := 95) hx hb dX6_refuses_4 (by decide) (fun hc => ?_) (fun hc => ?_)
  · rw [if_neg hc] at hf
    obtain rfl := Option.some.inj hf
    exact hret _ _ _ _ dX6_refuses_95 hP hS
  · rw [if_pos hc] at hf
    refine lv_aload_n hx hb dX6_refuses_7 rfl (lv_at hl 0 rfl) ?_
    refine lv_iconst (v := (1 : Int32)) hx hb dX6_refuses_8 (by decide) ?_
    refine kput C inX6 tyX6_ok nmX6 hP hD hS 0 rfl rfl 17 (by decide) mw_704 rfl rfl rfl (Nat.le_of_ble_eq_true rfl) dX6_refuses_9 (w2 := (wX6_refuses k h0 h1 z0 z1 z2 z3 z4 z5 z6 z7 z8 z9 z10 z11 z12 z13 z14 z15 z16 z17 (1 : Int32) v_page)) rfl (fun H locs hP hD hS => ?_)
    refine lv_aload_n hx hb dX6_refuses_12 rfl (lv_at hl 0 rfl) ?_
    refine kget C inX6 hP 0 rfl rfl 0 (by decide) mw_687 rfl dX6_refuses_13 ?_
    refine lv_bipush (v := (22 : Int32)) hx hb dX6_refuses_16 (by decide) ?_
    refine lv_iconst (v := (1 : Int32)) hx hb dX6_refuses_18 (by decide) ?_
    obtain ⟨v_page_19, hn19, hf⟩ := nm_some hf
    refine kiast C hP hD hS 1 rfl (by unfold vp_in; decide) dX6_refuses_19 (j := 22) (by decide) (g := v_page_19) hn19 (w2 := (wX6_refuses k h0 h1 z0 z1 z2 z3 z4 z5 z6 z7 z8 z9 z10 z11 z12 z13 z14 z15 z16 z17 (1 : Int32) v_page_19)) rfl (fun H locs hP hD hS => ?_)
    refine lv_aload_n hx hb dX6_refuses_20 rfl (lv_at hl 0 rfl) ?_
    refine kget C inX6 hP 0 rfl rfl 0 (by decide) mw_687 rfl dX6_refuses_21 ?_
    refine lv_bipush (v := (16 : Int32)) hx hb dX6_refuses_24 (by decide) ?_
    refine lv_iload hx hb dX6_refuses_26 (lv_at hl 4 rfl) ?_
    obtain ⟨v_page_28, hn28, hf⟩ := nm_some hf
    refine kiast C hP hD hS 1 rfl (by unfold vp_in; decide) dX6_refuses_28 (j := 16) (by decide) (g := v_page_28) hn28 (w2 := (wX6_refuses k h0 h1 z0 z1 z2 z3 z4 z5 z6 z7 z8 z9 z10 z11 z12 z13 z14 z15 z16 z17 (1 : Int32) v_page_28)) rfl (fun H locs hP hD hS => ?_)
    refine lv_aload_n hx hb dX6_refuses_29 rfl (lv_at hl 0 rfl) ?_
    refine kget C inX6 hP 0 rfl rfl 0 (by decide) mw_687 rfl dX6_refuses_30 ?_
    refine lv_bipush (v := (17 : Int32)) hx hb dX6_refuses_33 (by decide) ?_
    refine lv_iload hx hb dX6_refuses_35 (lv_at hl 4 rfl) ?_
    refine lv_iconst (v := (4 : Int32)) hx hb dX6_refuses_37 (by decide) ?_
    obtain ⟨v57, hv57, hf⟩ := bd_some hf
    have hj57 : ∀ (H : Heap) (locs : List Loc) (ls : Array Slot), va_P D vwCl (wX6_refuses k h0 h1 z0 z1 z2 z3 z4 z5 z6 z7 z8 z9 z10 z11 z12 z13 z14 z15 z16 z17 (1 : Int32) v_page_28) H → va_D A (wX6_refuses k h0 h1 z0 z1 z2 z3 z4 z5 z6 z7 z8 z9 z10 z11 z12 z13 z14 z15 z16 z17 (1 : Int32) v_page_28) → va_S A s.heap H locs → lv_has ls 5 [(0, .ref h0), (1, .int x1), (2, .int x2), (3, .int x3)] → W p l e ({ frames := 4, cells := 0, slots := 0, locals := 90 } : Room) s m args below meth c H locs 0 0 Q (F0 m 57 ls [.int v57, .int (17 : Int32), .ref h1]) := by
      intro H locs ls hP hD hS hl
      obtain ⟨v_page_57, hn57, hf⟩ := nm_some hf
      refine kiast C hP hD hS 1 rfl (by unfold vp_in; decide) dX6_refuses_57 (j := 17) (by decide) (g := v_page_57) hn57 (w2 := (wX6_refuses k h0 h1 z0 z1 z2 z3 z4 z5 z6 z7 z8 z9 z10 z11 z12 z13 z14 z15 z16 z17 (1 : Int32) v_page_57)) rfl (fun H locs hP hD hS => ?_)
      refine lv_aload_n hx hb dX6_refuses_58 rfl (lv_at hl 0 rfl) ?_
      refine kget C inX6 hP 0 rfl rfl 0 (by decide) mw_687 rfl dX6_refuses_59 ?_
      refine lv_bipush (v := (18 : Int32)) hx hb dX6_refuses_62 (by decide) ?_
      refine lv_iload_n hx hb dX6_refuses_64 rfl (lv_at hl 3 rfl) ?_
      obtain ⟨v_page_65, hn65, hf⟩ := nm_some hf
      refine kiast C hP hD hS 1 rfl (by unfold vp_in; decide) dX6_refuses_65 (j := 18) (by decide) (g := v_page_65) hn65 (w2 := (wX6_refuses k h0 h1 z0 z1 z2 z3 z4 z5 z6 z7 z8 z9 z10 z11 z12 z13 z14 z15 z16 z17 (1 : Int32) v_page_65)) rfl (fun H locs hP hD hS => ?_)
      refine lv_aload_n hx hb dX6_refuses_66 rfl (lv_at hl 0 rfl) ?_
      refine kget C inX6 hP 0 rfl rfl 0 (by decide) mw_687 rfl dX6_refuses_67 ?_
      refine lv_bipush (v := (19 : Int32)) hx hb dX6_refuses_70 (by decide) ?_
      refine lv_iload_n hx hb dX6_refuses_72 rfl (lv_at hl 1 rfl) ?_
      obtain ⟨v_page_73, hn73, hf⟩ := nm_some hf
      refine kiast C hP hD hS 1 rfl (by unfold vp_in; decide) dX6_refuses_73 (j := 19) (by decide) (g := v_page_73) hn73 (w2 := (wX6_refuses k h0 h1 z0 z1 z2 z3 z4 z5 z6 z7 z8 z9 z10 z11 z12 z13 z14 z15 z16 z17 (1 : Int32) v_page_73)) rfl (fun H locs hP hD hS => ?_)
      refine lv_aload_n hx hb dX6_refuses_74 rfl (lv_at hl 0 rfl) ?_
      refine kget C inX6 hP 0 rfl rfl 0 (by decide) mw_687 rfl dX6_refuses_75 ?_
      refine lv_bipush (v := (20 : Int32)) hx hb dX6_refuses_78 (by decide) ?_
      refine lv_iload_n hx hb dX6_refuses_80 rfl (lv_at hl 2 rfl) ?_
      obtain ⟨v_page_81, hn81, hf⟩ := nm_some hf
      refine kiast C hP hD hS 1 rfl (by unfold vp_in; decide) dX6_refuses_81 (j := 20) (by decide) (g := v_page_81) hn81 (w2 := (wX6_refuses k h0 h1 z0 z1 z2 z3 z4 z5 z6 z7 z8 z9 z10 z11 z12 z13 z14 z15 z16 z17 (1 : Int32) v_page_81)) rfl (fun H locs hP hD hS => ?_)
      refine lv_aload_n hx hb dX6_refuses_82 rfl (lv_at hl 0 rfl) ?_
      refine kget C inX6 hP 0 rfl rfl 0 (by decide) mw_687 rfl dX6_refuses_83 ?_
      refine lv_bipush (v := (21 : Int32)) hx hb dX6_refuses_86 (by decide) ?_
      refine lv_aload_n hx hb dX6_refuses_88 rfl (lv_at hl 0 rfl) ?_
      refine kget C inX6 hP 0 rfl rfl 0 (by decide) mw_687 rfl dX6_refuses_89 ?_
      refine lv_iconst (v := (3 : Int32)) hx hb dX6_refuses_92 (by decide) ?_
      refine kiald C hP 1 rfl (by unfold vp_in; decide) dX6_refuses_93 (j := 3) (by decide) ?_
      obtain ⟨v_page_94, hn94, hf⟩ := nm_some hf
      refine kiast C hP hD hS 1 rfl (by unfold vp_in; decide) dX6_refuses_94 (j := 21) (by decide) (g := v_page_94) hn94 (w2 := (wX6_refuses k h0 h1 z0 z1 z2 z3 z4 z5 z6 z7 z8 z9 z10 z11 z12 z13 z14 z15 z16 z17 (1 : Int32) v_page_94)) rfl (fun H locs hP hD hS => ?_)
      obtain rfl := Option.some.inj hf
      exact hret _ _ _ _ dX6_refuses_95 hP hS
    clear hf
    have hf := hv57
    refine lv_icmp_ne (tgt := 55) hx hb dX6_refuses_38 (by decide) (fun hc => ?_) (fun hc => ?_)
    · rw [if_neg hc] at hf
      refine lv_bipush (v := (-4 : Int32)) hx hb dX6_refuses_55 (by decide) ?_
      obtain rfl := Option.some.inj hf
      exact hj57 _ _ _ hP hD hS (lv_sub hl [0, 1, 2, 3] rfl)
    · rw [if_pos hc] at hf
      refine lv_aload_n hx hb dX6_refuses_41 rfl (lv_at hl 0 rfl) ?_
      refine lv_iload_n hx hb dX6_refuses_42 rfl (lv_at hl 2 rfl) ?_
      refine lv_aload_n hx hb dX6_refuses_43 rfl (lv_at hl 0 rfl) ?_
      refine lv_iload_n hx hb dX6_refuses_44 rfl (lv_at hl 3 rfl) ?_
      refine lv_iconst (v := (3 : Int32)) hx hb dX6_refuses_45 (by decide) ?_
      obtain ⟨q46, hq46, hf⟩ := bd_some hf
      refine kcVi C (kX6_ofLetter (l := l) (D := D) (k := k) h0 h1 z0 z1 z2 z3 z4 z5 z6 z7 z8 z9 z10 z11 z12 z13 z14 z15 (.int (1 : Int32)) z16 z17 v_page_28 x3 (3 : Int32) q46 hq46) mt_X6_ofLetter mw_839 ⟨rfl, rfl, Nat.le_of_ble_eq_true rfl, Nat.le_of_ble_eq_true rfl⟩ hP hD hS 0 rfl rfl rfl [0, 1] rfl rfl [some 0, some 1] rfl rfl (w2 := (wX6_refuses k h0 h1 z0 z1 z2 z3 z4 z5 z6 z7 z8 z9 z10 z11 z12 z13 z14 z15 z16 z17 (1 : Int32) v_page_28)) rfl rfl rfl hl.1 (rest := [.int x2, .ref h0, .int (17 : Int32), .ref h1]) (Nat.le_of_ble_eq_true rfl) rfl dX6_refuses_46 ⟨Nat.zero_le _, Nat.zero_le _⟩ (fun H locs hP hD hS => ?_)
      obtain ⟨q49, hq49, hf⟩ := bd_some hf
      refine kcVi C (kX6_roomless (l := l) (D := D) (k := k) h0 h1 z0 z1 z2 z3 z4 z5 z6 z7 z8 z9 z10 z11 z12 z13 z14 z15 (.int (1 : Int32)) z16 z17 v_page_28 x2 q46 q49 hq49) mt_X6_roomless mw_930 ⟨rfl, rfl, Nat.le_of_ble_eq_true rfl, Nat.le_of_ble_eq_true rfl⟩ hP hD hS 0 rfl rfl rfl [0, 1] rfl rfl [some 0, some 1] rfl rfl (w2 := (wX6_refuses k h0 h1 z0 z1 z2 z3 z4 z5 z6 z7 z8 z9 z10 z11 z12 z13 z14 z15 z16 z17 (1 : Int32) v_page_28)) rfl rfl rfl hl.1 (rest := [.int (17 : Int32), .ref h1]) (Nat.le_of_ble_eq_true rfl) rfl dX6_refuses_49 ⟨Nat.zero_le _, Nat.zero_le _⟩ (fun H locs hP hD hS => ?_)
      refine lv_goto (tgt := 57) hx hb dX6_refuses_52 (by decide) ?_
      obtain rfl := Option.some.inj hf
      exact hj57 _ _ _ hP hD hS (lv_sub hl [0, 1, 2, 3] rfl)
set_option maxHeartbeats 4000000 in
set_option maxRecDepth 100000 in
theorem wX6_handsAll_2 {p : Program} {l : Launch} {e : Env} {s : State} {m : MethodId} {args : Array Value} {below : List Frame} {meth : Method} {c : Code} {A : Nat → Prop} {Q : State → Prop} {D : va_G} {k : Nat → ClassId} (C : Cx p s m args c cX6_handsAll 5 RX6 A D k) (h0 h1 h2 : Nat) (z0 z1 z2 z3 z4 z5 z6 z7 z8 z9 z10 z11 z12 z13 z14 z15 : Value) (v_left : Int32) (v_isRefused : Int32) (v_page : Nat → Int32) (y1 : Int32) (y2 : Int32) : ∀ (f : Nat) (v_isLeft : Nat → Int32) (y3 : Int32) (ex : ((Nat → Int32))) (H : Heap) (locs : List Loc) (ls : Array Slot), fX6_handsAll_2 v_page y1 y2 f v_isLeft y3 = some ex → va_P D vwCl (wX6_handsAll k h0 h1 h2 z0 z1 z2 z3 z4 z5 z6 z7 z8 z9 z10 z11 z12 z13 z14 z15 v_left v_isRefused v_page v_isLeft) H → va_D A (wX6_handsAll k h0 h1 h2 z0 z1 z2 z3 z4 z5 z6 z7 z8 z9 z10 z11 z12 z13 z14 z15 v_left v_isRefused v_page v_isLeft) → va_S A s.heap H locs → lv_has ls 5 [(0, .ref h0), (1, .int y1), (2, .int y2), (3, .int y3)] → (∀ (H : Heap) (locs : List Loc) (ls : Array Slot), va_P D vwCl (wX6_handsAll k h0 h1 h2 z0 z1 z2 z3 z4 z5 z6 z7 z8 z9 z10 z11 z12 z13 z14 z15 v_left v_isRefused v_page ex) H → va_D A (wX6_handsAll k h0 h1 h2 z0 z1 z2 z3 z4 z5 z6 z7 z8 z9 z10 z11 z12 z13 z14 z15 v_left v_isRefused v_page ex) → va_S A s.heap H locs → lv_has ls 5 [(0, .ref h0), (1, .int y1), (2, .int y2)] → W p l e ({ frames := 5, cells := 0, slots := 0, locals := 117 } : Room) s m args below meth c H locs 0 0 Q (F0 m 44 ls [])) → W p l e ({ frames := 5, cells := 0, slots := 0, locals := 117 } : Room) s m args below meth c H locs 0 0 Q (F0 m 2 ls []) := by
  obtain ⟨hx, hb, -⟩ := id C
  intro f
  induction f with
  | zero =>
    intro v_isLeft y3 ex H locs ls hf hP hD hS hl hk
    cases hf
  | succ f ih =>
    intro v_isLeft y3 ex H locs ls hf hP hD hS hl hk
    rw [fX6_handsAll_2] at hf
    refine lv_iload_n hx hb dX6_handsAll_2 rfl (lv_at hl 3 rfl) ?_
    refine lv_bipush (v := (16 : Int32)) hx hb dX6_handsAll_3 (by decide) ?_
    refine lv_icmp_ge (tgt := 44) hx hb dX6_handsAll_5 (by decide) (fun hc => ?_) (fun hc => ?_)
    · rw [if_pos hc] at hf
      obtain rfl := Option.some.inj hf
      exact hk _ _ _ hP hD hS (lv_sub hl [0, 1, 2] rfl)
    · rw [if_neg hc] at hf
      refine lv_aload_n hx hb dX6_handsAll_8 rfl (lv_at hl 0 rfl) ?_
      refine kget C inX6 hP 0 rfl rfl 15 (by decide) mw_702 rfl dX6_handsAll_9 ?_
      refine lv_iload_n hx hb dX6_handsAll_12 rfl (lv_at hl 3 rfl) ?_
      refine lv_iload_n hx hb dX6_handsAll_13 rfl (lv_at hl 3 rfl) ?_
      refine lv_aload_n hx hb dX6_handsAll_14 rfl (lv_at hl 0 rfl) ?_
      refine kget C inX6 hP 0 rfl rfl 0 (by decide) mw_687 rfl dX6_handsAll_15 ?_
      refine lv_iconst (v := (2 : Int32)) hx hb dX6_handsAll_18 (by decide) ?_
      refine kiald C hP 1 rfl (by unfold vp_in; decide) dX6_handsAll_19 (j := 2) (by decide) ?_
      refine lv_icmp_ge (tgt := 36) hx hb dX6_handsAll_20 (by decide) (fun hc => ?_) (fun hc => ?_)
      · rw [if_pos hc] at hf
        refine lv_iconst (v := (0 : Int32)) hx hb dX6_handsAll_36 (by decide) ?_
        obtain ⟨hin, hf⟩ := gd_some hf
        obtain ⟨v_isLeft_37, hn37, hf⟩ := nm_some hf
        refine kzast C hP hD hS 2 rfl hin dX6_handsAll_37 (j := y3.toNatClampNeg) rfl (g := v_isLeft_37) hn37 (w2 := (wX6_handsAll k h0 h1 h2 z0 z1 z2 z3 z4 z5 z6 z7 z8 z9 z10 z11 z12 z13 z14 z15 v_left v_isRefused v_page v_isLeft_37)) rfl (fun H locs hP hD hS => ?_)
        refine lv_iinc (v := (y3 + (1 : Int32))) (lv' := [(3, .int (y3 + (1 : Int32))), (0, .ref h0), (1, .int y1), (2, .int y2)]) hx hb dX6_handsAll_38 hl (k := 3) rfl rfl (by decide) rfl (fun ls hl => ?_)
        refine lv_goto (tgt := 2) hx hb dX6_handsAll_41 (by decide) ?_
        exact ih v_isLeft_37 (y3 + (1 : Int32)) _ _ _ _ hf hP hD hS (lv_sub hl [1, 2, 3, 0] rfl) hk
      · rw [if_neg hc] at hf
        refine lv_aload_n hx hb dX6_handsAll_23 rfl (lv_at hl 0 rfl) ?_
        refine lv_iload_n hx hb dX6_handsAll_24 rfl (lv_at hl 1 rfl) ?_
        refine lv_iload_n hx hb dX6_handsAll_25 rfl (lv_at hl 3 rfl) ?_
        obtain ⟨q26, hq26, hf⟩ := bd_some hf
        refine kcVi C (kX6_hasCopy (l := l) (D := D) (k := k) h0 h1 z0 z1 z2 z3 z4 z5 z6 z7 z8 z9 z10 z11 z12 z13 (.ref h2) (.int v_left) (.int v_isRefused) z14 z15 v_page y1 y3 q26 hq26) mt_X6_hasCopy mw_819 ⟨rfl, rfl, Nat.le_of_ble_eq_true rfl, Nat.le_of_ble_eq_true rfl⟩ hP hD hS 0 rfl rfl rfl [0, 1] rfl rfl [some 0, some 1, none] rfl rfl (w2 := (wX6_handsAll k h0 h1 h2 z0 z1 z2 z3 z4 z5 z6 z7 z8 z9 z10 z11 z12 z13 z14 z15 v_left v_isRefused v_page v_isLeft)) rfl rfl rfl hl.1 (rest := [.int y3, .ref h2]) (Nat.le_of_ble_eq_true rfl) rfl dX6_handsAll_26 ⟨Nat.zero_le _, Nat.zero_le _⟩ (fun H locs hP hD hS => ?_)
        refine lv_if_eq (tgt := 36) hx hb dX6_handsAll_29 (by decide) (fun hc => ?_) (fun hc => ?_)
        · rw [if_pos hc] at hf
          refine lv_iconst (v := (0 : Int32)) hx hb dX6_handsAll_36 (by decide) ?_
          obtain ⟨hin, hf⟩ := gd_some hf
          obtain ⟨v_isLeft_37, hn37, hf⟩ := nm_some hf
          refine kzast C hP hD hS 2 rfl hin dX6_handsAll_37 (j := y3.toNatClampNeg) rfl (g := v_isLeft_37) hn37 (w2 := (wX6_handsAll k h0 h1 h2 z0 z1 z2 z3 z4 z5 z6 z7 z8 z9 z10 z11 z12 z13 z14 z15 v_left v_isRefused v_page v_isLeft_37)) rfl (fun H locs hP hD hS => ?_)
          refine lv_iinc (v := (y3 + (1 : Int32))) (lv' := [(3, .int (y3 + (1 : Int32))), (0, .ref h0), (1, .int y1), (2, .int y2)]) hx hb dX6_handsAll_38 hl (k := 3) rfl rfl (by decide) rfl (fun ls hl => ?_)
          refine lv_goto (tgt := 2) hx hb dX6_handsAll_41 (by decide) ?_
          exact ih v_isLeft_37 (y3 + (1 : Int32)) _ _ _ _ hf hP hD hS (lv_sub hl [1, 2, 3, 0] rfl) hk
        · rw [if_neg hc] at hf
          refine lv_iconst (v := (1 : Int32)) hx hb dX6_handsAll_32 (by decide) ?_
          refine lv_goto (tgt := 37) hx hb dX6_handsAll_33 (by decide) ?_
          obtain ⟨hin, hf⟩ := gd_some hf
          obtain ⟨v_isLeft_37, hn37, hf⟩ := nm_some hf
          refine kzast C hP hD hS 2 rfl hin dX6_handsAll_37 (j := y3.toNatClampNeg) rfl (g := v_isLeft_37) hn37 (w2 := (wX6_handsAll k h0 h1 h2 z0 z1 z2 z3 z4 z5 z6 z7 z8 z9 z10 z11 z12 z13 z14 z15 v_left v_isRefused v_page v_isLeft_37)) rfl (fun H locs hP hD hS => ?_)
          refine lv_iinc (v := (y3 + (1 : Int32))) (lv' := [(3, .int (y3 + (1 : Int32))), (0, .ref h0), (1, .int y1), (2, .int y2)]) hx hb dX6_handsAll_38 hl (k := 3) rfl rfl (by decide) rfl (fun ls hl => ?_)
          refine lv_goto (tgt := 2) hx hb dX6_handsAll_41 (by decide) ?_
          exact ih v_isLeft_37 (y3 + (1 : Int32)) _ _ _ _ hf hP hD hS (lv_sub hl [1, 2, 3, 0] rfl) hk
set_option maxHeartbeats 4000000 in
set_option maxRecDepth 100000 in
theorem wX6_handsAll_51 {p : Program} {l : Launch} {e : Env} {s : State} {m : MethodId} {args : Array Value} {below : List Frame} {meth : Method} {c : Code} {A : Nat → Prop} {Q : State → Prop} {D : va_G} {k : Nat → ClassId} (C : Cx p s m args c cX6_handsAll 5 RX6 A D k) (h0 h1 h2 : Nat) (z0 z1 z2 z3 z4 z5 z6 z7 z8 z9 z10 z11 z12 z13 z14 z15 : Value) (y1 : Int32) (y2 : Int32) : ∀ (f : Nat) (v_left : Int32) (v_isRefused : Int32) (v_page : Nat → Int32) (v_isLeft : Nat → Int32) (y3 : Int32) (ex : (Int32 × Int32 × (Nat → Int32) × (Nat → Int32))) (H : Heap) (locs : List Loc) (ls : Array Slot), fX6_handsAll_51 y1 y2 f v_left v_isRefused v_page v_isLeft y3 = some ex → va_P D vwCl (wX6_handsAll k h0 h1 h2 z0 z1 z2 z3 z4 z5 z6 z7 z8 z9 z10 z11 z12 z13 z14 z15 v_left v_isRefused v_page v_isLeft) H → va_D A (wX6_handsAll k h0 h1 h2 z0 z1 z2 z3 z4 z5 z6 z7 z8 z9 z10 z11 z12 z13 z14 z15 v_left v_isRefused v_page v_isLeft) → va_S A s.heap H locs → lv_has ls 5 [(0, .ref h0), (1, .int y1), (2, .int y2), (3, .int y3)] → (∀ (H : Heap) (locs : List Loc) (ls : Array Slot), va_P D vwCl (wX6_handsAll k h0 h1 h2 z0 z1 z2 z3 z4 z5 z6 z7 z8 z9 z10 z11 z12 z13 z14 z15 ex.1 ex.2.1 ex.2.2.1 ex.2.2.2) H → va_D A (wX6_handsAll k h0 h1 h2 z0 z1 z2 z3 z4 z5 z6 z7 z8 z9 z10 z11 z12 z13 z14 z15 ex.1 ex.2.1 ex.2.2.1 ex.2.2.2) → va_S A s.heap H locs → lv_has ls 5 [] → W p l e ({ frames := 5, cells := 0, slots := 0, locals := 117 } : Room) s m args below meth c H locs 0 0 Q (F0 m 126 ls [])) → W p l e ({ frames := 5, cells := 0, slots := 0, locals := 117 } : Room) s m args below meth c H locs 0 0 Q (F0 m 51 ls []) := by
  obtain ⟨hx, hb, -⟩ := id C
  intro f
  induction f with
  | zero =>
    intro v_left v_isRefused v_page v_isLeft y3 ex H locs ls hf hP hD hS hl hk
    cases hf
  | succ f ih =>
    intro v_left v_isRefused v_page v_isLeft y3 ex H locs ls hf hP hD hS hl hk
    rw [fX6_handsAll_51] at hf
    refine lv_iload_n hx hb dX6_handsAll_51 rfl (lv_at hl 3 rfl) ?_
    refine lv_bipush (v := (-4 : Int32)) hx hb dX6_handsAll_52 (by decide) ?_
    refine lv_icmp_eq (tgt := 126) hx hb dX6_handsAll_54 (by decide) (fun hc => ?_) (fun hc => ?_)
    · rw [if_pos hc] at hf
      obtain rfl := Option.some.inj hf
      exact hk _ _ _ hP hD hS (lv_sub hl [] rfl)
    · rw [if_neg hc] at hf
      refine lv_aload_n hx hb dX6_handsAll_57 rfl (lv_at hl 0 rfl) ?_
      refine lv_iload_n hx hb dX6_handsAll_58 rfl (lv_at hl 1 rfl) ?_
      refine lv_iload_n hx hb dX6_handsAll_59 rfl (lv_at hl 2 rfl) ?_
      refine lv_iload_n hx hb dX6_handsAll_60 rfl (lv_at hl 3 rfl) ?_
      refine lv_aload_n hx hb dX6_handsAll_61 rfl (lv_at hl 0 rfl) ?_
      refine kget C inX6 hP 0 rfl rfl 16 (by decide) mw_703 rfl dX6_handsAll_62 ?_
      obtain ⟨q65, hq65, hf⟩ := bd_some hf
      refine kcVi C (kX6_reason (l := l) (D := D) (k := k) h0 h1 z0 z1 z2 z3 z4 z5 z6 z7 z8 z9 z10 z11 z12 z13 (.ref h2) (.int v_left) (.int v_isRefused) z14 z15 v_page y1 y2 y3 v_left q65 hq65) mt_X6_reason mw_922 ⟨rfl, rfl, Nat.le_of_ble_eq_true rfl, Nat.le_of_ble_eq_true rfl⟩ hP hD hS 0 rfl rfl rfl [0, 1] rfl rfl [some 0, some 1, none] rfl rfl (w2 := (wX6_handsAll k h0 h1 h2 z0 z1 z2 z3 z4 z5 z6 z7 z8 z9 z10 z11 z12 z13 z14 z15 v_left v_isRefused v_page v_isLeft)) rfl rfl rfl hl.1 (rest := []) (Nat.le_of_ble_eq_true rfl) rfl dX6_handsAll_65 ⟨Nat.zero_le _, Nat.zero_le _⟩ (fun H locs hP hD hS => ?_)
      refine lv_istore (lv' := [(4, .int q65), (0, .ref h0), (1, .int y1), (2, .int y2), (3, .int y3)]) hx hb dX6_handsAll_68 hl (by decide) rfl (fun ls hl => ?_)
      refine lv_iload hx hb dX6_handsAll_70 (lv_at hl 0 rfl) ?_
      obtain ⟨v109, hv109, hf⟩ := bd_some hf
      have hj109 : ∀ (H : Heap) (locs : List Loc) (ls : Array Slot), va_P D vwCl (wX6_handsAll k h0 h1 h2 z0 z1 z2 z3 z4 z5 z6 z7 z8 z9 z10 z11 z12 z13 z14 z15 v109.1 v109.2.1 v109.2.2 v_isLeft) H → va_D A (wX6_handsAll k h0 h1 h2 z0 z1 z2 z3 z4 z5 z6 z7 z8 z9 z10 z11 z12 z13 z14 z15 v109.1 v109.2.1 v109.2.2 v_isLeft) → va_S A s.heap H locs → lv_has ls 5 [(0, .ref h0), (1, .int y1), (2, .int y2), (3, .int y3)] → W p l e ({ frames := 5, cells := 0, slots := 0, locals := 117 } : Room) s m args below meth c H locs 0 0 Q (F0 m 109 ls []) := by
        intro H locs ls hP hD hS hl
        refine lv_aload_n hx hb dX6_handsAll_109 rfl (lv_at hl 0 rfl) ?_
        refine kget C inX6 hP 0 rfl rfl 15 (by decide) mw_702 rfl dX6_handsAll_110 ?_
        refine lv_iload_n hx hb dX6_handsAll_113 rfl (lv_at hl 3 rfl) ?_
        refine lv_iconst (v := (0 : Int32)) hx hb dX6_handsAll_114 (by decide) ?_
        obtain ⟨hin, hf⟩ := gd_some hf
        obtain ⟨v_isLeft_115, hn115, hf⟩ := nm_some hf
        refine kzast C hP hD hS 2 rfl hin dX6_handsAll_115 (j := y3.toNatClampNeg) rfl (g := v_isLeft_115) hn115 (w2 := (wX6_handsAll k h0 h1 h2 z0 z1 z2 z3 z4 z5 z6 z7 z8 z9 z10 z11 z12 z13 z14 z15 v109.1 v109.2.1 v109.2.2 v_isLeft_115)) rfl (fun H locs hP hD hS => ?_)
        refine lv_aload_n hx hb dX6_handsAll_116 rfl (lv_at hl 0 rfl) ?_
        refine lv_iload_n hx hb dX6_handsAll_117 rfl (lv_at hl 1 rfl) ?_
        refine lv_iload_n hx hb dX6_handsAll_118 rfl (lv_at hl 2 rfl) ?_
        obtain ⟨q119, hq119, hf⟩ := bd_some hf
        refine kcVi C (kX6_nextOf (l := l) (D := D) (k := k) h0 h1 h2 z0 z1 z2 z3 z4 z5 z6 z7 z8 z9 z10 z11 z12 z13 (.int v109.1) (.int v109.2.1) z14 z15 v109.2.2 v_isLeft_115 y1 y2 q119 hq119) mt_X6_nextOf mw_992 ⟨rfl, rfl, Nat.le_of_ble_eq_true rfl, Nat.le_of_ble_eq_true rfl⟩ hP hD hS 0 rfl rfl rfl [0, 1, 2] rfl rfl [some 0, some 1, some 2] rfl rfl (w2 := (wX6_handsAll k h0 h1 h2 z0 z1 z2 z3 z4 z5 z6 z7 z8 z9 z10 z11 z12 z13 z14 z15 v109.1 v109.2.1 v109.2.2 v_isLeft_115)) rfl rfl rfl hl.1 (rest := []) (Nat.le_of_ble_eq_true rfl) rfl dX6_handsAll_119 ⟨Nat.zero_le _, Nat.zero_le _⟩ (fun H locs hP hD hS => ?_)
        refine lv_istore_n (lv' := [(3, .int q119), (0, .ref h0), (1, .int y1), (2, .int y2)]) hx hb dX6_handsAll_122 rfl hl (by decide) rfl (fun ls hl => ?_)
        refine lv_goto (tgt := 51) hx hb dX6_handsAll_123 (by decide) ?_
        exact ih v109.1 v109.2.1 v109.2.2 v_isLeft_115 q119 _ _ _ _ hf hP hD hS (lv_sub hl [1, 2, 3, 0] rfl) hk
      clear hf
      have hf := hv109
      refine lv_if_ne (tgt := 100) hx hb dX6_handsAll_72 (by decide) (fun hc => ?_) (fun hc => ?_)
      · rw [if_neg hc] at hf
        refine lv_aload_n hx hb dX6_handsAll_100 rfl (lv_at hl 1 rfl) ?_
        refine lv_iload_n hx hb dX6_handsAll_101 rfl (lv_at hl 2 rfl) ?_
        refine lv_iload_n hx hb dX6_handsAll_102 rfl (lv_at hl 3 rfl) ?_
        refine lv_iload_n hx hb dX6_handsAll_103 rfl (lv_at hl 4 rfl) ?_
        refine lv_iload hx hb dX6_handsAll_104 (lv_at hl 0 rfl) ?_
        obtain ⟨q106, hq106, hf⟩ := bd_some hf
        refine kcVv C (kX6_refuses (l := l) (D := D) (k := k) h0 h1 z0 z1 z2 z3 z4 z5 z6 z7 z8 z9 z10 z11 z12 z13 (.ref h2) (.int v_left) z14 z15 v_isRefused v_page y1 y2 y3 q65 q106 hq106) mt_X6_refuses mw_1000 ⟨rfl, rfl, Nat.le_of_ble_eq_true rfl, Nat.le_of_ble_eq_true rfl⟩ hP hD hS 0 rfl rfl rfl [0, 1] rfl rfl [some 0, some 1, none] rfl rfl (w2 := (wX6_handsAll k h0 h1 h2 z0 z1 z2 z3 z4 z5 z6 z7 z8 z9 z10 z11 z12 z13 z14 z15 v_left q106.1 q106.2 v_isLeft)) rfl rfl rfl hl.1 (rest := []) (Nat.le_of_ble_eq_true rfl) rfl dX6_handsAll_106 ⟨Nat.zero_le _, Nat.zero_le _⟩ (fun H locs hP hD hS => ?_)
        obtain rfl := Option.some.inj hf
        exact hj109 _ _ _ hP hD hS (lv_sub hl [1, 2, 3, 4] rfl)
      · rw [if_pos hc] at hf
        refine lv_aload_n hx hb dX6_handsAll_75 rfl (lv_at hl 1 rfl) ?_
        refine lv_dup hx hb dX6_handsAll_76 rfl ?_
        refine kget C inX6 hP 0 rfl rfl 16 (by decide) mw_703 rfl dX6_handsAll_77 ?_
        refine lv_aload_n hx hb dX6_handsAll_80 rfl (lv_at hl 1 rfl) ?_
        refine lv_iload_n hx hb dX6_handsAll_81 rfl (lv_at hl 4 rfl) ?_
        refine lv_iconst (v := (3 : Int32)) hx hb dX6_handsAll_82 (by decide) ?_
        obtain ⟨q83, hq83, hf⟩ := bd_some hf
        refine kcVi C (kX6_ofLetter (l := l) (D := D) (k := k) h0 h1 z0 z1 z2 z3 z4 z5 z6 z7 z8 z9 z10 z11 z12 z13 (.ref h2) (.int v_left) (.int v_isRefused) z14 z15 v_page y3 (3 : Int32) q83 hq83) mt_X6_ofLetter mw_839 ⟨rfl, rfl, Nat.le_of_ble_eq_true rfl, Nat.le_of_ble_eq_true rfl⟩ hP hD hS 0 rfl rfl rfl [0, 1] rfl rfl [some 0, some 1, none] rfl rfl (w2 := (wX6_handsAll k h0 h1 h2 z0 z1 z2 z3 z4 z5 z6 z7 z8 z9 z10 z11 z12 z13 z14 z15 v_left v_isRefused v_page v_isLeft)) rfl rfl rfl hl.1 (rest := [.int v_left, .ref h0]) (Nat.le_of_ble_eq_true rfl) rfl dX6_handsAll_83 ⟨Nat.zero_le _, Nat.zero_le _⟩ (fun H locs hP hD hS => ?_)
        refine lv_isub hx hb dX6_handsAll_86 ?_
        refine kput C inX6 tyX6_ok nmX6 hP hD hS 0 rfl rfl 16 (by decide) mw_703 rfl rfl rfl (Nat.le_of_ble_eq_true rfl) dX6_handsAll_87 (w2 := (wX6_handsAll k h0 h1 h2 z0 z1 z2 z3 z4 z5 z6 z7 z8 z9 z10 z11 z12 z13 z14 z15 (v_left - q83) v_isRefused v_page v_isLeft)) rfl (fun H locs hP hD hS => ?_)
        refine lv_aload_n hx hb dX6_handsAll_90 rfl (lv_at hl 1 rfl) ?_
        refine lv_iload_n hx hb dX6_handsAll_91 rfl (lv_at hl 2 rfl) ?_
        refine lv_iload_n hx hb dX6_handsAll_92 rfl (lv_at hl 3 rfl) ?_
        refine lv_iload_n hx hb dX6_handsAll_93 rfl (lv_at hl 4 rfl) ?_
        obtain ⟨q94, hq94, hf⟩ := bd_some hf
        refine kcVv C (kX6_hands (l := l) (D := D) (k := k) h0 h1 z0 z1 z2 z3 z4 z5 z6 z7 z8 z9 z10 z11 z12 z13 (.ref h2) (.int (v_left - q83)) (.int v_isRefused) z14 z15 v_page y1 y2 y3 q94 hq94) mt_X6_hands mw_996 ⟨rfl, rfl, Nat.le_of_ble_eq_true rfl, Nat.le_of_ble_eq_true rfl⟩ hP hD hS 0 rfl rfl rfl [0, 1] rfl rfl [some 0, some 1, none] rfl rfl (w2 := (wX6_handsAll k h0 h1 h2 z0 z1 z2 z3 z4 z5 z6 z7 z8 z9 z10 z11 z12 z13 z14 z15 (v_left - q83) v_isRefused q94 v_isLeft)) rfl rfl rfl hl.1 (rest := []) (Nat.le_of_ble_eq_true rfl) rfl dX6_handsAll_94 ⟨Nat.zero_le _, Nat.zero_le _⟩ (fun H locs hP hD hS => ?_)
        refine lv_goto (tgt := 109) hx hb dX6_handsAll_97 (by decide) ?_
        obtain rfl := Option.some.inj hf
        exact hj109 _ _ _ hP hD hS (lv_sub hl [1, 2, 3, 4] rfl)
set_option maxHeartbeats 4000000 in
set_option maxRecDepth 100000 in
theorem kX6_handsAll {l : Launch} {D : va_G} {k : Nat → ClassId} (h0 h1 h2 : Nat) (z0 z1 z2 z3 z4 z5 z6 z7 z8 z9 z10 z11 z12 z13 z14 z15 : Value) (v_left : Int32) (v_isRefused : Int32) (v_page : Nat → Int32) (v_isLeft : Nat → Int32) (x1 : Int32) (x2 : Int32) (q : Int32 × Int32 × (Nat → Int32) × (Nat → Int32)) (hf : fX6_handsAll v_left v_isRefused v_page v_isLeft x1 x2 = some q) : KMv l yX6_handsAll cX6_handsAll 5 ({ frames := 5, cells := 0, slots := 0, locals := 117 } : Room) D k [.ref h0, .int x1, .int x2] (wX6_handsAll k h0 h1 h2 z0 z1 z2 z3 z4 z5 z6 z7 z8 z9 z10 z11 z12 z13 z14 z15 v_left v_isRefused v_page v_isLeft) (wX6_handsAll k h0 h1 h2 z0 z1 z2 z3 z4 z5 z6 z7 z8 z9 z10 z11 z12 z13 z14 z15 q.1 q.2.1 q.2.2.1 q.2.2.2) := by
  refine kent_v (by decide) (Nat.le_of_ble_eq_true rfl) ?_
  intro p e s m below meth c A Q ls C hP hD hS hl hret
  obtain ⟨hx, hb, -⟩ := id C
  have hl : lv_has ls 5 [(0, .ref h0), (1, .int x1), (2, .int x2)] := hl
  unfold fX6_handsAll at hf
  generalize ([.ref h0, .int x1, .int x2] : List Value).toArray = args at *
  refine lv_iconst (v := (0 : Int32)) hx hb dX6_handsAll_0 (by decide) ?_
  refine lv_istore_n (lv' := [(3, .int (0 : Int32)), (0, .ref h0), (1, .int x1), (2, .int x2)]) hx hb dX6_handsAll_1 rfl hl (by decide) rfl (fun ls hl => ?_)
  obtain ⟨ex2, hv, hf⟩ := bd_some hf
  refine wX6_handsAll_2 C h0 h1 h2 z0 z1 z2 z3 z4 z5 z6 z7 z8 z9 z10 z11 z12 z13 z14 z15 v_left v_isRefused v_page x1 x2 FU v_isLeft (0 : Int32) ex2 _ _ _ hv hP hD hS (lv_sub hl [1, 2, 3, 0] rfl) (fun H locs ls hP hD hS hl => ?_)
  refine lv_aload_n hx hb dX6_handsAll_44 rfl (lv_at hl 0 rfl) ?_
  refine lv_iload_n hx hb dX6_handsAll_45 rfl (lv_at hl 1 rfl) ?_
  refine lv_iload_n hx hb dX6_handsAll_46 rfl (lv_at hl 2 rfl) ?_
  obtain ⟨q47, hq47, hf⟩ := bd_some hf
  refine kcVi C (kX6_nextOf (l := l) (D := D) (k := k) h0 h1 h2 z0 z1 z2 z3 z4 z5 z6 z7 z8 z9 z10 z11 z12 z13 (.int v_left) (.int v_isRefused) z14 z15 v_page ex2 x1 x2 q47 hq47) mt_X6_nextOf mw_992 ⟨rfl, rfl, Nat.le_of_ble_eq_true rfl, Nat.le_of_ble_eq_true rfl⟩ hP hD hS 0 rfl rfl rfl [0, 1, 2] rfl rfl [some 0, some 1, some 2] rfl rfl (w2 := (wX6_handsAll k h0 h1 h2 z0 z1 z2 z3 z4 z5 z6 z7 z8 z9 z10 z11 z12 z13 z14 z15 v_left v_isRefused v_page ex2)) rfl rfl rfl hl.1 (rest := []) (Nat.le_of_ble_eq_true rfl) rfl dX6_handsAll_47 ⟨Nat.zero_le _, Nat.zero_le _⟩ (fun H locs hP hD hS => ?_)
  refine lv_istore_n (lv' := [(3, .int q47), (0, .ref h0), (1, .int x1), (2, .int x2)]) hx hb dX6_handsAll_50 rfl hl (by decide) rfl (fun ls hl => ?_)
  obtain ⟨ex51, hv, hf⟩ := bd_some hf
  refine wX6_handsAll_51 C h0 h1 h2 z0 z1 z2 z3 z4 z5 z6 z7 z8 z9 z10 z11 z12 z13 z14 z15 x1 x2 FU v_left v_isRefused v_page ex2 q47 ex51 _ _ _ hv hP hD hS (lv_sub hl [1, 2, 3, 0] rfl) (fun H locs ls hP hD hS hl => ?_)
  obtain rfl := Option.some.inj hf
  exact hret _ _ _ _ dX6_handsAll_126 hP hS
set_option maxHeartbeats 4000000 in
set_option maxRecDepth 100000 in
theorem wX6_cures_2 {p : Program} {l : Launch} {e : Env} {s : State} {m : MethodId} {args : Array Value} {below : List Frame} {meth : Method} {c : Code} {A : Nat → Prop} {Q : State → Prop} {D : va_G} {k : Nat → ClassId} (C : Cx p s m args c cX6_cures 3 RX6 A D k) (h0 h1 : Nat) (z0 z1 z2 z3 z4 z5 z6 z7 z8 z9 z10 z11 z12 z13 z14 z15 z16 z17 z18 : Value) (y1 : Int32) : ∀ (f : Nat) (v_page : Nat → Int32) (y2 : Int32) (ex : ((Nat → Int32))) (H : Heap) (locs : List Loc) (ls : Array Slot), fX6_cures_2 y1 f v_page y2 = some ex → va_P D vwCl (wX6_cures k h0 h1 z0 z1 z2 z3 z4 z5 z6 z7 z8 z9 z10 z11 z12 z13 z14 z15 z16 z17 z18 v_page) H → va_D A (wX6_cures k h0 h1 z0 z1 z2 z3 z4 z5 z6 z7 z8 z9 z10 z11 z12 z13 z14 z15 z16 z17 z18 v_page) → va_S A s.heap H locs → lv_has ls 3 [(0, .ref h0), (1, .int y1), (2, .int y2)] → (∀ (H : Heap) (locs : List Loc) (ls : Array Slot), va_P D vwCl (wX6_cures k h0 h1 z0 z1 z2 z3 z4 z5 z6 z7 z8 z9 z10 z11 z12 z13 z14 z15 z16 z17 z18 ex) H → va_D A (wX6_cures k h0 h1 z0 z1 z2 z3 z4 z5 z6 z7 z8 z9 z10 z11 z12 z13 z14 z15 z16 z17 z18 ex) → va_S A s.heap H locs → lv_has ls 3 [] → W p l e ({ frames := 2, cells := 0, slots := 0, locals := 44 } : Room) s m args below meth c H locs 0 0 Q (F0 m 53 ls [])) → W p l e ({ frames := 2, cells := 0, slots := 0, locals := 44 } : Room) s m args below meth c H locs 0 0 Q (F0 m 2 ls []) := by
  obtain ⟨hx, hb, -⟩ := id C
  intro f
  induction f with
  | zero =>
    intro v_page y2 ex H locs ls hf hP hD hS hl hk
    cases hf
  | succ f ih =>
    intro v_page y2 ex H locs ls hf hP hD hS hl hk
    rw [fX6_cures_2] at hf
    refine lv_iload_n hx hb dX6_cures_2 rfl (lv_at hl 2 rfl) ?_
    refine lv_aload_n hx hb dX6_cures_3 rfl (lv_at hl 0 rfl) ?_
    refine kget C inX6 hP 0 rfl rfl 0 (by decide) mw_687 rfl dX6_cures_4 ?_
    refine lv_iconst (v := (2 : Int32)) hx hb dX6_cures_7 (by decide) ?_
    refine kiald C hP 1 rfl (by unfold vp_in; decide) dX6_cures_8 (j := 2) (by decide) ?_
    refine lv_icmp_ge (tgt := 53) hx hb dX6_cures_9 (by decide) (fun hc => ?_) (fun hc => ?_)
    · rw [if_pos hc] at hf
      obtain rfl := Option.some.inj hf
      exact hk _ _ _ hP hD hS (lv_sub hl [] rfl)
    · rw [if_neg hc] at hf
      refine lv_aload_n hx hb dX6_cures_12 rfl (lv_at hl 0 rfl) ?_
      refine lv_iload_n hx hb dX6_cures_13 rfl (lv_at hl 1 rfl) ?_
      refine lv_iload_n hx hb dX6_cures_14 rfl (lv_at hl 2 rfl) ?_
      obtain ⟨q15, hq15, hf⟩ := bd_some hf
      refine kcVi C (kX6_hasCopy (l := l) (D := D) (k := k) h0 h1 z0 z1 z2 z3 z4 z5 z6 z7 z8 z9 z10 z11 z12 z13 z14 z15 z16 z17 z18 v_page y1 y2 q15 hq15) mt_X6_hasCopy mw_819 ⟨rfl, rfl, Nat.le_of_ble_eq_true rfl, Nat.le_of_ble_eq_true rfl⟩ hP hD hS 0 rfl rfl rfl [0, 1] rfl rfl [some 0, some 1] rfl rfl (w2 := (wX6_cures k h0 h1 z0 z1 z2 z3 z4 z5 z6 z7 z8 z9 z10 z11 z12 z13 z14 z15 z16 z17 z18 v_page)) rfl rfl rfl hl.1 (rest := []) (Nat.le_of_ble_eq_true rfl) rfl dX6_cures_15 ⟨Nat.zero_le _, Nat.zero_le _⟩ (fun H locs hP hD hS => ?_)
      refine lv_if_eq (tgt := 47) hx hb dX6_cures_18 (by decide) (fun hc => ?_) (fun hc => ?_)
      · rw [if_pos hc] at hf
        refine lv_iinc (v := (y2 + (1 : Int32))) (lv' := [(2, .int (y2 + (1 : Int32))), (0, .ref h0), (1, .int y1)]) hx hb dX6_cures_47 hl (k := 2) rfl rfl (by decide) rfl (fun ls hl => ?_)
        refine lv_goto (tgt := 2) hx hb dX6_cures_50 (by decide) ?_
        exact ih v_page (y2 + (1 : Int32)) _ _ _ _ hf hP hD hS (lv_sub hl [1, 2, 0] rfl) hk
      · rw [if_neg hc] at hf
        refine lv_aload_n hx hb dX6_cures_21 rfl (lv_at hl 0 rfl) ?_
        refine lv_iload_n hx hb dX6_cures_22 rfl (lv_at hl 1 rfl) ?_
        refine lv_iload_n hx hb dX6_cures_23 rfl (lv_at hl 2 rfl) ?_
        obtain ⟨q24, hq24, hf⟩ := bd_some hf
        refine kcVi C (kX6_hasNote (l := l) (D := D) (k := k) h0 h1 z0 z1 z2 z3 z4 z5 z6 z7 z8 z9 z10 z11 z12 z13 z14 z15 z16 z17 z18 v_page y1 y2 q24 hq24) mt_X6_hasNote mw_976 ⟨rfl, rfl, Nat.le_of_ble_eq_true rfl, Nat.le_of_ble_eq_true rfl⟩ hP hD hS 0 rfl rfl rfl [0, 1] rfl rfl [some 0, some 1] rfl rfl (w2 := (wX6_cures k h0 h1 z0 z1 z2 z3 z4 z5 z6 z7 z8 z9 z10 z11 z12 z13 z14 z15 z16 z17 z18 v_page)) rfl rfl rfl hl.1 (rest := []) (Nat.le_of_ble_eq_true rfl) rfl dX6_cures_24 ⟨Nat.zero_le _, Nat.zero_le _⟩ (fun H locs hP hD hS => ?_)
        refine lv_if_eq (tgt := 47) hx hb dX6_cures_27 (by decide) (fun hc => ?_) (fun hc => ?_)
        · rw [if_pos hc] at hf
          refine lv_iinc (v := (y2 + (1 : Int32))) (lv' := [(2, .int (y2 + (1 : Int32))), (0, .ref h0), (1, .int y1)]) hx hb dX6_cures_47 hl (k := 2) rfl rfl (by decide) rfl (fun ls hl => ?_)
          refine lv_goto (tgt := 2) hx hb dX6_cures_50 (by decide) ?_
          exact ih v_page (y2 + (1 : Int32)) _ _ _ _ hf hP hD hS (lv_sub hl [1, 2, 0] rfl) hk
        · rw [if_neg hc] at hf
          refine lv_aload_n hx hb dX6_cures_30 rfl (lv_at hl 0 rfl) ?_
          refine lv_iload_n hx hb dX6_cures_31 rfl (lv_at hl 1 rfl) ?_
          refine lv_iload_n hx hb dX6_cures_32 rfl (lv_at hl 2 rfl) ?_
          obtain ⟨q33, hq33, hf⟩ := bd_some hf
          refine kcVv C (kX6_goes (l := l) (D := D) (k := k) h0 h1 z0 z1 z2 z3 z4 z5 z6 z7 z8 z9 z10 z11 z12 z13 z14 z15 z16 z17 z18 v_page y1 y2 q33 hq33) mt_X6_goes mw_948 ⟨rfl, rfl, Nat.le_of_ble_eq_true rfl, Nat.le_of_ble_eq_true rfl⟩ hP hD hS 0 rfl rfl rfl [0, 1] rfl rfl [some 0, some 1] rfl rfl (w2 := (wX6_cures k h0 h1 z0 z1 z2 z3 z4 z5 z6 z7 z8 z9 z10 z11 z12 z13 z14 z15 z16 z17 z18 q33)) rfl rfl rfl hl.1 (rest := []) (Nat.le_of_ble_eq_true rfl) rfl dX6_cures_33 ⟨Nat.zero_le _, Nat.zero_le _⟩ (fun H locs hP hD hS => ?_)
          refine lv_aload_n hx hb dX6_cures_36 rfl (lv_at hl 0 rfl) ?_
          refine kget C inX6 hP 0 rfl rfl 0 (by decide) mw_687 rfl dX6_cures_37 ?_
          refine lv_bipush (v := (11 : Int32)) hx hb dX6_cures_40 (by decide) ?_
          refine lv_dup2_11 hx hb dX6_cures_42 rfl rfl ?_
          refine kiald C hP 1 rfl (by unfold vp_in; decide) dX6_cures_43 (j := 11) (by decide) ?_
          refine lv_iconst (v := (1 : Int32)) hx hb dX6_cures_44 (by decide) ?_
          refine lv_iadd hx hb dX6_cures_45 ?_
          obtain ⟨v_page_46, hn46, hf⟩ := nm_some hf
          refine kiast C hP hD hS 1 rfl (by unfold vp_in; decide) dX6_cures_46 (j := 11) (by decide) (g := v_page_46) hn46 (w2 := (wX6_cures k h0 h1 z0 z1 z2 z3 z4 z5 z6 z7 z8 z9 z10 z11 z12 z13 z14 z15 z16 z17 z18 v_page_46)) rfl (fun H locs hP hD hS => ?_)
          refine lv_iinc (v := (y2 + (1 : Int32))) (lv' := [(2, .int (y2 + (1 : Int32))), (0, .ref h0), (1, .int y1)]) hx hb dX6_cures_47 hl (k := 2) rfl rfl (by decide) rfl (fun ls hl => ?_)
          refine lv_goto (tgt := 2) hx hb dX6_cures_50 (by decide) ?_
          exact ih v_page_46 (y2 + (1 : Int32)) _ _ _ _ hf hP hD hS (lv_sub hl [1, 2, 0] rfl) hk
set_option maxHeartbeats 4000000 in
set_option maxRecDepth 100000 in
theorem kX6_cures {l : Launch} {D : va_G} {k : Nat → ClassId} (h0 h1 : Nat) (z0 z1 z2 z3 z4 z5 z6 z7 z8 z9 z10 z11 z12 z13 z14 z15 z16 z17 z18 : Value) (v_page : Nat → Int32) (x1 : Int32) (q : (Nat → Int32)) (hf : fX6_cures v_page x1 = some q) : KMv l yX6_cures cX6_cures 3 ({ frames := 2, cells := 0, slots := 0, locals := 44 } : Room) D k [.ref h0, .int x1] (wX6_cures k h0 h1 z0 z1 z2 z3 z4 z5 z6 z7 z8 z9 z10 z11 z12 z13 z14 z15 z16 z17 z18 v_page) (wX6_cures k h0 h1 z0 z1 z2 z3 z4 z5 z6 z7 z8 z9 z10 z11 z12 z13 z14 z15 z16 z17 z18 q) := by
  refine kent_v (by decide) (Nat.le_of_ble_eq_true rfl) ?_
  intro p e s m below meth c A Q ls C hP hD hS hl hret
  obtain ⟨hx, hb, -⟩ := id C
  have hl : lv_has ls 3 [(0, .ref h0), (1, .int x1)] := hl
  unfold fX6_cures at hf
  generalize ([.ref h0, .int x1] : List Value).toArray = args at *
  refine lv_iconst (v := (0 : Int32)) hx hb dX6_cures_0 (by decide) ?_
  refine lv_istore_n (lv' := [(2, .int (0 : Int32)), (0, .ref h0), (1, .int x1)]) hx hb dX6_cures_1 rfl hl (by decide) rfl (fun ls hl => ?_)
  obtain ⟨ex2, hv, hf⟩ := bd_some hf
  refine wX6_cures_2 C h0 h1 z0 z1 z2 z3 z4 z5 z6 z7 z8 z9 z10 z11 z12 z13 z14 z15 z16 z17 z18 x1 FU v_page (0 : Int32) ex2 _ _ _ hv hP hD hS (lv_sub hl [1, 2, 0] rfl) (fun H locs ls hP hD hS hl => ?_)
  obtain rfl := Option.some.inj hf
  exact hret _ _ _ _ dX6_cures_53 hP hS
set_option maxHeartbeats 4000000 in
set_option maxRecDepth 100000 in
theorem wX6_meets_14 {p : Program} {l : Launch} {e : Env} {s : State} {m : MethodId} {args : Array Value} {below : List Frame} {meth : Method} {c : Code} {A : Nat → Prop} {Q : State → Prop} {D : va_G} {k : Nat → ClassId} (C : Cx p s m args c cX6_meets 5 RX6 A D k) (h0 h1 h2 : Nat) (z0 z1 z2 z3 z4 z5 z6 z7 z8 z9 z10 z11 z12 z13 z14 z15 : Value) (v_left : Int32) (v_isRefused : Int32) (v_isLeft : Nat → Int32) (y1 : Int32) (y2 : Int32) (y3 : Int32) : ∀ (f : Nat) (v_page : Nat → Int32) (y4 : Int32) (ex : ((Nat → Int32))) (H : Heap) (locs : List Loc) (ls : Array Slot), fX6_meets_14 y1 y2 y3 f v_page y4 = some ex → va_P D vwCl (wX6_meets k h0 h1 h2 z0 z1 z2 z3 z4 z5 z6 z7 z8 z9 z10 z11 z12 z13 z14 z15 v_left v_isRefused v_page v_isLeft) H → va_D A (wX6_meets k h0 h1 h2 z0 z1 z2 z3 z4 z5 z6 z7 z8 z9 z10 z11 z12 z13 z14 z15 v_left v_isRefused v_page v_isLeft) → va_S A s.heap H locs → lv_has ls 5 [(0, .ref h0), (1, .int y1), (2, .int y2), (3, .int y3), (4, .int y4)] → (∀ (H : Heap) (locs : List Loc) (ls : Array Slot), va_P D vwCl (wX6_meets k h0 h1 h2 z0 z1 z2 z3 z4 z5 z6 z7 z8 z9 z10 z11 z12 z13 z14 z15 v_left v_isRefused ex v_isLeft) H → va_D A (wX6_meets k h0 h1 h2 z0 z1 z2 z3 z4 z5 z6 z7 z8 z9 z10 z11 z12 z13 z14 z15 v_left v_isRefused ex v_isLeft) → va_S A s.heap H locs → lv_has ls 5 [(0, .ref h0), (1, .int y1), (2, .int y2), (3, .int y3)] → W p l e ({ frames := 6, cells := 0, slots := 0, locals := 141 } : Room) s m args below meth c H locs 0 0 Q (F0 m 65 ls [])) → W p l e ({ frames := 6, cells := 0, slots := 0, locals := 141 } : Room) s m args below meth c H locs 0 0 Q (F0 m 14 ls []) := by
  obtain ⟨hx, hb, -⟩ := id C
  intro f
  induction f with
  | zero =>
    intro v_page y4 ex H locs ls hf hP hD hS hl hk
    cases hf
  | succ f ih =>
    intro v_page y4 ex H locs ls hf hP hD hS hl hk
    rw [fX6_meets_14] at hf
    refine lv_iload hx hb dX6_meets_14 (lv_at hl 4 rfl) ?_
    refine lv_aload_n hx hb dX6_meets_16 rfl (lv_at hl 0 rfl) ?_
    refine kget C inX6 hP 0 rfl rfl 0 (by decide) mw_687 rfl dX6_meets_17 ?_
    refine lv_iconst (v := (2 : Int32)) hx hb dX6_meets_20 (by decide) ?_
    refine kiald C hP 1 rfl (by unfold vp_in; decide) dX6_meets_21 (j := 2) (by decide) ?_
    refine lv_icmp_ge (tgt := 65) hx hb dX6_meets_22 (by decide) (fun hc => ?_) (fun hc => ?_)
    · rw [if_pos hc] at hf
      obtain rfl := Option.some.inj hf
      exact hk _ _ _ hP hD hS (lv_sub hl [0, 1, 2, 3] rfl)
    · rw [if_neg hc] at hf
      refine lv_aload_n hx hb dX6_meets_25 rfl (lv_at hl 0 rfl) ?_
      refine lv_iload_n hx hb dX6_meets_26 rfl (lv_at hl 1 rfl) ?_
      refine lv_iload hx hb dX6_meets_27 (lv_at hl 4 rfl) ?_
      obtain ⟨q29, hq29, hf⟩ := bd_some hf
      refine kcVi C (kX6_hasNote (l := l) (D := D) (k := k) h0 h1 z0 z1 z2 z3 z4 z5 z6 z7 z8 z9 z10 z11 z12 z13 (.ref h2) (.int v_left) (.int v_isRefused) z14 z15 v_page y1 y4 q29 hq29) mt_X6_hasNote mw_976 ⟨rfl, rfl, Nat.le_of_ble_eq_true rfl, Nat.le_of_ble_eq_true rfl⟩ hP hD hS 0 rfl rfl rfl [0, 1] rfl rfl [some 0, some 1, none] rfl rfl (w2 := (wX6_meets k h0 h1 h2 z0 z1 z2 z3 z4 z5 z6 z7 z8 z9 z10 z11 z12 z13 z14 z15 v_left v_isRefused v_page v_isLeft)) rfl rfl rfl hl.1 (rest := []) (Nat.le_of_ble_eq_true rfl) rfl dX6_meets_29 ⟨Nat.zero_le _, Nat.zero_le _⟩ (fun H locs hP hD hS => ?_)
      refine lv_if_ne (tgt := 45) hx hb dX6_meets_32 (by decide) (fun hc => ?_) (fun hc => ?_)
      · rw [if_neg hc] at hf
        refine lv_aload_n hx hb dX6_meets_45 rfl (lv_at hl 0 rfl) ?_
        refine lv_iload_n hx hb dX6_meets_46 rfl (lv_at hl 1 rfl) ?_
        refine lv_iload hx hb dX6_meets_47 (lv_at hl 4 rfl) ?_
        obtain ⟨q49, hq49, hf⟩ := bd_some hf
        refine kcVv C (kX6_notes (l := l) (D := D) (k := k) h0 h1 z0 z1 z2 z3 z4 z5 z6 z7 z8 z9 z10 z11 z12 z13 (.ref h2) (.int v_left) (.int v_isRefused) z14 z15 v_page y1 y4 q49 hq49) mt_X6_notes mw_980 ⟨rfl, rfl, Nat.le_of_ble_eq_true rfl, Nat.le_of_ble_eq_true rfl⟩ hP hD hS 0 rfl rfl rfl [0, 1] rfl rfl [some 0, some 1, none] rfl rfl (w2 := (wX6_meets k h0 h1 h2 z0 z1 z2 z3 z4 z5 z6 z7 z8 z9 z10 z11 z12 z13 z14 z15 v_left v_isRefused q49 v_isLeft)) rfl rfl rfl hl.1 (rest := []) (Nat.le_of_ble_eq_true rfl) rfl dX6_meets_49 ⟨Nat.zero_le _, Nat.zero_le _⟩ (fun H locs hP hD hS => ?_)
        refine lv_aload_n hx hb dX6_meets_52 rfl (lv_at hl 0 rfl) ?_
        refine lv_iload_n hx hb dX6_meets_53 rfl (lv_at hl 2 rfl) ?_
        refine lv_iload hx hb dX6_meets_54 (lv_at hl 4 rfl) ?_
        obtain ⟨q56, hq56, hf⟩ := bd_some hf
        refine kcVv C (kX6_notes (l := l) (D := D) (k := k) h0 h1 z0 z1 z2 z3 z4 z5 z6 z7 z8 z9 z10 z11 z12 z13 (.ref h2) (.int v_left) (.int v_isRefused) z14 z15 q49 y2 y4 q56 hq56) mt_X6_notes mw_980 ⟨rfl, rfl, Nat.le_of_ble_eq_true rfl, Nat.le_of_ble_eq_true rfl⟩ hP hD hS 0 rfl rfl rfl [0, 1] rfl rfl [some 0, some 1, none] rfl rfl (w2 := (wX6_meets k h0 h1 h2 z0 z1 z2 z3 z4 z5 z6 z7 z8 z9 z10 z11 z12 z13 z14 z15 v_left v_isRefused q56 v_isLeft)) rfl rfl rfl hl.1 (rest := []) (Nat.le_of_ble_eq_true rfl) rfl dX6_meets_56 ⟨Nat.zero_le _, Nat.zero_le _⟩ (fun H locs hP hD hS => ?_)
        refine lv_iinc (v := (y4 + (1 : Int32))) (lv' := [(4, .int (y4 + (1 : Int32))), (0, .ref h0), (1, .int y1), (2, .int y2), (3, .int y3)]) hx hb dX6_meets_59 hl (k := 4) rfl rfl (by decide) rfl (fun ls hl => ?_)
        refine lv_goto (tgt := 14) hx hb dX6_meets_62 (by decide) ?_
        exact ih q56 (y4 + (1 : Int32)) _ _ _ _ hf hP hD hS (lv_sub hl [1, 2, 3, 4, 0] rfl) hk
      · rw [if_pos hc] at hf
        refine lv_aload_n hx hb dX6_meets_35 rfl (lv_at hl 0 rfl) ?_
        refine lv_iload_n hx hb dX6_meets_36 rfl (lv_at hl 2 rfl) ?_
        refine lv_iload hx hb dX6_meets_37 (lv_at hl 4 rfl) ?_
        obtain ⟨q39, hq39, hf⟩ := bd_some hf
        refine kcVi C (kX6_hasNote (l := l) (D := D) (k := k) h0 h1 z0 z1 z2 z3 z4 z5 z6 z7 z8 z9 z10 z11 z12 z13 (.ref h2) (.int v_left) (.int v_isRefused) z14 z15 v_page y2 y4 q39 hq39) mt_X6_hasNote mw_976 ⟨rfl, rfl, Nat.le_of_ble_eq_true rfl, Nat.le_of_ble_eq_true rfl⟩ hP hD hS 0 rfl rfl rfl [0, 1] rfl rfl [some 0, some 1, none] rfl rfl (w2 := (wX6_meets k h0 h1 h2 z0 z1 z2 z3 z4 z5 z6 z7 z8 z9 z10 z11 z12 z13 z14 z15 v_left v_isRefused v_page v_isLeft)) rfl rfl rfl hl.1 (rest := []) (Nat.le_of_ble_eq_true rfl) rfl dX6_meets_39 ⟨Nat.zero_le _, Nat.zero_le _⟩ (fun H locs hP hD hS => ?_)
        refine lv_if_eq (tgt := 59) hx hb dX6_meets_42 (by decide) (fun hc => ?_) (fun hc => ?_)
        · rw [if_pos hc] at hf
          refine lv_iinc (v := (y4 + (1 : Int32))) (lv' := [(4, .int (y4 + (1 : Int32))), (0, .ref h0), (1, .int y1), (2, .int y2), (3, .int y3)]) hx hb dX6_meets_59 hl (k := 4) rfl rfl (by decide) rfl (fun ls hl => ?_)
          refine lv_goto (tgt := 14) hx hb dX6_meets_62 (by decide) ?_
          exact ih v_page (y4 + (1 : Int32)) _ _ _ _ hf hP hD hS (lv_sub hl [1, 2, 3, 4, 0] rfl) hk
        · rw [if_neg hc] at hf
          refine lv_aload_n hx hb dX6_meets_45 rfl (lv_at hl 0 rfl) ?_
          refine lv_iload_n hx hb dX6_meets_46 rfl (lv_at hl 1 rfl) ?_
          refine lv_iload hx hb dX6_meets_47 (lv_at hl 4 rfl) ?_
          obtain ⟨q49, hq49, hf⟩ := bd_some hf
          refine kcVv C (kX6_notes (l := l) (D := D) (k := k) h0 h1 z0 z1 z2 z3 z4 z5 z6 z7 z8 z9 z10 z11 z12 z13 (.ref h2) (.int v_left) (.int v_isRefused) z14 z15 v_page y1 y4 q49 hq49) mt_X6_notes mw_980 ⟨rfl, rfl, Nat.le_of_ble_eq_true rfl, Nat.le_of_ble_eq_true rfl⟩ hP hD hS 0 rfl rfl rfl [0, 1] rfl rfl [some 0, some 1, none] rfl rfl (w2 := (wX6_meets k h0 h1 h2 z0 z1 z2 z3 z4 z5 z6 z7 z8 z9 z10 z11 z12 z13 z14 z15 v_left v_isRefused q49 v_isLeft)) rfl rfl rfl hl.1 (rest := []) (Nat.le_of_ble_eq_true rfl) rfl dX6_meets_49 ⟨Nat.zero_le _, Nat.zero_le _⟩ (fun H locs hP hD hS => ?_)
          refine lv_aload_n hx hb dX6_meets_52 rfl (lv_at hl 0 rfl) ?_
          refine lv_iload_n hx hb dX6_meets_53 rfl (lv_at hl 2 rfl) ?_
          refine lv_iload hx hb dX6_meets_54 (lv_at hl 4 rfl) ?_
          obtain ⟨q56, hq56, hf⟩ := bd_some hf
          refine kcVv C (kX6_notes (l := l) (D := D) (k := k) h0 h1 z0 z1 z2 z3 z4 z5 z6 z7 z8 z9 z10 z11 z12 z13 (.ref h2) (.int v_left) (.int v_isRefused) z14 z15 q49 y2 y4 q56 hq56) mt_X6_notes mw_980 ⟨rfl, rfl, Nat.le_of_ble_eq_true rfl, Nat.le_of_ble_eq_true rfl⟩ hP hD hS 0 rfl rfl rfl [0, 1] rfl rfl [some 0, some 1, none] rfl rfl (w2 := (wX6_meets k h0 h1 h2 z0 z1 z2 z3 z4 z5 z6 z7 z8 z9 z10 z11 z12 z13 z14 z15 v_left v_isRefused q56 v_isLeft)) rfl rfl rfl hl.1 (rest := []) (Nat.le_of_ble_eq_true rfl) rfl dX6_meets_56 ⟨Nat.zero_le _, Nat.zero_le _⟩ (fun H locs hP hD hS => ?_)
          refine lv_iinc (v := (y4 + (1 : Int32))) (lv' := [(4, .int (y4 + (1 : Int32))), (0, .ref h0), (1, .int y1), (2, .int y2), (3, .int y3)]) hx hb dX6_meets_59 hl (k := 4) rfl rfl (by decide) rfl (fun ls hl => ?_)
          refine lv_goto (tgt := 14) hx hb dX6_meets_62 (by decide) ?_
          exact ih q56 (y4 + (1 : Int32)) _ _ _ _ hf hP hD hS (lv_sub hl [1, 2, 3, 4, 0] rfl) hk
set_option maxHeartbeats 4000000 in
set_option maxRecDepth 100000 in
theorem kX6_meets {l : Launch} {D : va_G} {k : Nat → ClassId} (h0 h1 h2 : Nat) (z0 z1 z2 z3 z4 z5 z6 z7 z8 z9 z10 z11 z12 z13 z14 z15 : Value) (v_left : Int32) (v_isRefused : Int32) (v_page : Nat → Int32) (v_isLeft : Nat → Int32) (x1 : Int32) (x2 : Int32) (x3 : Int32) (q : Int32 × Int32 × (Nat → Int32) × (Nat → Int32)) (hf : fX6_meets v_left v_isRefused v_page v_isLeft x1 x2 x3 = some q) : KMv l yX6_meets cX6_meets 5 ({ frames := 6, cells := 0, slots := 0, locals := 141 } : Room) D k [.ref h0, .int x1, .int x2, .int x3] (wX6_meets k h0 h1 h2 z0 z1 z2 z3 z4 z5 z6 z7 z8 z9 z10 z11 z12 z13 z14 z15 v_left v_isRefused v_page v_isLeft) (wX6_meets k h0 h1 h2 z0 z1 z2 z3 z4 z5 z6 z7 z8 z9 z10 z11 z12 z13 z14 z15 q.1 q.2.1 q.2.2.1 q.2.2.2) := by
  refine kent_v (by decide) (Nat.le_of_ble_eq_true rfl) ?_
  intro p e s m below meth c A Q ls C hP hD hS hl hret
  obtain ⟨hx, hb, -⟩ := id C
  have hl : lv_has ls 5 [(0, .ref h0), (1, .int x1), (2, .int x2), (3, .int x3)] := hl
  unfold fX6_meets at hf
  generalize ([.ref h0, .int x1, .int x2, .int x3] : List Value).toArray = args at *
  refine lv_aload_n hx hb dX6_meets_0 rfl (lv_at hl 0 rfl) ?_
  refine kget C inX6 hP 0 rfl rfl 0 (by decide) mw_687 rfl dX6_meets_1 ?_
  refine lv_bipush (v := (14 : Int32)) hx hb dX6_meets_4 (by decide) ?_
  refine lv_dup2_11 hx hb dX6_meets_6 rfl rfl ?_
  refine kiald C hP 1 rfl (by unfold vp_in; decide) dX6_meets_7 (j := 14) (by decide) ?_
  refine lv_iconst (v := (1 : Int32)) hx hb dX6_meets_8 (by decide) ?_
  refine lv_iadd hx hb dX6_meets_9 ?_
  obtain ⟨v_page_10, hn10, hf⟩ := nm_some hf
  refine kiast C hP hD hS 1 rfl (by unfold vp_in; decide) dX6_meets_10 (j := 14) (by decide) (g := v_page_10) hn10 (w2 := (wX6_meets k h0 h1 h2 z0 z1 z2 z3 z4 z5 z6 z7 z8 z9 z10 z11 z12 z13 z14 z15 v_left v_isRefused v_page_10 v_isLeft)) rfl (fun H locs hP hD hS => ?_)
  refine lv_iconst (v := (0 : Int32)) hx hb dX6_meets_11 (by decide) ?_
  refine lv_istore (lv' := [(4, .int (0 : Int32)), (0, .ref h0), (1, .int x1), (2, .int x2), (3, .int x3)]) hx hb dX6_meets_12 hl (by decide) rfl (fun ls hl => ?_)
  obtain ⟨ex14, hv, hf⟩ := bd_some hf
  refine wX6_meets_14 C h0 h1 h2 z0 z1 z2 z3 z4 z5 z6 z7 z8 z9 z10 z11 z12 z13 z14 z15 v_left v_isRefused v_isLeft x1 x2 x3 FU v_page_10 (0 : Int32) ex14 _ _ _ hv hP hD hS (lv_sub hl [1, 2, 3, 4, 0] rfl) (fun H locs ls hP hD hS hl => ?_)
  refine lv_aload_n hx hb dX6_meets_65 rfl (lv_at hl 0 rfl) ?_
  refine lv_iload_n hx hb dX6_meets_66 rfl (lv_at hl 1 rfl) ?_
  obtain ⟨q67, hq67, hf⟩ := bd_some hf
  refine kcVv C (kX6_cures (l := l) (D := D) (k := k) h0 h1 z0 z1 z2 z3 z4 z5 z6 z7 z8 z9 z10 z11 z12 z13 (.ref h2) (.int v_left) (.int v_isRefused) z14 z15 ex14 x1 q67 hq67) mt_X6_cures mw_984 ⟨rfl, rfl, Nat.le_of_ble_eq_true rfl, Nat.le_of_ble_eq_true rfl⟩ hP hD hS 0 rfl rfl rfl [0, 1] rfl rfl [some 0, some 1, none] rfl rfl (w2 := (wX6_meets k h0 h1 h2 z0 z1 z2 z3 z4 z5 z6 z7 z8 z9 z10 z11 z12 z13 z14 z15 v_left v_isRefused q67 v_isLeft)) rfl rfl rfl hl.1 (rest := []) (Nat.le_of_ble_eq_true rfl) rfl dX6_meets_67 ⟨Nat.zero_le _, Nat.zero_le _⟩ (fun H locs hP hD hS => ?_)
  refine lv_aload_n hx hb dX6_meets_70 rfl (lv_at hl 0 rfl) ?_
  refine lv_iload_n hx hb dX6_meets_71 rfl (lv_at hl 2 rfl) ?_
  obtain ⟨q72, hq72, hf⟩ := bd_some hf
  refine kcVv C (kX6_cures (l := l) (D := D) (k := k) h0 h1 z0 z1 z2 z3 z4 z5 z6 z7 z8 z9 z10 z11 z12 z13 (.ref h2) (.int v_left) (.int v_isRefused) z14 z15 q67 x2 q72 hq72) mt_X6_cures mw_984 ⟨rfl, rfl, Nat.le_of_ble_eq_true rfl, Nat.le_of_ble_eq_true rfl⟩ hP hD hS 0 rfl rfl rfl [0, 1] rfl rfl [some 0, some 1, none] rfl rfl (w2 := (wX6_meets k h0 h1 h2 z0 z1 z2 z3 z4 z5 z6 z7 z8 z9 z10 z11 z12 z13 z14 z15 v_left v_isRefused q72 v_isLeft)) rfl rfl rfl hl.1 (rest := []) (Nat.le_of_ble_eq_true rfl) rfl dX6_meets_72 ⟨Nat.zero_le _, Nat.zero_le _⟩ (fun H locs hP hD hS => ?_)
  refine lv_aload_n hx hb dX6_meets_75 rfl (lv_at hl 0 rfl) ?_
  refine lv_iload_n hx hb dX6_meets_76 rfl (lv_at hl 3 rfl) ?_
  refine kput C inX6 tyX6_ok nmX6 hP hD hS 0 rfl rfl 16 (by decide) mw_703 rfl rfl rfl (Nat.le_of_ble_eq_true rfl) dX6_meets_77 (w2 := (wX6_meets k h0 h1 h2 z0 z1 z2 z3 z4 z5 z6 z7 z8 z9 z10 z11 z12 z13 z14 z15 x3 v_isRefused q72 v_isLeft)) rfl (fun H locs hP hD hS => ?_)
  refine lv_aload_n hx hb dX6_meets_80 rfl (lv_at hl 0 rfl) ?_
  refine lv_iconst (v := (0 : Int32)) hx hb dX6_meets_81 (by decide) ?_
  refine kput C inX6 tyX6_ok nmX6 hP hD hS 0 rfl rfl 17 (by decide) mw_704 rfl rfl rfl (Nat.le_of_ble_eq_true rfl) dX6_meets_82 (w2 := (wX6_meets k h0 h1 h2 z0 z1 z2 z3 z4 z5 z6 z7 z8 z9 z10 z11 z12 z13 z14 z15 x3 (0 : Int32) q72 v_isLeft)) rfl (fun H locs hP hD hS => ?_)
  refine lv_aload_n hx hb dX6_meets_85 rfl (lv_at hl 0 rfl) ?_
  refine lv_iload_n hx hb dX6_meets_86 rfl (lv_at hl 1 rfl) ?_
  refine lv_iload_n hx hb dX6_meets_87 rfl (lv_at hl 2 rfl) ?_
  obtain ⟨q88, hq88, hf⟩ := bd_some hf
  refine kcVv C (kX6_handsAll (l := l) (D := D) (k := k) h0 h1 h2 z0 z1 z2 z3 z4 z5 z6 z7 z8 z9 z10 z11 z12 z13 z14 z15 x3 (0 : Int32) q72 v_isLeft x1 x2 q88 hq88) mt_X6_handsAll mw_988 ⟨rfl, rfl, Nat.le_of_ble_eq_true rfl, Nat.le_of_ble_eq_true rfl⟩ hP hD hS 0 rfl rfl rfl [0, 1, 2] rfl rfl [some 0, some 1, some 2] rfl rfl (w2 := (wX6_meets k h0 h1 h2 z0 z1 z2 z3 z4 z5 z6 z7 z8 z9 z10 z11 z12 z13 z14 z15 q88.1 q88.2.1 q88.2.2.1 q88.2.2.2)) rfl rfl rfl hl.1 (rest := []) (Nat.le_of_ble_eq_true rfl) rfl dX6_meets_88 ⟨Nat.zero_le _, Nat.zero_le _⟩ (fun H locs hP hD hS => ?_)
  refine lv_aload_n hx hb dX6_meets_91 rfl (lv_at hl 0 rfl) ?_
  refine lv_iload_n hx hb dX6_meets_92 rfl (lv_at hl 2 rfl) ?_
  refine lv_iload_n hx hb dX6_meets_93 rfl (lv_at hl 1 rfl) ?_
  obtain ⟨q94, hq94, hf⟩ := bd_some hf
  refine kcVv C (kX6_handsAll (l := l) (D := D) (k := k) h0 h1 h2 z0 z1 z2 z3 z4 z5 z6 z7 z8 z9 z10 z11 z12 z13 z14 z15 q88.1 q88.2.1 q88.2.2.1 q88.2.2.2 x2 x1 q94 hq94) mt_X6_handsAll mw_988 ⟨rfl, rfl, Nat.le_of_ble_eq_true rfl, Nat.le_of_ble_eq_true rfl⟩ hP hD hS 0 rfl rfl rfl [0, 1, 2] rfl rfl [some 0, some 1, some 2] rfl rfl (w2 := (wX6_meets k h0 h1 h2 z0 z1 z2 z3 z4 z5 z6 z7 z8 z9 z10 z11 z12 z13 z14 z15 q94.1 q94.2.1 q94.2.2.1 q94.2.2.2)) rfl rfl rfl hl.1 (rest := []) (Nat.le_of_ble_eq_true rfl) rfl dX6_meets_94 ⟨Nat.zero_le _, Nat.zero_le _⟩ (fun H locs hP hD hS => ?_)
  refine lv_aload_n hx hb dX6_meets_97 rfl (lv_at hl 0 rfl) ?_
  refine kget C inX6 hP 0 rfl rfl 0 (by decide) mw_687 rfl dX6_meets_98 ?_
  refine lv_sipush (v := (767 : Int32)) hx hb dX6_meets_101 (by decide) ?_
  refine lv_bipush (v := (8 : Int32)) hx hb dX6_meets_104 (by decide) ?_
  refine lv_iload_n hx hb dX6_meets_106 rfl (lv_at hl 1 rfl) ?_
  refine lv_imul hx hb dX6_meets_107 ?_
  refine lv_iadd hx hb dX6_meets_108 ?_
  refine lv_iload_n hx hb dX6_meets_109 rfl (lv_at hl 2 rfl) ?_
  refine lv_iadd hx hb dX6_meets_110 ?_
  refine lv_aload_n hx hb dX6_meets_111 rfl (lv_at hl 0 rfl) ?_
  refine kget C inX6 hP 0 rfl rfl 0 (by decide) mw_687 rfl dX6_meets_112 ?_
  refine lv_iconst (v := (3 : Int32)) hx hb dX6_meets_115 (by decide) ?_
  refine kiald C hP 1 rfl (by unfold vp_in; decide) dX6_meets_116 (j := 3) (by decide) ?_
  refine lv_iconst (v := (1 : Int32)) hx hb dX6_meets_117 (by decide) ?_
  refine lv_iadd hx hb dX6_meets_118 ?_
  obtain ⟨hin, hf⟩ := gd_some hf
  obtain ⟨v_page_119, hn119, hf⟩ := nm_some hf
  refine kiast C hP hD hS 1 rfl hin dX6_meets_119 (j := (((767 : Int32) + ((8 : Int32) * x1)) + x2).toNatClampNeg) rfl (g := v_page_119) hn119 (w2 := (wX6_meets k h0 h1 h2 z0 z1 z2 z3 z4 z5 z6 z7 z8 z9 z10 z11 z12 z13 z14 z15 q94.1 q94.2.1 v_page_119 q94.2.2.2)) rfl (fun H locs hP hD hS => ?_)
  refine lv_aload_n hx hb dX6_meets_120 rfl (lv_at hl 0 rfl) ?_
  refine kget C inX6 hP 0 rfl rfl 0 (by decide) mw_687 rfl dX6_meets_121 ?_
  refine lv_sipush (v := (767 : Int32)) hx hb dX6_meets_124 (by decide) ?_
  refine lv_bipush (v := (8 : Int32)) hx hb dX6_meets_127 (by decide) ?_
  refine lv_iload_n hx hb dX6_meets_129 rfl (lv_at hl 2 rfl) ?_
  refine lv_imul hx hb dX6_meets_130 ?_
  refine lv_iadd hx hb dX6_meets_131 ?_
  refine lv_iload_n hx hb dX6_meets_132 rfl (lv_at hl 1 rfl) ?_
  refine lv_iadd hx hb dX6_meets_133 ?_
  refine lv_aload_n hx hb dX6_meets_134 rfl (lv_at hl 0 rfl) ?_
  refine kget C inX6 hP 0 rfl rfl 0 (by decide) mw_687 rfl dX6_meets_135 ?_
  refine lv_iconst (v := (3 : Int32)) hx hb dX6_meets_138 (by decide) ?_
  refine kiald C hP 1 rfl (by unfold vp_in; decide) dX6_meets_139 (j := 3) (by decide) ?_
  refine lv_iconst (v := (1 : Int32)) hx hb dX6_meets_140 (by decide) ?_
  refine lv_iadd hx hb dX6_meets_141 ?_
  obtain ⟨hin, hf⟩ := gd_some hf
  obtain ⟨v_page_142, hn142, hf⟩ := nm_some hf
  refine kiast C hP hD hS 1 rfl hin dX6_meets_142 (j := (((767 : Int32) + ((8 : Int32) * x2)) + x1).toNatClampNeg) rfl (g := v_page_142) hn142 (w2 := (wX6_meets k h0 h1 h2 z0 z1 z2 z3 z4 z5 z6 z7 z8 z9 z10 z11 z12 z13 z14 z15 q94.1 q94.2.1 v_page_142 q94.2.2.2)) rfl (fun H locs hP hD hS => ?_)
  obtain rfl := Option.some.inj hf
  exact hret _ _ _ _ dX6_meets_143 hP hS
set_option maxHeartbeats 4000000 in
set_option maxRecDepth 100000 in
theorem kX6_ofMeeting {l : Launch} {D : va_G} {k : Nat → ClassId} (h0 h1 : Nat) (z0 z1 z2 z3 z4 z5 z6 z7 z8 z9 z10 z11 z12 z13 z14 z15 z16 z17 z18 : Value) (v_page : Nat → Int32) (x1 : Int32) (x2 : Int32) (q : Int32) (hf : fX6_ofMeeting v_page x1 x2 = some q) : KMi l yX6_ofMeeting cX6_ofMeeting 3 (some .int) ({ frames := 0, cells := 0, slots := 0, locals := 0 } : Room) D k [.ref h0, .int x1, .int x2] (wX6_ofMeeting k h0 h1 z0 z1 z2 z3 z4 z5 z6 z7 z8 z9 z10 z11 z12 z13 z14 z15 z16 z17 z18 v_page) q (wX6_ofMeeting k h0 h1 z0 z1 z2 z3 z4 z5 z6 z7 z8 z9 z10 z11 z12 z13 z14 z15 z16 z17 z18 v_page) := by
  refine kent_i (by decide) (Nat.le_of_ble_eq_true rfl) ?_
  intro p e s m below meth c A Q ls C hP hD hS hl hret
  obtain ⟨hx, hb, -⟩ := id C
  have hl : lv_has ls 3 [(0, .ref h0), (1, .int x1), (2, .int x2)] := hl
  unfold fX6_ofMeeting at hf
  generalize ([.ref h0, .int x1, .int x2] : List Value).toArray = args at *
  refine lv_aload_n hx hb dX6_ofMeeting_0 rfl (lv_at hl 0 rfl) ?_
  refine kget C inX6 hP 0 rfl rfl 0 (by decide) mw_687 rfl dX6_ofMeeting_1 ?_
  refine lv_bipush (v := (31 : Int32)) hx hb dX6_ofMeeting_4 (by decide) ?_
  refine lv_iconst (v := (4 : Int32)) hx hb dX6_ofMeeting_6 (by decide) ?_
  refine lv_iload_n hx hb dX6_ofMeeting_7 rfl (lv_at hl 1 rfl) ?_
  refine lv_imul hx hb dX6_ofMeeting_8 ?_
  refine lv_iadd hx hb dX6_ofMeeting_9 ?_
  refine lv_iload_n hx hb dX6_ofMeeting_10 rfl (lv_at hl 2 rfl) ?_
  refine lv_iadd hx hb dX6_ofMeeting_11 ?_
  obtain ⟨hin, hf⟩ := gd_some hf
  refine kiald C hP 1 rfl hin dX6_ofMeeting_12 (j := (((31 : Int32) + ((4 : Int32) * x1)) + x2).toNatClampNeg) rfl ?_
  obtain rfl := Option.some.inj hf
  exact hret _ _ _ _ dX6_ofMeeting_13 hP hS
set_option maxHeartbeats 4000000 in
set_option maxRecDepth 100000 in
theorem kX6_isOn {l : Launch} {D : va_G} {k : Nat → ClassId} (h0 h1 : Nat) (z0 z1 z2 z3 z4 z5 z6 z7 z8 z9 z10 z11 z12 z13 z14 z15 z16 z17 z18 : Value) (v_page : Nat → Int32) (x1 : Int32) (x2 : Int32) (q : Int32) (hf : fX6_isOn v_page x1 x2 = some q) : KMi l yX6_isOn cX6_isOn 4 (some .boolean) ({ frames := 1, cells := 0, slots := 0, locals := 22 } : Room) D k [.ref h0, .int x1, .int x2] (wX6_isOn k h0 h1 z0 z1 z2 z3 z4 z5 z6 z7 z8 z9 z10 z11 z12 z13 z14 z15 z16 z17 z18 v_page) q (wX6_isOn k h0 h1 z0 z1 z2 z3 z4 z5 z6 z7 z8 z9 z10 z11 z12 z13 z14 z15 z16 z17 z18 v_page) := by
  refine kent_z (by decide) (Nat.le_of_ble_eq_true rfl) ?_
  intro p e s m below meth c A Q ls C hP hD hS hl hret
  obtain ⟨hx, hb, -⟩ := id C
  have hl : lv_has ls 4 [(0, .ref h0), (1, .int x1), (2, .int x2)] := hl
  unfold fX6_isOn at hf
  generalize ([.ref h0, .int x1, .int x2] : List Value).toArray = args at *
  refine lv_aload_n hx hb dX6_isOn_0 rfl (lv_at hl 0 rfl) ?_
  refine lv_iload_n hx hb dX6_isOn_1 rfl (lv_at hl 1 rfl) ?_
  refine lv_iconst (v := (0 : Int32)) hx hb dX6_isOn_2 (by decide) ?_
  obtain ⟨q3, hq3, hf⟩ := bd_some hf
  refine kcVi C (kX6_ofMeeting (l := l) (D := D) (k := k) h0 h1 z0 z1 z2 z3 z4 z5 z6 z7 z8 z9 z10 z11 z12 z13 z14 z15 z16 z17 z18 v_page x1 (0 : Int32) q3 hq3) mt_X6_ofMeeting mw_851 ⟨rfl, rfl, Nat.le_of_ble_eq_true rfl, Nat.le_of_ble_eq_true rfl⟩ hP hD hS 0 rfl rfl rfl [0, 1] rfl rfl [some 0, some 1] rfl rfl (w2 := (wX6_isOn k h0 h1 z0 z1 z2 z3 z4 z5 z6 z7 z8 z9 z10 z11 z12 z13 z14 z15 z16 z17 z18 v_page)) rfl rfl rfl hl.1 (rest := []) (Nat.le_of_ble_eq_true rfl) rfl dX6_isOn_3 ⟨Nat.zero_le _, Nat.zero_le _⟩ (fun H locs hP hD hS => ?_)
  refine lv_istore_n (lv' := [(3, .int q3), (0, .ref h0), (1, .int x1), (2, .int x2)]) hx hb dX6_isOn_6 rfl hl (by decide) rfl (fun ls hl => ?_)
  refine lv_iload_n hx hb dX6_isOn_7 rfl (lv_at hl 3 rfl) ?_
  refine lv_iload_n hx hb dX6_isOn_8 rfl (lv_at hl 0 rfl) ?_
  refine lv_icmp_eq (tgt := 39) hx hb dX6_isOn_9 (by decide) (fun hc => ?_) (fun hc => ?_)
  · rw [if_pos hc] at hf
    refine lv_iconst (v := (1 : Int32)) hx hb dX6_isOn_39 (by decide) ?_
    refine lv_goto (tgt := 44) hx hb dX6_isOn_40 (by decide) ?_
    obtain rfl := Option.some.inj hf
    exact hret _ _ _ _ dX6_isOn_44 (by decide) hP hS
  · rw [if_neg hc] at hf
    refine lv_aload_n hx hb dX6_isOn_12 rfl (lv_at hl 1 rfl) ?_
    refine kget C inX6 hP 0 rfl rfl 0 (by decide) mw_687 rfl dX6_isOn_13 ?_
    refine lv_iconst (v := (4 : Int32)) hx hb dX6_isOn_16 (by decide) ?_
    refine kiald C hP 1 rfl (by unfold vp_in; decide) dX6_isOn_17 (j := 4) (by decide) ?_
    refine lv_if_le (tgt := 43) hx hb dX6_isOn_18 (by decide) (fun hc => ?_) (fun hc => ?_)
    · rw [if_pos hc] at hf
      refine lv_iconst (v := (0 : Int32)) hx hb dX6_isOn_43 (by decide) ?_
      obtain rfl := Option.some.inj hf
      exact hret _ _ _ _ dX6_isOn_44 (by decide) hP hS
    · rw [if_neg hc] at hf
      refine lv_iload_n hx hb dX6_isOn_21 rfl (lv_at hl 3 rfl) ?_
      refine lv_iload_n hx hb dX6_isOn_22 rfl (lv_at hl 0 rfl) ?_
      refine lv_icmp_le (tgt := 43) hx hb dX6_isOn_23 (by decide) (fun hc => ?_) (fun hc => ?_)
      · rw [if_pos hc] at hf
        refine lv_iconst (v := (0 : Int32)) hx hb dX6_isOn_43 (by decide) ?_
        obtain rfl := Option.some.inj hf
        exact hret _ _ _ _ dX6_isOn_44 (by decide) hP hS
      · rw [if_neg hc] at hf
        refine lv_iload_n hx hb dX6_isOn_26 rfl (lv_at hl 3 rfl) ?_
        refine lv_iload_n hx hb dX6_isOn_27 rfl (lv_at hl 0 rfl) ?_
        refine lv_isub hx hb dX6_isOn_28 ?_
        refine lv_aload_n hx hb dX6_isOn_29 rfl (lv_at hl 1 rfl) ?_
        refine kget C inX6 hP 0 rfl rfl 0 (by decide) mw_687 rfl dX6_isOn_30 ?_
        refine lv_iconst (v := (4 : Int32)) hx hb dX6_isOn_33 (by decide) ?_
        refine kiald C hP 1 rfl (by unfold vp_in; decide) dX6_isOn_34 (j := 4) (by decide) ?_
        obtain ⟨hne, hf⟩ := dv_some hf
        refine lv_irem hx hb dX6_isOn_35 hne ?_
        refine lv_if_ne (tgt := 43) hx hb dX6_isOn_36 (by decide) (fun hc => ?_) (fun hc => ?_)
        · rw [if_neg hc] at hf
          refine lv_iconst (v := (0 : Int32)) hx hb dX6_isOn_43 (by decide) ?_
          obtain rfl := Option.some.inj hf
          exact hret _ _ _ _ dX6_isOn_44 (by decide) hP hS
        · rw [if_pos hc] at hf
          refine lv_iconst (v := (1 : Int32)) hx hb dX6_isOn_39 (by decide) ?_
          refine lv_goto (tgt := 44) hx hb dX6_isOn_40 (by decide) ?_
          obtain rfl := Option.some.inj hf
          exact hret _ _ _ _ dX6_isOn_44 (by decide) hP hS
set_option maxHeartbeats 4000000 in
set_option maxRecDepth 100000 in
theorem wX6_minute_24 {p : Program} {l : Launch} {e : Env} {s : State} {m : MethodId} {args : Array Value} {below : List Frame} {meth : Method} {c : Code} {A : Nat → Prop} {Q : State → Prop} {D : va_G} {k : Nat → ClassId} (C : Cx p s m args c cX6_minute 3 RX6 A D k) (h0 h1 h2 : Nat) (z0 z1 z2 z3 z4 z5 z6 z7 z8 z9 z10 z11 z12 z13 z14 z15 : Value) (v_left : Int32) (v_isRefused : Int32) (v_isLeft : Nat → Int32) (y1 : Int32) : ∀ (f : Nat) (v_page : Nat → Int32) (y2 : Int32) (ex : ((Nat → Int32))) (H : Heap) (locs : List Loc) (ls : Array Slot), fX6_minute_24 y1 f v_page y2 = some ex → va_P D vwCl (wX6_minute k h0 h1 h2 z0 z1 z2 z3 z4 z5 z6 z7 z8 z9 z10 z11 z12 z13 z14 z15 v_left v_isRefused v_page v_isLeft) H → va_D A (wX6_minute k h0 h1 h2 z0 z1 z2 z3 z4 z5 z6 z7 z8 z9 z10 z11 z12 z13 z14 z15 v_left v_isRefused v_page v_isLeft) → va_S A s.heap H locs → lv_has ls 3 [(0, .ref h0), (1, .int y1), (2, .int y2)] → (∀ (H : Heap) (locs : List Loc) (ls : Array Slot), va_P D vwCl (wX6_minute k h0 h1 h2 z0 z1 z2 z3 z4 z5 z6 z7 z8 z9 z10 z11 z12 z13 z14 z15 v_left v_isRefused ex v_isLeft) H → va_D A (wX6_minute k h0 h1 h2 z0 z1 z2 z3 z4 z5 z6 z7 z8 z9 z10 z11 z12 z13 z14 z15 v_left v_isRefused ex v_isLeft) → va_S A s.heap H locs → lv_has ls 3 [(0, .ref h0), (1, .int y1)] → W p l e ({ frames := 7, cells := 0, slots := 0, locals := 165 } : Room) s m args below meth c H locs 0 0 Q (F0 m 80 ls [])) → W p l e ({ frames := 7, cells := 0, slots := 0, locals := 165 } : Room) s m args below meth c H locs 0 0 Q (F0 m 24 ls []) := by
  obtain ⟨hx, hb, -⟩ := id C
  intro f
  induction f with
  | zero =>
    intro v_page y2 ex H locs ls hf hP hD hS hl hk
    cases hf
  | succ f ih =>
    intro v_page y2 ex H locs ls hf hP hD hS hl hk
    rw [fX6_minute_24] at hf
    refine lv_iload_n hx hb dX6_minute_24 rfl (lv_at hl 2 rfl) ?_
    refine lv_aload_n hx hb dX6_minute_25 rfl (lv_at hl 0 rfl) ?_
    refine kget C inX6 hP 0 rfl rfl 0 (by decide) mw_687 rfl dX6_minute_26 ?_
    refine lv_iconst (v := (0 : Int32)) hx hb dX6_minute_29 (by decide) ?_
    refine kiald C hP 1 rfl (by unfold vp_in; decide) dX6_minute_30 (j := 0) (by decide) ?_
    refine lv_icmp_ge (tgt := 80) hx hb dX6_minute_31 (by decide) (fun hc => ?_) (fun hc => ?_)
    · rw [if_pos hc] at hf
      obtain rfl := Option.some.inj hf
      exact hk _ _ _ hP hD hS (lv_sub hl [0, 1] rfl)
    · rw [if_neg hc] at hf
      refine lv_aload_n hx hb dX6_minute_34 rfl (lv_at hl 0 rfl) ?_
      refine lv_iload_n hx hb dX6_minute_35 rfl (lv_at hl 1 rfl) ?_
      obtain ⟨q36, hq36, hf⟩ := bd_some hf
      refine kcVi C (kX6_endOf (l := l) (D := D) (k := k) h0 h1 z0 z1 z2 z3 z4 z5 z6 z7 z8 z9 z10 z11 z12 z13 (.ref h2) (.int v_left) (.int v_isRefused) z14 z15 v_page y1 q36 hq36) mt_X6_endOf mw_909 ⟨rfl, rfl, Nat.le_of_ble_eq_true rfl, Nat.le_of_ble_eq_true rfl⟩ hP hD hS 0 rfl rfl rfl [0, 1] rfl rfl [some 0, some 1, none] rfl rfl (w2 := (wX6_minute k h0 h1 h2 z0 z1 z2 z3 z4 z5 z6 z7 z8 z9 z10 z11 z12 z13 z14 z15 v_left v_isRefused v_page v_isLeft)) rfl rfl rfl hl.1 (rest := []) (Nat.le_of_ble_eq_true rfl) rfl dX6_minute_36 ⟨Nat.zero_le _, Nat.zero_le _⟩ (fun H locs hP hD hS => ?_)
      refine lv_aload_n hx hb dX6_minute_39 rfl (lv_at hl 0 rfl) ?_
      refine kget C inX6 hP 0 rfl rfl 0 (by decide) mw_687 rfl dX6_minute_40 ?_
      refine lv_iconst (v := (3 : Int32)) hx hb dX6_minute_43 (by decide) ?_
      refine kiald C hP 1 rfl (by unfold vp_in; decide) dX6_minute_44 (j := 3) (by decide) ?_
      refine lv_icmp_ne (tgt := 74) hx hb dX6_minute_45 (by decide) (fun hc => ?_) (fun hc => ?_)
      · rw [if_neg hc] at hf
        refine lv_iinc (v := (y2 + (1 : Int32))) (lv' := [(2, .int (y2 + (1 : Int32))), (0, .ref h0), (1, .int y1)]) hx hb dX6_minute_74 hl (k := 2) rfl rfl (by decide) rfl (fun ls hl => ?_)
        refine lv_goto (tgt := 24) hx hb dX6_minute_77 (by decide) ?_
        exact ih v_page (y2 + (1 : Int32)) _ _ _ _ hf hP hD hS (lv_sub hl [1, 2, 0] rfl) hk
      · rw [if_pos hc] at hf
        refine lv_aload_n hx hb dX6_minute_48 rfl (lv_at hl 0 rfl) ?_
        refine lv_iload_n hx hb dX6_minute_49 rfl (lv_at hl 2 rfl) ?_
        refine lv_iload_n hx hb dX6_minute_50 rfl (lv_at hl 1 rfl) ?_
        obtain ⟨q51, hq51, hf⟩ := bd_some hf
        refine kcVi C (kX6_hasCopy (l := l) (D := D) (k := k) h0 h1 z0 z1 z2 z3 z4 z5 z6 z7 z8 z9 z10 z11 z12 z13 (.ref h2) (.int v_left) (.int v_isRefused) z14 z15 v_page y2 y1 q51 hq51) mt_X6_hasCopy mw_819 ⟨rfl, rfl, Nat.le_of_ble_eq_true rfl, Nat.le_of_ble_eq_true rfl⟩ hP hD hS 0 rfl rfl rfl [0, 1] rfl rfl [some 0, some 1, none] rfl rfl (w2 := (wX6_minute k h0 h1 h2 z0 z1 z2 z3 z4 z5 z6 z7 z8 z9 z10 z11 z12 z13 z14 z15 v_left v_isRefused v_page v_isLeft)) rfl rfl rfl hl.1 (rest := []) (Nat.le_of_ble_eq_true rfl) rfl dX6_minute_51 ⟨Nat.zero_le _, Nat.zero_le _⟩ (fun H locs hP hD hS => ?_)
        refine lv_if_eq (tgt := 74) hx hb dX6_minute_54 (by decide) (fun hc => ?_) (fun hc => ?_)
        · rw [if_pos hc] at hf
          refine lv_iinc (v := (y2 + (1 : Int32))) (lv' := [(2, .int (y2 + (1 : Int32))), (0, .ref h0), (1, .int y1)]) hx hb dX6_minute_74 hl (k := 2) rfl rfl (by decide) rfl (fun ls hl => ?_)
          refine lv_goto (tgt := 24) hx hb dX6_minute_77 (by decide) ?_
          exact ih v_page (y2 + (1 : Int32)) _ _ _ _ hf hP hD hS (lv_sub hl [1, 2, 0] rfl) hk
        · rw [if_neg hc] at hf
          refine lv_aload_n hx hb dX6_minute_57 rfl (lv_at hl 0 rfl) ?_
          refine lv_iload_n hx hb dX6_minute_58 rfl (lv_at hl 2 rfl) ?_
          refine lv_iload_n hx hb dX6_minute_59 rfl (lv_at hl 1 rfl) ?_
          obtain ⟨q60, hq60, hf⟩ := bd_some hf
          refine kcVv C (kX6_goes (l := l) (D := D) (k := k) h0 h1 z0 z1 z2 z3 z4 z5 z6 z7 z8 z9 z10 z11 z12 z13 (.ref h2) (.int v_left) (.int v_isRefused) z14 z15 v_page y2 y1 q60 hq60) mt_X6_goes mw_948 ⟨rfl, rfl, Nat.le_of_ble_eq_true rfl, Nat.le_of_ble_eq_true rfl⟩ hP hD hS 0 rfl rfl rfl [0, 1] rfl rfl [some 0, some 1, none] rfl rfl (w2 := (wX6_minute k h0 h1 h2 z0 z1 z2 z3 z4 z5 z6 z7 z8 z9 z10 z11 z12 z13 z14 z15 v_left v_isRefused q60 v_isLeft)) rfl rfl rfl hl.1 (rest := []) (Nat.le_of_ble_eq_true rfl) rfl dX6_minute_60 ⟨Nat.zero_le _, Nat.zero_le _⟩ (fun H locs hP hD hS => ?_)
          refine lv_aload_n hx hb dX6_minute_63 rfl (lv_at hl 0 rfl) ?_
          refine kget C inX6 hP 0 rfl rfl 0 (by decide) mw_687 rfl dX6_minute_64 ?_
          refine lv_bipush (v := (12 : Int32)) hx hb dX6_minute_67 (by decide) ?_
          refine lv_dup2_11 hx hb dX6_minute_69 rfl rfl ?_
          refine kiald C hP 1 rfl (by unfold vp_in; decide) dX6_minute_70 (j := 12) (by decide) ?_
          refine lv_iconst (v := (1 : Int32)) hx hb dX6_minute_71 (by decide) ?_
          refine lv_iadd hx hb dX6_minute_72 ?_
          obtain ⟨v_page_73, hn73, hf⟩ := nm_some hf
          refine kiast C hP hD hS 1 rfl (by unfold vp_in; decide) dX6_minute_73 (j := 12) (by decide) (g := v_page_73) hn73 (w2 := (wX6_minute k h0 h1 h2 z0 z1 z2 z3 z4 z5 z6 z7 z8 z9 z10 z11 z12 z13 z14 z15 v_left v_isRefused v_page_73 v_isLeft)) rfl (fun H locs hP hD hS => ?_)
          refine lv_iinc (v := (y2 + (1 : Int32))) (lv' := [(2, .int (y2 + (1 : Int32))), (0, .ref h0), (1, .int y1)]) hx hb dX6_minute_74 hl (k := 2) rfl rfl (by decide) rfl (fun ls hl => ?_)
          refine lv_goto (tgt := 24) hx hb dX6_minute_77 (by decide) ?_
          exact ih v_page_73 (y2 + (1 : Int32)) _ _ _ _ hf hP hD hS (lv_sub hl [1, 2, 0] rfl) hk
set_option maxHeartbeats 4000000 in
set_option maxRecDepth 100000 in
theorem wX6_minute_12 {p : Program} {l : Launch} {e : Env} {s : State} {m : MethodId} {args : Array Value} {below : List Frame} {meth : Method} {c : Code} {A : Nat → Prop} {Q : State → Prop} {D : va_G} {k : Nat → ClassId} (C : Cx p s m args c cX6_minute 3 RX6 A D k) (h0 h1 h2 : Nat) (z0 z1 z2 z3 z4 z5 z6 z7 z8 z9 z10 z11 z12 z13 z14 z15 : Value) (v_left : Int32) (v_isRefused : Int32) (v_isLeft : Nat → Int32) : ∀ (f : Nat) (v_page : Nat → Int32) (y1 : Int32) (ex : ((Nat → Int32))) (H : Heap) (locs : List Loc) (ls : Array Slot), fX6_minute_12 f v_page y1 = some ex → va_P D vwCl (wX6_minute k h0 h1 h2 z0 z1 z2 z3 z4 z5 z6 z7 z8 z9 z10 z11 z12 z13 z14 z15 v_left v_isRefused v_page v_isLeft) H → va_D A (wX6_minute k h0 h1 h2 z0 z1 z2 z3 z4 z5 z6 z7 z8 z9 z10 z11 z12 z13 z14 z15 v_left v_isRefused v_page v_isLeft) → va_S A s.heap H locs → lv_has ls 3 [(0, .ref h0), (1, .int y1)] → (∀ (H : Heap) (locs : List Loc) (ls : Array Slot), va_P D vwCl (wX6_minute k h0 h1 h2 z0 z1 z2 z3 z4 z5 z6 z7 z8 z9 z10 z11 z12 z13 z14 z15 v_left v_isRefused ex v_isLeft) H → va_D A (wX6_minute k h0 h1 h2 z0 z1 z2 z3 z4 z5 z6 z7 z8 z9 z10 z11 z12 z13 z14 z15 v_left v_isRefused ex v_isLeft) → va_S A s.heap H locs → lv_has ls 3 [(0, .ref h0)] → W p l e ({ frames := 7, cells := 0, slots := 0, locals := 165 } : Room) s m args below meth c H locs 0 0 Q (F0 m 86 ls [])) → W p l e ({ frames := 7, cells := 0, slots := 0, locals := 165 } : Room) s m args below meth c H locs 0 0 Q (F0 m 12 ls []) := by
  obtain ⟨hx, hb, -⟩ := id C
  intro f
  induction f with
  | zero =>
    intro v_page y1 ex H locs ls hf hP hD hS hl hk
    cases hf
  | succ f ih =>
    intro v_page y1 ex H locs ls hf hP hD hS hl hk
    rw [fX6_minute_12] at hf
    refine lv_iload_n hx hb dX6_minute_12 rfl (lv_at hl 1 rfl) ?_
    refine lv_aload_n hx hb dX6_minute_13 rfl (lv_at hl 0 rfl) ?_
    refine kget C inX6 hP 0 rfl rfl 0 (by decide) mw_687 rfl dX6_minute_14 ?_
    refine lv_iconst (v := (2 : Int32)) hx hb dX6_minute_17 (by decide) ?_
    refine kiald C hP 1 rfl (by unfold vp_in; decide) dX6_minute_18 (j := 2) (by decide) ?_
    refine lv_icmp_ge (tgt := 86) hx hb dX6_minute_19 (by decide) (fun hc => ?_) (fun hc => ?_)
    · rw [if_pos hc] at hf
      obtain rfl := Option.some.inj hf
      exact hk _ _ _ hP hD hS (lv_sub hl [0] rfl)
    · rw [if_neg hc] at hf
      refine lv_iconst (v := (0 : Int32)) hx hb dX6_minute_22 (by decide) ?_
      refine lv_istore_n (lv' := [(2, .int (0 : Int32)), (0, .ref h0), (1, .int y1)]) hx hb dX6_minute_23 rfl hl (by decide) rfl (fun ls hl => ?_)
      obtain ⟨ex24, hv, hf⟩ := bd_some hf
      refine wX6_minute_24 C h0 h1 h2 z0 z1 z2 z3 z4 z5 z6 z7 z8 z9 z10 z11 z12 z13 z14 z15 v_left v_isRefused v_isLeft y1 FU v_page (0 : Int32) ex24 _ _ _ hv hP hD hS (lv_sub hl [1, 2, 0] rfl) (fun H locs ls hP hD hS hl => ?_)
      refine lv_iinc (v := (y1 + (1 : Int32))) (lv' := [(1, .int (y1 + (1 : Int32))), (0, .ref h0)]) hx hb dX6_minute_80 hl (k := 1) rfl rfl (by decide) rfl (fun ls hl => ?_)
      refine lv_goto (tgt := 12) hx hb dX6_minute_83 (by decide) ?_
      exact ih ex24 (y1 + (1 : Int32)) _ _ _ _ hf hP hD hS (lv_sub hl [1, 0] rfl) hk
set_option maxHeartbeats 4000000 in
set_option maxRecDepth 100000 in
theorem wX6_minute_88 {p : Program} {l : Launch} {e : Env} {s : State} {m : MethodId} {args : Array Value} {below : List Frame} {meth : Method} {c : Code} {A : Nat → Prop} {Q : State → Prop} {D : va_G} {k : Nat → ClassId} (C : Cx p s m args c cX6_minute 3 RX6 A D k) (h0 h1 h2 : Nat) (z0 z1 z2 z3 z4 z5 z6 z7 z8 z9 z10 z11 z12 z13 z14 z15 : Value) (v_left : Int32) (v_isRefused : Int32) (v_isLeft : Nat → Int32) : ∀ (f : Nat) (v_page : Nat → Int32) (y1 : Int32) (ex : ((Nat → Int32))) (H : Heap) (locs : List Loc) (ls : Array Slot), fX6_minute_88 f v_page y1 = some ex → va_P D vwCl (wX6_minute k h0 h1 h2 z0 z1 z2 z3 z4 z5 z6 z7 z8 z9 z10 z11 z12 z13 z14 z15 v_left v_isRefused v_page v_isLeft) H → va_D A (wX6_minute k h0 h1 h2 z0 z1 z2 z3 z4 z5 z6 z7 z8 z9 z10 z11 z12 z13 z14 z15 v_left v_isRefused v_page v_isLeft) → va_S A s.heap H locs → lv_has ls 3 [(0, .ref h0), (1, .int y1)] → (∀ (H : Heap) (locs : List Loc) (ls : Array Slot), va_P D vwCl (wX6_minute k h0 h1 h2 z0 z1 z2 z3 z4 z5 z6 z7 z8 z9 z10 z11 z12 z13 z14 z15 v_left v_isRefused ex v_isLeft) H → va_D A (wX6_minute k h0 h1 h2 z0 z1 z2 z3 z4 z5 z6 z7 z8 z9 z10 z11 z12 z13 z14 z15 v_left v_isRefused ex v_isLeft) → va_S A s.heap H locs → lv_has ls 3 [(0, .ref h0)] → W p l e ({ frames := 7, cells := 0, slots := 0, locals := 165 } : Room) s m args below meth c H locs 0 0 Q (F0 m 124 ls [])) → W p l e ({ frames := 7, cells := 0, slots := 0, locals := 165 } : Room) s m args below meth c H locs 0 0 Q (F0 m 88 ls []) := by
  obtain ⟨hx, hb, -⟩ := id C
  intro f
  induction f with
  | zero =>
    intro v_page y1 ex H locs ls hf hP hD hS hl hk
    cases hf
  | succ f ih =>
    intro v_page y1 ex H locs ls hf hP hD hS hl hk
    rw [fX6_minute_88] at hf
    refine lv_iload_n hx hb dX6_minute_88 rfl (lv_at hl 1 rfl) ?_
    refine lv_aload_n hx hb dX6_minute_89 rfl (lv_at hl 0 rfl) ?_
    refine kget C inX6 hP 0 rfl rfl 0 (by decide) mw_687 rfl dX6_minute_90 ?_
    refine lv_iconst (v := (2 : Int32)) hx hb dX6_minute_93 (by decide) ?_
    refine kiald C hP 1 rfl (by unfold vp_in; decide) dX6_minute_94 (j := 2) (by decide) ?_
    refine lv_icmp_ge (tgt := 124) hx hb dX6_minute_95 (by decide) (fun hc => ?_) (fun hc => ?_)
    · rw [if_pos hc] at hf
      obtain rfl := Option.some.inj hf
      exact hk _ _ _ hP hD hS (lv_sub hl [0] rfl)
    · rw [if_neg hc] at hf
      refine lv_aload_n hx hb dX6_minute_98 rfl (lv_at hl 0 rfl) ?_
      refine lv_iload_n hx hb dX6_minute_99 rfl (lv_at hl 1 rfl) ?_
      refine lv_iconst (v := (0 : Int32)) hx hb dX6_minute_100 (by decide) ?_
      obtain ⟨q101, hq101, hf⟩ := bd_some hf
      refine kcVi C (kX6_ofLetter (l := l) (D := D) (k := k) h0 h1 z0 z1 z2 z3 z4 z5 z6 z7 z8 z9 z10 z11 z12 z13 (.ref h2) (.int v_left) (.int v_isRefused) z14 z15 v_page y1 (0 : Int32) q101 hq101) mt_X6_ofLetter mw_839 ⟨rfl, rfl, Nat.le_of_ble_eq_true rfl, Nat.le_of_ble_eq_true rfl⟩ hP hD hS 0 rfl rfl rfl [0, 1] rfl rfl [some 0, some 1, none] rfl rfl (w2 := (wX6_minute k h0 h1 h2 z0 z1 z2 z3 z4 z5 z6 z7 z8 z9 z10 z11 z12 z13 z14 z15 v_left v_isRefused v_page v_isLeft)) rfl rfl rfl hl.1 (rest := []) (Nat.le_of_ble_eq_true rfl) rfl dX6_minute_101 ⟨Nat.zero_le _, Nat.zero_le _⟩ (fun H locs hP hD hS => ?_)
      refine lv_aload_n hx hb dX6_minute_104 rfl (lv_at hl 0 rfl) ?_
      refine kget C inX6 hP 0 rfl rfl 0 (by decide) mw_687 rfl dX6_minute_105 ?_
      refine lv_iconst (v := (3 : Int32)) hx hb dX6_minute_108 (by decide) ?_
      refine kiald C hP 1 rfl (by unfold vp_in; decide) dX6_minute_109 (j := 3) (by decide) ?_
      refine lv_icmp_ne (tgt := 118) hx hb dX6_minute_110 (by decide) (fun hc => ?_) (fun hc => ?_)
      · rw [if_neg hc] at hf
        refine lv_iinc (v := (y1 + (1 : Int32))) (lv' := [(1, .int (y1 + (1 : Int32))), (0, .ref h0)]) hx hb dX6_minute_118 hl (k := 1) rfl rfl (by decide) rfl (fun ls hl => ?_)
        refine lv_goto (tgt := 88) hx hb dX6_minute_121 (by decide) ?_
        exact ih v_page (y1 + (1 : Int32)) _ _ _ _ hf hP hD hS (lv_sub hl [1, 0] rfl) hk
      · rw [if_pos hc] at hf
        refine lv_aload_n hx hb dX6_minute_113 rfl (lv_at hl 0 rfl) ?_
        refine lv_iload_n hx hb dX6_minute_114 rfl (lv_at hl 1 rfl) ?_
        obtain ⟨q115, hq115, hf⟩ := bd_some hf
        refine kcVv C (kX6_isBorn (l := l) (D := D) (k := k) h0 h1 z0 z1 z2 z3 z4 z5 z6 z7 z8 z9 z10 z11 z12 z13 (.ref h2) (.int v_left) (.int v_isRefused) z14 z15 v_page y1 q115 hq115) mt_X6_isBorn mw_952 ⟨rfl, rfl, Nat.le_of_ble_eq_true rfl, Nat.le_of_ble_eq_true rfl⟩ hP hD hS 0 rfl rfl rfl [0, 1] rfl rfl [some 0, some 1, none] rfl rfl (w2 := (wX6_minute k h0 h1 h2 z0 z1 z2 z3 z4 z5 z6 z7 z8 z9 z10 z11 z12 z13 z14 z15 v_left v_isRefused q115 v_isLeft)) rfl rfl rfl hl.1 (rest := []) (Nat.le_of_ble_eq_true rfl) rfl dX6_minute_115 ⟨Nat.zero_le _, Nat.zero_le _⟩ (fun H locs hP hD hS => ?_)
        refine lv_iinc (v := (y1 + (1 : Int32))) (lv' := [(1, .int (y1 + (1 : Int32))), (0, .ref h0)]) hx hb dX6_minute_118 hl (k := 1) rfl rfl (by decide) rfl (fun ls hl => ?_)
        refine lv_goto (tgt := 88) hx hb dX6_minute_121 (by decide) ?_
        exact ih q115 (y1 + (1 : Int32)) _ _ _ _ hf hP hD hS (lv_sub hl [1, 0] rfl) hk
set_option maxHeartbeats 4000000 in
set_option maxRecDepth 100000 in
theorem wX6_minute_126 {p : Program} {l : Launch} {e : Env} {s : State} {m : MethodId} {args : Array Value} {below : List Frame} {meth : Method} {c : Code} {A : Nat → Prop} {Q : State → Prop} {D : va_G} {k : Nat → ClassId} (C : Cx p s m args c cX6_minute 3 RX6 A D k) (h0 h1 h2 : Nat) (z0 z1 z2 z3 z4 z5 z6 z7 z8 z9 z10 z11 z12 z13 z14 z15 : Value) : ∀ (f : Nat) (v_left : Int32) (v_isRefused : Int32) (v_page : Nat → Int32) (v_isLeft : Nat → Int32) (y1 : Int32) (ex : (Int32 × Int32 × (Nat → Int32) × (Nat → Int32))) (H : Heap) (locs : List Loc) (ls : Array Slot), fX6_minute_126 f v_left v_isRefused v_page v_isLeft y1 = some ex → va_P D vwCl (wX6_minute k h0 h1 h2 z0 z1 z2 z3 z4 z5 z6 z7 z8 z9 z10 z11 z12 z13 z14 z15 v_left v_isRefused v_page v_isLeft) H → va_D A (wX6_minute k h0 h1 h2 z0 z1 z2 z3 z4 z5 z6 z7 z8 z9 z10 z11 z12 z13 z14 z15 v_left v_isRefused v_page v_isLeft) → va_S A s.heap H locs → lv_has ls 3 [(0, .ref h0), (1, .int y1)] → (∀ (H : Heap) (locs : List Loc) (ls : Array Slot), va_P D vwCl (wX6_minute k h0 h1 h2 z0 z1 z2 z3 z4 z5 z6 z7 z8 z9 z10 z11 z12 z13 z14 z15 ex.1 ex.2.1 ex.2.2.1 ex.2.2.2) H → va_D A (wX6_minute k h0 h1 h2 z0 z1 z2 z3 z4 z5 z6 z7 z8 z9 z10 z11 z12 z13 z14 z15 ex.1 ex.2.1 ex.2.2.1 ex.2.2.2) → va_S A s.heap H locs → lv_has ls 3 [] → W p l e ({ frames := 7, cells := 0, slots := 0, locals := 165 } : Room) s m args below meth c H locs 0 0 Q (F0 m 178 ls [])) → W p l e ({ frames := 7, cells := 0, slots := 0, locals := 165 } : Room) s m args below meth c H locs 0 0 Q (F0 m 126 ls []) := by
  obtain ⟨hx, hb, -⟩ := id C
  intro f
  induction f with
  | zero =>
    intro v_left v_isRefused v_page v_isLeft y1 ex H locs ls hf hP hD hS hl hk
    cases hf
  | succ f ih =>
    intro v_left v_isRefused v_page v_isLeft y1 ex H locs ls hf hP hD hS hl hk
    rw [fX6_minute_126] at hf
    refine lv_iload_n hx hb dX6_minute_126 rfl (lv_at hl 1 rfl) ?_
    refine lv_aload_n hx hb dX6_minute_127 rfl (lv_at hl 0 rfl) ?_
    refine kget C inX6 hP 0 rfl rfl 0 (by decide) mw_687 rfl dX6_minute_128 ?_
    refine lv_iconst (v := (1 : Int32)) hx hb dX6_minute_131 (by decide) ?_
    refine kiald C hP 1 rfl (by unfold vp_in; decide) dX6_minute_132 (j := 1) (by decide) ?_
    refine lv_icmp_ge (tgt := 178) hx hb dX6_minute_133 (by decide) (fun hc => ?_) (fun hc => ?_)
    · rw [if_pos hc] at hf
      obtain rfl := Option.some.inj hf
      exact hk _ _ _ hP hD hS (lv_sub hl [] rfl)
    · rw [if_neg hc] at hf
      refine lv_aload_n hx hb dX6_minute_136 rfl (lv_at hl 0 rfl) ?_
      refine lv_iload_n hx hb dX6_minute_137 rfl (lv_at hl 1 rfl) ?_
      refine lv_aload_n hx hb dX6_minute_138 rfl (lv_at hl 0 rfl) ?_
      refine kget C inX6 hP 0 rfl rfl 0 (by decide) mw_687 rfl dX6_minute_139 ?_
      refine lv_iconst (v := (3 : Int32)) hx hb dX6_minute_142 (by decide) ?_
      refine kiald C hP 1 rfl (by unfold vp_in; decide) dX6_minute_143 (j := 3) (by decide) ?_
      obtain ⟨q144, hq144, hf⟩ := bd_some hf
      refine kcVi C (kX6_isOn (l := l) (D := D) (k := k) h0 h1 z0 z1 z2 z3 z4 z5 z6 z7 z8 z9 z10 z11 z12 z13 (.ref h2) (.int v_left) (.int v_isRefused) z14 z15 v_page y1 (v_page 3) q144 hq144) mt_X6_isOn mw_913 ⟨rfl, rfl, Nat.le_of_ble_eq_true rfl, Nat.le_of_ble_eq_true rfl⟩ hP hD hS 0 rfl rfl rfl [0, 1] rfl rfl [some 0, some 1, none] rfl rfl (w2 := (wX6_minute k h0 h1 h2 z0 z1 z2 z3 z4 z5 z6 z7 z8 z9 z10 z11 z12 z13 z14 z15 v_left v_isRefused v_page v_isLeft)) rfl rfl rfl hl.1 (rest := []) (Nat.le_of_ble_eq_true rfl) rfl dX6_minute_144 ⟨Nat.zero_le _, Nat.zero_le _⟩ (fun H locs hP hD hS => ?_)
      refine lv_if_eq (tgt := 172) hx hb dX6_minute_147 (by decide) (fun hc => ?_) (fun hc => ?_)
      · rw [if_pos hc] at hf
        refine lv_iinc (v := (y1 + (1 : Int32))) (lv' := [(1, .int (y1 + (1 : Int32))), (0, .ref h0)]) hx hb dX6_minute_172 hl (k := 1) rfl rfl (by decide) rfl (fun ls hl => ?_)
        refine lv_goto (tgt := 126) hx hb dX6_minute_175 (by decide) ?_
        exact ih v_left v_isRefused v_page v_isLeft (y1 + (1 : Int32)) _ _ _ _ hf hP hD hS (lv_sub hl [1, 0] rfl) hk
      · rw [if_neg hc] at hf
        refine lv_aload_n hx hb dX6_minute_150 rfl (lv_at hl 0 rfl) ?_
        refine lv_aload_n hx hb dX6_minute_151 rfl (lv_at hl 0 rfl) ?_
        refine lv_iload_n hx hb dX6_minute_152 rfl (lv_at hl 1 rfl) ?_
        refine lv_iconst (v := (1 : Int32)) hx hb dX6_minute_153 (by decide) ?_
        obtain ⟨q154, hq154, hf⟩ := bd_some hf
        refine kcVi C (kX6_ofMeeting (l := l) (D := D) (k := k) h0 h1 z0 z1 z2 z3 z4 z5 z6 z7 z8 z9 z10 z11 z12 z13 (.ref h2) (.int v_left) (.int v_isRefused) z14 z15 v_page y1 (1 : Int32) q154 hq154) mt_X6_ofMeeting mw_851 ⟨rfl, rfl, Nat.le_of_ble_eq_true rfl, Nat.le_of_ble_eq_true rfl⟩ hP hD hS 0 rfl rfl rfl [0, 1] rfl rfl [some 0, some 1, none] rfl rfl (w2 := (wX6_minute k h0 h1 h2 z0 z1 z2 z3 z4 z5 z6 z7 z8 z9 z10 z11 z12 z13 z14 z15 v_left v_isRefused v_page v_isLeft)) rfl rfl rfl hl.1 (rest := [.ref h0]) (Nat.le_of_ble_eq_true rfl) rfl dX6_minute_154 ⟨Nat.zero_le _, Nat.zero_le _⟩ (fun H locs hP hD hS => ?_)
        refine lv_aload_n hx hb dX6_minute_157 rfl (lv_at hl 0 rfl) ?_
        refine lv_iload_n hx hb dX6_minute_158 rfl (lv_at hl 1 rfl) ?_
        refine lv_iconst (v := (2 : Int32)) hx hb dX6_minute_159 (by decide) ?_
        obtain ⟨q160, hq160, hf⟩ := bd_some hf
        refine kcVi C (kX6_ofMeeting (l := l) (D := D) (k := k) h0 h1 z0 z1 z2 z3 z4 z5 z6 z7 z8 z9 z10 z11 z12 z13 (.ref h2) (.int v_left) (.int v_isRefused) z14 z15 v_page y1 (2 : Int32) q160 hq160) mt_X6_ofMeeting mw_851 ⟨rfl, rfl, Nat.le_of_ble_eq_true rfl, Nat.le_of_ble_eq_true rfl⟩ hP hD hS 0 rfl rfl rfl [0, 1] rfl rfl [some 0, some 1, none] rfl rfl (w2 := (wX6_minute k h0 h1 h2 z0 z1 z2 z3 z4 z5 z6 z7 z8 z9 z10 z11 z12 z13 z14 z15 v_left v_isRefused v_page v_isLeft)) rfl rfl rfl hl.1 (rest := [.int q154, .ref h0]) (Nat.le_of_ble_eq_true rfl) rfl dX6_minute_160 ⟨Nat.zero_le _, Nat.zero_le _⟩ (fun H locs hP hD hS => ?_)
        refine lv_aload_n hx hb dX6_minute_163 rfl (lv_at hl 0 rfl) ?_
        refine lv_iload_n hx hb dX6_minute_164 rfl (lv_at hl 1 rfl) ?_
        refine lv_iconst (v := (3 : Int32)) hx hb dX6_minute_165 (by decide) ?_
        obtain ⟨q166, hq166, hf⟩ := bd_some hf
        refine kcVi C (kX6_ofMeeting (l := l) (D := D) (k := k) h0 h1 z0 z1 z2 z3 z4 z5 z6 z7 z8 z9 z10 z11 z12 z13 (.ref h2) (.int v_left) (.int v_isRefused) z14 z15 v_page y1 (3 : Int32) q166 hq166) mt_X6_ofMeeting mw_851 ⟨rfl, rfl, Nat.le_of_ble_eq_true rfl, Nat.le_of_ble_eq_true rfl⟩ hP hD hS 0 rfl rfl rfl [0, 1] rfl rfl [some 0, some 1, none] rfl rfl (w2 := (wX6_minute k h0 h1 h2 z0 z1 z2 z3 z4 z5 z6 z7 z8 z9 z10 z11 z12 z13 z14 z15 v_left v_isRefused v_page v_isLeft)) rfl rfl rfl hl.1 (rest := [.int q160, .int q154, .ref h0]) (Nat.le_of_ble_eq_true rfl) rfl dX6_minute_166 ⟨Nat.zero_le _, Nat.zero_le _⟩ (fun H locs hP hD hS => ?_)
        obtain ⟨q169, hq169, hf⟩ := bd_some hf
        refine kcVv C (kX6_meets (l := l) (D := D) (k := k) h0 h1 h2 z0 z1 z2 z3 z4 z5 z6 z7 z8 z9 z10 z11 z12 z13 z14 z15 v_left v_isRefused v_page v_isLeft q154 q160 q166 q169 hq169) mt_X6_meets mw_972 ⟨rfl, rfl, Nat.le_of_ble_eq_true rfl, Nat.le_of_ble_eq_true rfl⟩ hP hD hS 0 rfl rfl rfl [0, 1, 2] rfl rfl [some 0, some 1, some 2] rfl rfl (w2 := (wX6_minute k h0 h1 h2 z0 z1 z2 z3 z4 z5 z6 z7 z8 z9 z10 z11 z12 z13 z14 z15 q169.1 q169.2.1 q169.2.2.1 q169.2.2.2)) rfl rfl rfl hl.1 (rest := []) (Nat.le_of_ble_eq_true rfl) rfl dX6_minute_169 ⟨Nat.zero_le _, Nat.zero_le _⟩ (fun H locs hP hD hS => ?_)
        refine lv_iinc (v := (y1 + (1 : Int32))) (lv' := [(1, .int (y1 + (1 : Int32))), (0, .ref h0)]) hx hb dX6_minute_172 hl (k := 1) rfl rfl (by decide) rfl (fun ls hl => ?_)
        refine lv_goto (tgt := 126) hx hb dX6_minute_175 (by decide) ?_
        exact ih q169.1 q169.2.1 q169.2.2.1 q169.2.2.2 (y1 + (1 : Int32)) _ _ _ _ hf hP hD hS (lv_sub hl [1, 0] rfl) hk
set_option maxHeartbeats 4000000 in
set_option maxRecDepth 100000 in
theorem kX6_minute {l : Launch} {D : va_G} {k : Nat → ClassId} (h0 h1 h2 : Nat) (z0 z1 z2 z3 z4 z5 z6 z7 z8 z9 z10 z11 z12 z13 z14 z15 : Value) (v_left : Int32) (v_isRefused : Int32) (v_page : Nat → Int32) (v_isLeft : Nat → Int32) (q : Int32 × Int32 × (Nat → Int32) × (Nat → Int32)) (hf : fX6_minute v_left v_isRefused v_page v_isLeft = some q) : KMv l yX6_minute cX6_minute 3 ({ frames := 7, cells := 0, slots := 0, locals := 165 } : Room) D k [.ref h0] (wX6_minute k h0 h1 h2 z0 z1 z2 z3 z4 z5 z6 z7 z8 z9 z10 z11 z12 z13 z14 z15 v_left v_isRefused v_page v_isLeft) (wX6_minute k h0 h1 h2 z0 z1 z2 z3 z4 z5 z6 z7 z8 z9 z10 z11 z12 z13 z14 z15 q.1 q.2.1 q.2.2.1 q.2.2.2) := by
  refine kent_v (by decide) (Nat.le_of_ble_eq_true rfl) ?_
  intro p e s m below meth c A Q ls C hP hD hS hl hret
  obtain ⟨hx, hb, -⟩ := id C
  have hl : lv_has ls 3 [(0, .ref h0)] := hl
  unfold fX6_minute at hf
  generalize ([.ref h0] : List Value).toArray = args at *
  refine lv_aload_n hx hb dX6_minute_0 rfl (lv_at hl 0 rfl) ?_
  refine kget C inX6 hP 0 rfl rfl 0 (by decide) mw_687 rfl dX6_minute_1 ?_
  refine lv_iconst (v := (3 : Int32)) hx hb dX6_minute_4 (by decide) ?_
  refine lv_dup2_11 hx hb dX6_minute_5 rfl rfl ?_
  refine kiald C hP 1 rfl (by unfold vp_in; decide) dX6_minute_6 (j := 3) (by decide) ?_
  refine lv_iconst (v := (1 : Int32)) hx hb dX6_minute_7 (by decide) ?_
  refine lv_iadd hx hb dX6_minute_8 ?_
  obtain ⟨v_page_9, hn9, hf⟩ := nm_some hf
  refine kiast C hP hD hS 1 rfl (by unfold vp_in; decide) dX6_minute_9 (j := 3) (by decide) (g := v_page_9) hn9 (w2 := (wX6_minute k h0 h1 h2 z0 z1 z2 z3 z4 z5 z6 z7 z8 z9 z10 z11 z12 z13 z14 z15 v_left v_isRefused v_page_9 v_isLeft)) rfl (fun H locs hP hD hS => ?_)
  refine lv_iconst (v := (0 : Int32)) hx hb dX6_minute_10 (by decide) ?_
  refine lv_istore_n (lv' := [(1, .int (0 : Int32)), (0, .ref h0)]) hx hb dX6_minute_11 rfl hl (by decide) rfl (fun ls hl => ?_)
  obtain ⟨ex12, hv, hf⟩ := bd_some hf
  refine wX6_minute_12 C h0 h1 h2 z0 z1 z2 z3 z4 z5 z6 z7 z8 z9 z10 z11 z12 z13 z14 z15 v_left v_isRefused v_isLeft FU v_page_9 (0 : Int32) ex12 _ _ _ hv hP hD hS (lv_sub hl [1, 0] rfl) (fun H locs ls hP hD hS hl => ?_)
  refine lv_iconst (v := (0 : Int32)) hx hb dX6_minute_86 (by decide) ?_
  refine lv_istore_n (lv' := [(1, .int (0 : Int32)), (0, .ref h0)]) hx hb dX6_minute_87 rfl hl (by decide) rfl (fun ls hl => ?_)
  obtain ⟨ex88, hv, hf⟩ := bd_some hf
  refine wX6_minute_88 C h0 h1 h2 z0 z1 z2 z3 z4 z5 z6 z7 z8 z9 z10 z11 z12 z13 z14 z15 v_left v_isRefused v_isLeft FU ex12 (0 : Int32) ex88 _ _ _ hv hP hD hS (lv_sub hl [1, 0] rfl) (fun H locs ls hP hD hS hl => ?_)
  refine lv_iconst (v := (0 : Int32)) hx hb dX6_minute_124 (by decide) ?_
  refine lv_istore_n (lv' := [(1, .int (0 : Int32)), (0, .ref h0)]) hx hb dX6_minute_125 rfl hl (by decide) rfl (fun ls hl => ?_)
  obtain ⟨ex126, hv, hf⟩ := bd_some hf
  refine wX6_minute_126 C h0 h1 h2 z0 z1 z2 z3 z4 z5 z6 z7 z8 z9 z10 z11 z12 z13 z14 z15 FU v_left v_isRefused ex88 v_isLeft (0 : Int32) ex126 _ _ _ hv hP hD hS (lv_sub hl [1, 0] rfl) (fun H locs ls hP hD hS hl => ?_)
  obtain rfl := Option.some.inj hf
  exact hret _ _ _ _ dX6_minute_178 hP hS
set_option maxHeartbeats 4000000 in
set_option maxRecDepth 100000 in
theorem wX6_copiesOf_19 {p : Program} {l : Launch} {e : Env} {s : State} {m : MethodId} {args : Array Value} {below : List Frame} {meth : Method} {c : Code} {A : Nat → Prop} {Q : State → Prop} {D : va_G} {k : Nat → ClassId} (C : Cx p s m args c cX6_copiesOf 6 RX6 A D k) (h0 h1 : Nat) (z0 z1 z2 z3 z4 z5 z6 z7 z8 z9 z10 z11 z12 z13 z14 z15 z16 z17 z18 : Value) (v_page : Nat → Int32) (y1 : Int32) (y2 : Int32) (y4 : Int32) : ∀ (f : Nat) (y3 : Int32) (y5 : Int32) (ex : (Int32)) (H : Heap) (locs : List Loc) (ls : Array Slot), fX6_copiesOf_19 v_page y1 y2 y4 f y3 y5 = some ex → va_P D vwCl (wX6_copiesOf k h0 h1 z0 z1 z2 z3 z4 z5 z6 z7 z8 z9 z10 z11 z12 z13 z14 z15 z16 z17 z18 v_page) H → va_D A (wX6_copiesOf k h0 h1 z0 z1 z2 z3 z4 z5 z6 z7 z8 z9 z10 z11 z12 z13 z14 z15 z16 z17 z18 v_page) → va_S A s.heap H locs → lv_has ls 6 [(0, .ref h0), (1, .int y1), (2, .int y2), (3, .int y3), (4, .int y4), (5, .int y5)] → (∀ (H : Heap) (locs : List Loc) (ls : Array Slot), va_P D vwCl (wX6_copiesOf k h0 h1 z0 z1 z2 z3 z4 z5 z6 z7 z8 z9 z10 z11 z12 z13 z14 z15 z16 z17 z18 v_page) H → va_D A (wX6_copiesOf k h0 h1 z0 z1 z2 z3 z4 z5 z6 z7 z8 z9 z10 z11 z12 z13 z14 z15 z16 z17 z18 v_page) → va_S A s.heap H locs → lv_has ls 6 [(0, .ref h0), (1, .int y1), (2, .int y2), (3, .int ex), (4, .int y4)] → W p l e ({ frames := 2, cells := 0, slots := 0, locals := 44 } : Room) s m args below meth c H locs 0 0 Q (F0 m 79 ls [])) → W p l e ({ frames := 2, cells := 0, slots := 0, locals := 44 } : Room) s m args below meth c H locs 0 0 Q (F0 m 19 ls []) := by
  obtain ⟨hx, hb, -⟩ := id C
  intro f
  induction f with
  | zero =>
    intro y3 y5 ex H locs ls hf hP hD hS hl hk
    cases hf
  | succ f ih =>
    intro y3 y5 ex H locs ls hf hP hD hS hl hk
    rw [fX6_copiesOf_19] at hf
    refine lv_iload hx hb dX6_copiesOf_19 (lv_at hl 5 rfl) ?_
    refine lv_aload_n hx hb dX6_copiesOf_21 rfl (lv_at hl 0 rfl) ?_
    refine kget C inX6 hP 0 rfl rfl 0 (by decide) mw_687 rfl dX6_copiesOf_22 ?_
    refine lv_iconst (v := (2 : Int32)) hx hb dX6_copiesOf_25 (by decide) ?_
    refine kiald C hP 1 rfl (by unfold vp_in; decide) dX6_copiesOf_26 (j := 2) (by decide) ?_
    refine lv_icmp_ge (tgt := 79) hx hb dX6_copiesOf_27 (by decide) (fun hc => ?_) (fun hc => ?_)
    · rw [if_pos hc] at hf
      obtain rfl := Option.some.inj hf
      exact hk _ _ _ hP hD hS (lv_sub hl [0, 1, 2, 3, 4] rfl)
    · rw [if_neg hc] at hf
      refine lv_iload_n hx hb dX6_copiesOf_30 rfl (lv_at hl 3 rfl) ?_
      refine lv_iload_n hx hb dX6_copiesOf_31 rfl (lv_at hl 1 rfl) ?_
      refine lv_bipush (v := (-4 : Int32)) hx hb dX6_copiesOf_32 (by decide) ?_
      obtain ⟨v71, hv71, hf⟩ := bd_some hf
      have hj71 : ∀ (H : Heap) (locs : List Loc) (ls : Array Slot), va_P D vwCl (wX6_copiesOf k h0 h1 z0 z1 z2 z3 z4 z5 z6 z7 z8 z9 z10 z11 z12 z13 z14 z15 z16 z17 z18 v_page) H → va_D A (wX6_copiesOf k h0 h1 z0 z1 z2 z3 z4 z5 z6 z7 z8 z9 z10 z11 z12 z13 z14 z15 z16 z17 z18 v_page) → va_S A s.heap H locs → lv_has ls 6 [(0, .ref h0), (1, .int y1), (2, .int y2), (4, .int y4), (5, .int y5)] → W p l e ({ frames := 2, cells := 0, slots := 0, locals := 44 } : Room) s m args below meth c H locs 0 0 Q (F0 m 71 ls [.int v71, .int y3]) := by
        intro H locs ls hP hD hS hl
        refine lv_iadd hx hb dX6_copiesOf_71 ?_
        refine lv_istore_n (lv' := [(3, .int (y3 + v71)), (0, .ref h0), (1, .int y1), (2, .int y2), (4, .int y4), (5, .int y5)]) hx hb dX6_copiesOf_72 rfl hl (by decide) rfl (fun ls hl => ?_)
        refine lv_iinc (v := (y5 + (1 : Int32))) (lv' := [(5, .int (y5 + (1 : Int32))), (3, .int (y3 + v71)), (0, .ref h0), (1, .int y1), (2, .int y2), (4, .int y4)]) hx hb dX6_copiesOf_73 hl (k := 5) rfl rfl (by decide) rfl (fun ls hl => ?_)
        refine lv_goto (tgt := 19) hx hb dX6_copiesOf_76 (by decide) ?_
        exact ih (y3 + v71) (y5 + (1 : Int32)) _ _ _ _ hf hP hD hS (lv_sub hl [2, 3, 4, 1, 5, 0] rfl) hk
      clear hf
      have hf := hv71
      refine lv_icmp_eq (tgt := 43) hx hb dX6_copiesOf_34 (by decide) (fun hc => ?_) (fun hc => ?_)
      · rw [if_pos hc] at hf
        refine lv_iload_n hx hb dX6_copiesOf_43 rfl (lv_at hl 2 rfl) ?_
        refine lv_bipush (v := (-4 : Int32)) hx hb dX6_copiesOf_44 (by decide) ?_
        refine lv_icmp_eq (tgt := 55) hx hb dX6_copiesOf_46 (by decide) (fun hc => ?_) (fun hc => ?_)
        · rw [if_pos hc] at hf
          refine lv_aload_n hx hb dX6_copiesOf_55 rfl (lv_at hl 0 rfl) ?_
          refine lv_iload hx hb dX6_copiesOf_56 (lv_at hl 4 rfl) ?_
          refine lv_iload hx hb dX6_copiesOf_58 (lv_at hl 5 rfl) ?_
          obtain ⟨q60, hq60, hf⟩ := bd_some hf
          refine kcVi C (kX6_hasCopy (l := l) (D := D) (k := k) h0 h1 z0 z1 z2 z3 z4 z5 z6 z7 z8 z9 z10 z11 z12 z13 z14 z15 z16 z17 z18 v_page y4 y5 q60 hq60) mt_X6_hasCopy mw_819 ⟨rfl, rfl, Nat.le_of_ble_eq_true rfl, Nat.le_of_ble_eq_true rfl⟩ hP hD hS 0 rfl rfl rfl [0, 1] rfl rfl [some 0, some 1] rfl rfl (w2 := (wX6_copiesOf k h0 h1 z0 z1 z2 z3 z4 z5 z6 z7 z8 z9 z10 z11 z12 z13 z14 z15 z16 z17 z18 v_page)) rfl rfl rfl hl.1 (rest := [.int y3]) (Nat.le_of_ble_eq_true rfl) rfl dX6_copiesOf_60 ⟨Nat.zero_le _, Nat.zero_le _⟩ (fun H locs hP hD hS => ?_)
          refine lv_if_eq (tgt := 70) hx hb dX6_copiesOf_63 (by decide) (fun hc => ?_) (fun hc => ?_)
          · rw [if_pos hc] at hf
            refine lv_iconst (v := (0 : Int32)) hx hb dX6_copiesOf_70 (by decide) ?_
            obtain rfl := Option.some.inj hf
            exact hj71 _ _ _ hP hD hS (lv_sub hl [0, 1, 2, 4, 5] rfl)
          · rw [if_neg hc] at hf
            refine lv_iconst (v := (1 : Int32)) hx hb dX6_copiesOf_66 (by decide) ?_
            refine lv_goto (tgt := 71) hx hb dX6_copiesOf_67 (by decide) ?_
            obtain rfl := Option.some.inj hf
            exact hj71 _ _ _ hP hD hS (lv_sub hl [0, 1, 2, 4, 5] rfl)
        · rw [if_neg hc] at hf
          refine lv_iload_n hx hb dX6_copiesOf_49 rfl (lv_at hl 2 rfl) ?_
          refine lv_iload hx hb dX6_copiesOf_50 (lv_at hl 5 rfl) ?_
          refine lv_icmp_ne (tgt := 70) hx hb dX6_copiesOf_52 (by decide) (fun hc => ?_) (fun hc => ?_)
          · rw [if_neg hc] at hf
            refine lv_iconst (v := (0 : Int32)) hx hb dX6_copiesOf_70 (by decide) ?_
            obtain rfl := Option.some.inj hf
            exact hj71 _ _ _ hP hD hS (lv_sub hl [0, 1, 2, 4, 5] rfl)
          · rw [if_pos hc] at hf
            refine lv_aload_n hx hb dX6_copiesOf_55 rfl (lv_at hl 0 rfl) ?_
            refine lv_iload hx hb dX6_copiesOf_56 (lv_at hl 4 rfl) ?_
            refine lv_iload hx hb dX6_copiesOf_58 (lv_at hl 5 rfl) ?_
            obtain ⟨q60, hq60, hf⟩ := bd_some hf
            refine kcVi C (kX6_hasCopy (l := l) (D := D) (k := k) h0 h1 z0 z1 z2 z3 z4 z5 z6 z7 z8 z9 z10 z11 z12 z13 z14 z15 z16 z17 z18 v_page y4 y5 q60 hq60) mt_X6_hasCopy mw_819 ⟨rfl, rfl, Nat.le_of_ble_eq_true rfl, Nat.le_of_ble_eq_true rfl⟩ hP hD hS 0 rfl rfl rfl [0, 1] rfl rfl [some 0, some 1] rfl rfl (w2 := (wX6_copiesOf k h0 h1 z0 z1 z2 z3 z4 z5 z6 z7 z8 z9 z10 z11 z12 z13 z14 z15 z16 z17 z18 v_page)) rfl rfl rfl hl.1 (rest := [.int y3]) (Nat.le_of_ble_eq_true rfl) rfl dX6_copiesOf_60 ⟨Nat.zero_le _, Nat.zero_le _⟩ (fun H locs hP hD hS => ?_)
            refine lv_if_eq (tgt := 70) hx hb dX6_copiesOf_63 (by decide) (fun hc => ?_) (fun hc => ?_)
            · rw [if_pos hc] at hf
              refine lv_iconst (v := (0 : Int32)) hx hb dX6_copiesOf_70 (by decide) ?_
              obtain rfl := Option.some.inj hf
              exact hj71 _ _ _ hP hD hS (lv_sub hl [0, 1, 2, 4, 5] rfl)
            · rw [if_neg hc] at hf
              refine lv_iconst (v := (1 : Int32)) hx hb dX6_copiesOf_66 (by decide) ?_
              refine lv_goto (tgt := 71) hx hb dX6_copiesOf_67 (by decide) ?_
              obtain rfl := Option.some.inj hf
              exact hj71 _ _ _ hP hD hS (lv_sub hl [0, 1, 2, 4, 5] rfl)
      · rw [if_neg hc] at hf
        refine lv_iload_n hx hb dX6_copiesOf_37 rfl (lv_at hl 1 rfl) ?_
        refine lv_iload hx hb dX6_copiesOf_38 (lv_at hl 4 rfl) ?_
        refine lv_icmp_ne (tgt := 70) hx hb dX6_copiesOf_40 (by decide) (fun hc => ?_) (fun hc => ?_)
        · rw [if_neg hc] at hf
          refine lv_iconst (v := (0 : Int32)) hx hb dX6_copiesOf_70 (by decide) ?_
          obtain rfl := Option.some.inj hf
          exact hj71 _ _ _ hP hD hS (lv_sub hl [0, 1, 2, 4, 5] rfl)
        · rw [if_pos hc] at hf
          refine lv_iload_n hx hb dX6_copiesOf_43 rfl (lv_at hl 2 rfl) ?_
          refine lv_bipush (v := (-4 : Int32)) hx hb dX6_copiesOf_44 (by decide) ?_
          refine lv_icmp_eq (tgt := 55) hx hb dX6_copiesOf_46 (by decide) (fun hc => ?_) (fun hc => ?_)
          · rw [if_pos hc] at hf
            refine lv_aload_n hx hb dX6_copiesOf_55 rfl (lv_at hl 0 rfl) ?_
            refine lv_iload hx hb dX6_copiesOf_56 (lv_at hl 4 rfl) ?_
            refine lv_iload hx hb dX6_copiesOf_58 (lv_at hl 5 rfl) ?_
            obtain ⟨q60, hq60, hf⟩ := bd_some hf
            refine kcVi C (kX6_hasCopy (l := l) (D := D) (k := k) h0 h1 z0 z1 z2 z3 z4 z5 z6 z7 z8 z9 z10 z11 z12 z13 z14 z15 z16 z17 z18 v_page y4 y5 q60 hq60) mt_X6_hasCopy mw_819 ⟨rfl, rfl, Nat.le_of_ble_eq_true rfl, Nat.le_of_ble_eq_true rfl⟩ hP hD hS 0 rfl rfl rfl [0, 1] rfl rfl [some 0, some 1] rfl rfl (w2 := (wX6_copiesOf k h0 h1 z0 z1 z2 z3 z4 z5 z6 z7 z8 z9 z10 z11 z12 z13 z14 z15 z16 z17 z18 v_page)) rfl rfl rfl hl.1 (rest := [.int y3]) (Nat.le_of_ble_eq_true rfl) rfl dX6_copiesOf_60 ⟨Nat.zero_le _, Nat.zero_le _⟩ (fun H locs hP hD hS => ?_)
            refine lv_if_eq (tgt := 70) hx hb dX6_copiesOf_63 (by decide) (fun hc => ?_) (fun hc => ?_)
            · rw [if_pos hc] at hf
              refine lv_iconst (v := (0 : Int32)) hx hb dX6_copiesOf_70 (by decide) ?_
              obtain rfl := Option.some.inj hf
              exact hj71 _ _ _ hP hD hS (lv_sub hl [0, 1, 2, 4, 5] rfl)
            · rw [if_neg hc] at hf
              refine lv_iconst (v := (1 : Int32)) hx hb dX6_copiesOf_66 (by decide) ?_
              refine lv_goto (tgt := 71) hx hb dX6_copiesOf_67 (by decide) ?_
              obtain rfl := Option.some.inj hf
              exact hj71 _ _ _ hP hD hS (lv_sub hl [0, 1, 2, 4, 5] rfl)
          · rw [if_neg hc] at hf
            refine lv_iload_n hx hb dX6_copiesOf_49 rfl (lv_at hl 2 rfl) ?_
            refine lv_iload hx hb dX6_copiesOf_50 (lv_at hl 5 rfl) ?_
            refine lv_icmp_ne (tgt := 70) hx hb dX6_copiesOf_52 (by decide) (fun hc => ?_) (fun hc => ?_)
            · rw [if_neg hc] at hf
              refine lv_iconst (v := (0 : Int32)) hx hb dX6_copiesOf_70 (by decide) ?_
              obtain rfl := Option.some.inj hf
              exact hj71 _ _ _ hP hD hS (lv_sub hl [0, 1, 2, 4, 5] rfl)
            · rw [if_pos hc] at hf
              refine lv_aload_n hx hb dX6_copiesOf_55 rfl (lv_at hl 0 rfl) ?_
              refine lv_iload hx hb dX6_copiesOf_56 (lv_at hl 4 rfl) ?_
              refine lv_iload hx hb dX6_copiesOf_58 (lv_at hl 5 rfl) ?_
              obtain ⟨q60, hq60, hf⟩ := bd_some hf
              refine kcVi C (kX6_hasCopy (l := l) (D := D) (k := k) h0 h1 z0 z1 z2 z3 z4 z5 z6 z7 z8 z9 z10 z11 z12 z13 z14 z15 z16 z17 z18 v_page y4 y5 q60 hq60) mt_X6_hasCopy mw_819 ⟨rfl, rfl, Nat.le_of_ble_eq_true rfl, Nat.le_of_ble_eq_true rfl⟩ hP hD hS 0 rfl rfl rfl [0, 1] rfl rfl [some 0, some 1] rfl rfl (w2 := (wX6_copiesOf k h0 h1 z0 z1 z2 z3 z4 z5 z6 z7 z8 z9 z10 z11 z12 z13 z14 z15 z16 z17 z18 v_page)) rfl rfl rfl hl.1 (rest := [.int y3]) (Nat.le_of_ble_eq_true rfl) rfl dX6_copiesOf_60 ⟨Nat.zero_le _, Nat.zero_le _⟩ (fun H locs hP hD hS => ?_)
              refine lv_if_eq (tgt := 70) hx hb dX6_copiesOf_63 (by decide) (fun hc => ?_) (fun hc => ?_)
              · rw [if_pos hc] at hf
                refine lv_iconst (v := (0 : Int32)) hx hb dX6_copiesOf_70 (by decide) ?_
                obtain rfl := Option.some.inj hf
                exact hj71 _ _ _ hP hD hS (lv_sub hl [0, 1, 2, 4, 5] rfl)
              · rw [if_neg hc] at hf
                refine lv_iconst (v := (1 : Int32)) hx hb dX6_copiesOf_66 (by decide) ?_
                refine lv_goto (tgt := 71) hx hb dX6_copiesOf_67 (by decide) ?_
                obtain rfl := Option.some.inj hf
                exact hj71 _ _ _ hP hD hS (lv_sub hl [0, 1, 2, 4, 5] rfl)
set_option maxHeartbeats 4000000 in
set_option maxRecDepth 100000 in
theorem wX6_copiesOf_5 {p : Program} {l : Launch} {e : Env} {s : State} {m : MethodId} {args : Array Value} {below : List Frame} {meth : Method} {c : Code} {A : Nat → Prop} {Q : State → Prop} {D : va_G} {k : Nat → ClassId} (C : Cx p s m args c cX6_copiesOf 6 RX6 A D k) (h0 h1 : Nat) (z0 z1 z2 z3 z4 z5 z6 z7 z8 z9 z10 z11 z12 z13 z14 z15 z16 z17 z18 : Value) (v_page : Nat → Int32) (y1 : Int32) (y2 : Int32) : ∀ (f : Nat) (y3 : Int32) (y4 : Int32) (ex : (Int32)) (H : Heap) (locs : List Loc) (ls : Array Slot), fX6_copiesOf_5 v_page y1 y2 f y3 y4 = some ex → va_P D vwCl (wX6_copiesOf k h0 h1 z0 z1 z2 z3 z4 z5 z6 z7 z8 z9 z10 z11 z12 z13 z14 z15 z16 z17 z18 v_page) H → va_D A (wX6_copiesOf k h0 h1 z0 z1 z2 z3 z4 z5 z6 z7 z8 z9 z10 z11 z12 z13 z14 z15 z16 z17 z18 v_page) → va_S A s.heap H locs → lv_has ls 6 [(0, .ref h0), (1, .int y1), (2, .int y2), (3, .int y3), (4, .int y4)] → (∀ (H : Heap) (locs : List Loc) (ls : Array Slot), va_P D vwCl (wX6_copiesOf k h0 h1 z0 z1 z2 z3 z4 z5 z6 z7 z8 z9 z10 z11 z12 z13 z14 z15 z16 z17 z18 v_page) H → va_D A (wX6_copiesOf k h0 h1 z0 z1 z2 z3 z4 z5 z6 z7 z8 z9 z10 z11 z12 z13 z14 z15 z16 z17 z18 v_page) → va_S A s.heap H locs → lv_has ls 6 [(3, .int ex)] → W p l e ({ frames := 2, cells := 0, slots := 0, locals := 44 } : Room) s m args below meth c H locs 0 0 Q (F0 m 85 ls [])) → W p l e ({ frames := 2, cells := 0, slots := 0, locals := 44 } : Room) s m args below meth c H locs 0 0 Q (F0 m 5 ls []) := by
  obtain ⟨hx, hb, -⟩ := id C
  intro f
  induction f with
  | zero =>
    intro y3 y4 ex H locs ls hf hP hD hS hl hk
    cases hf
  | succ f ih =>
    intro y3 y4 ex H locs ls hf hP hD hS hl hk
    rw [fX6_copiesOf_5] at hf
    refine lv_iload hx hb dX6_copiesOf_5 (lv_at hl 4 rfl) ?_
    refine lv_aload_n hx hb dX6_copiesOf_7 rfl (lv_at hl 0 rfl) ?_
    refine kget C inX6 hP 0 rfl rfl 0 (by decide) mw_687 rfl dX6_copiesOf_8 ?_
    refine lv_iconst (v := (0 : Int32)) hx hb dX6_copiesOf_11 (by decide) ?_
    refine kiald C hP 1 rfl (by unfold vp_in; decide) dX6_copiesOf_12 (j := 0) (by decide) ?_
    refine lv_icmp_ge (tgt := 85) hx hb dX6_copiesOf_13 (by decide) (fun hc => ?_) (fun hc => ?_)
    · rw [if_pos hc] at hf
      obtain rfl := Option.some.inj hf
      exact hk _ _ _ hP hD hS (lv_sub hl [3] rfl)
    · rw [if_neg hc] at hf
      refine lv_iconst (v := (0 : Int32)) hx hb dX6_copiesOf_16 (by decide) ?_
      refine lv_istore (lv' := [(5, .int (0 : Int32)), (0, .ref h0), (1, .int y1), (2, .int y2), (3, .int y3), (4, .int y4)]) hx hb dX6_copiesOf_17 hl (by decide) rfl (fun ls hl => ?_)
      obtain ⟨ex19, hv, hf⟩ := bd_some hf
      refine wX6_copiesOf_19 C h0 h1 z0 z1 z2 z3 z4 z5 z6 z7 z8 z9 z10 z11 z12 z13 z14 z15 z16 z17 z18 v_page y1 y2 y4 FU y3 (0 : Int32) ex19 _ _ _ hv hP hD hS (lv_sub hl [1, 2, 3, 4, 5, 0] rfl) (fun H locs ls hP hD hS hl => ?_)
      refine lv_iinc (v := (y4 + (1 : Int32))) (lv' := [(4, .int (y4 + (1 : Int32))), (0, .ref h0), (1, .int y1), (2, .int y2), (3, .int ex19)]) hx hb dX6_copiesOf_79 hl (k := 4) rfl rfl (by decide) rfl (fun ls hl => ?_)
      refine lv_goto (tgt := 5) hx hb dX6_copiesOf_82 (by decide) ?_
      exact ih ex19 (y4 + (1 : Int32)) _ _ _ _ hf hP hD hS (lv_sub hl [1, 2, 3, 4, 0] rfl) hk
set_option maxHeartbeats 4000000 in
set_option maxRecDepth 100000 in
theorem kX6_copiesOf {l : Launch} {D : va_G} {k : Nat → ClassId} (h0 h1 : Nat) (z0 z1 z2 z3 z4 z5 z6 z7 z8 z9 z10 z11 z12 z13 z14 z15 z16 z17 z18 : Value) (v_page : Nat → Int32) (x1 : Int32) (x2 : Int32) (q : Int32) (hf : fX6_copiesOf v_page x1 x2 = some q) : KMi l yX6_copiesOf cX6_copiesOf 6 (some .int) ({ frames := 2, cells := 0, slots := 0, locals := 44 } : Room) D k [.ref h0, .int x1, .int x2] (wX6_copiesOf k h0 h1 z0 z1 z2 z3 z4 z5 z6 z7 z8 z9 z10 z11 z12 z13 z14 z15 z16 z17 z18 v_page) q (wX6_copiesOf k h0 h1 z0 z1 z2 z3 z4 z5 z6 z7 z8 z9 z10 z11 z12 z13 z14 z15 z16 z17 z18 v_page) := by
  refine kent_i (by decide) (Nat.le_of_ble_eq_true rfl) ?_
  intro p e s m below meth c A Q ls C hP hD hS hl hret
  obtain ⟨hx, hb, -⟩ := id C
  have hl : lv_has ls 6 [(0, .ref h0), (1, .int x1), (2, .int x2)] := hl
  unfold fX6_copiesOf at hf
  generalize ([.ref h0, .int x1, .int x2] : List Value).toArray = args at *
  refine lv_iconst (v := (0 : Int32)) hx hb dX6_copiesOf_0 (by decide) ?_
  refine lv_istore_n (lv' := [(3, .int (0 : Int32)), (0, .ref h0), (1, .int x1), (2, .int x2)]) hx hb dX6_copiesOf_1 rfl hl (by decide) rfl (fun ls hl => ?_)
  refine lv_iconst (v := (0 : Int32)) hx hb dX6_copiesOf_2 (by decide) ?_
  refine lv_istore (lv' := [(4, .int (0 : Int32)), (3, .int (0 : Int32)), (0, .ref h0), (1, .int x1), (2, .int x2)]) hx hb dX6_copiesOf_3 hl (by decide) rfl (fun ls hl => ?_)
  obtain ⟨ex5, hv, hf⟩ := bd_some hf
  refine wX6_copiesOf_5 C h0 h1 z0 z1 z2 z3 z4 z5 z6 z7 z8 z9 z10 z11 z12 z13 z14 z15 z16 z17 z18 v_page x1 x2 FU (0 : Int32) (0 : Int32) ex5 _ _ _ hv hP hD hS (lv_sub hl [2, 3, 4, 1, 0] rfl) (fun H locs ls hP hD hS hl => ?_)
  refine lv_iload_n hx hb dX6_copiesOf_85 rfl (lv_at hl 0 rfl) ?_
  obtain rfl := Option.some.inj hf
  exact hret _ _ _ _ dX6_copiesOf_86 hP hS
set_option maxHeartbeats 4000000 in
set_option maxRecDepth 100000 in
theorem kX6_rule {l : Launch} {D : va_G} {k : Nat → ClassId} (h0 h1 h2 : Nat) (z0 z1 z2 z3 z4 z5 z6 z7 z8 z9 z10 z11 z12 z13 z14 z15 z16 : Value) (v_taped : Int32) (v_page : Nat → Int32) (v_isKept : Nat → Int32) (x1 : Int32) (q : Int32) (hf : fX6_rule v_taped v_page v_isKept x1 = some q) : KMi l yX6_rule cX6_rule 2 (some .int) ({ frames := 3, cells := 0, slots := 0, locals := 69 } : Room) D k [.ref h0, .int x1] (wX6_rule k h0 h1 h2 z0 z1 z2 z3 z4 z5 z6 z7 z8 z9 z10 z11 z12 z13 z14 z15 z16 v_taped v_page v_isKept) q (wX6_rule k h0 h1 h2 z0 z1 z2 z3 z4 z5 z6 z7 z8 z9 z10 z11 z12 z13 z14 z15 z16 v_taped v_page v_isKept) := by
  refine kent_i (by decide) (Nat.le_of_ble_eq_true rfl) ?_
  intro p e s m below meth c A Q ls C hP hD hS hl hret
  obtain ⟨hx, hb, -⟩ := id C
  have hl : lv_has ls 2 [(0, .ref h0), (1, .int x1)] := hl
  unfold fX6_rule at hf
  generalize ([.ref h0, .int x1] : List Value).toArray = args at *
  refine lv_iload_n hx hb dX6_rule_0 rfl (lv_at hl 1 rfl) ?_
  refine lv_i2l (v := (x1.toInt64)) hx hb dX6_rule_1 rfl ?_
  refine lv_lconst (v := (0 : Int64)) hx hb dX6_rule_2 (by decide) ?_
  refine lv_ldc2 (v := (18 : Int64)) hx hb C.2.2.2.1 (C.2.2.2.2.1 _ mw_814) dX6_rule_3 ?_
  obtain ⟨q6, hq6, hf⟩ := bd_some hf
  refine kcSi C (kX6_in (l := l) (D := D) (k := k) (x1.toInt64) (0 : Int64) (18 : Int64) q6 hq6) mt_X6_in mw_753 ⟨rfl, rfl, Nat.le_of_ble_eq_true rfl, Nat.le_of_ble_eq_true rfl⟩ hP hD hS [] rfl rfl [none, none, none] rfl rfl (w2 := (wX6_rule k h0 h1 h2 z0 z1 z2 z3 z4 z5 z6 z7 z8 z9 z10 z11 z12 z13 z14 z15 z16 v_taped v_page v_isKept)) rfl rfl rfl hl.1 (rest := []) (Nat.le_of_ble_eq_true rfl) rfl dX6_rule_6 ⟨Nat.zero_le _, Nat.zero_le _⟩ (fun H locs hP hD hS => ?_)
  refine lv_if_ne (tgt := 14) hx hb dX6_rule_9 (by decide) (fun hc => ?_) (fun hc => ?_)
  · rw [if_neg hc] at hf
    refine lv_iload_n hx hb dX6_rule_14 rfl (lv_at hl 1 rfl) ?_
    by_cases hc8 : x1 = (8 : Int32)
    · rw [if_pos hc8] at hf
      refine lv_lookup (tgt := 48) hx hb dX6_rule_15 rfl (by rw [hc8]; first | done | rfl) (by decide) ?_
      refine lv_aload_n hx hb dX6_rule_48 rfl (lv_at hl 0 rfl) ?_
      refine lv_bipush (v := (-4 : Int32)) hx hb dX6_rule_49 (by decide) ?_
      refine lv_bipush (v := (-4 : Int32)) hx hb dX6_rule_51 (by decide) ?_
      obtain ⟨q53, hq53, hf⟩ := bd_some hf
      refine kcVi C (kX6_copiesOf (l := l) (D := D) (k := k) h0 h1 z0 z1 (.ref h2) z2 (.int v_taped) z3 z4 z5 z6 z7 z8 z9 z10 z11 z12 z13 z14 z15 z16 v_page (-4 : Int32) (-4 : Int32) q53 hq53) mt_X6_copiesOf mw_815 ⟨rfl, rfl, Nat.le_of_ble_eq_true rfl, Nat.le_of_ble_eq_true rfl⟩ hP hD hS 0 rfl rfl rfl [0, 1] rfl rfl [some 0, some 1, none] rfl rfl (w2 := (wX6_rule k h0 h1 h2 z0 z1 z2 z3 z4 z5 z6 z7 z8 z9 z10 z11 z12 z13 z14 z15 z16 v_taped v_page v_isKept)) rfl rfl rfl hl.1 (rest := []) (Nat.le_of_ble_eq_true rfl) rfl dX6_rule_53 ⟨Nat.zero_le _, Nat.zero_le _⟩ (fun H locs hP hD hS => ?_)
      obtain rfl := Option.some.inj hf
      exact hret _ _ _ _ dX6_rule_56 hP hS
    · rw [if_neg hc8] at hf
      by_cases hc17 : x1 = (17 : Int32)
      · rw [if_pos hc17] at hf
        refine lv_lookup (tgt := 57) hx hb dX6_rule_15 rfl (by rw [hc17]; first | done | rfl) (by decide) ?_
        refine lv_aload_n hx hb dX6_rule_57 rfl (lv_at hl 0 rfl) ?_
        refine kget C inX6 hP 0 rfl rfl 5 (by decide) mw_692 rfl dX6_rule_58 ?_
        obtain rfl := Option.some.inj hf
        exact hret _ _ _ _ dX6_rule_61 hP hS
      · rw [if_neg hc17] at hf
        by_cases hc18 : x1 = (18 : Int32)
        · rw [if_pos hc18] at hf
          refine lv_lookup (tgt := 62) hx hb dX6_rule_15 rfl (by rw [hc18]; first | done | rfl) (by decide) ?_
          refine lv_aload_n hx hb dX6_rule_62 rfl (lv_at hl 0 rfl) ?_
          refine kget C inX6 hP 0 rfl rfl 3 (by decide) mw_690 rfl dX6_rule_63 ?_
          refine lv_iconst (v := (0 : Int32)) hx hb dX6_rule_66 (by decide) ?_
          refine kzald C hP 2 rfl (by unfold vp_in; decide) dX6_rule_67 (j := 0) (by decide) ?_
          obtain ⟨v76, hv76, hf⟩ := bd_some hf
          have hj76 : ∀ (H : Heap) (locs : List Loc) (ls : Array Slot), va_P D vwCl (wX6_rule k h0 h1 h2 z0 z1 z2 z3 z4 z5 z6 z7 z8 z9 z10 z11 z12 z13 z14 z15 z16 v_taped v_page v_isKept) H → va_D A (wX6_rule k h0 h1 h2 z0 z1 z2 z3 z4 z5 z6 z7 z8 z9 z10 z11 z12 z13 z14 z15 z16 v_taped v_page v_isKept) → va_S A s.heap H locs → lv_has ls 2 [(0, .ref h0)] → W p l e ({ frames := 3, cells := 0, slots := 0, locals := 69 } : Room) s m args below meth c H locs 0 0 Q (F0 m 76 ls [.int v76]) := by
            intro H locs ls hP hD hS hl
            refine lv_aload_n hx hb dX6_rule_76 rfl (lv_at hl 0 rfl) ?_
            refine kget C inX6 hP 0 rfl rfl 3 (by decide) mw_690 rfl dX6_rule_77 ?_
            refine lv_iconst (v := (1 : Int32)) hx hb dX6_rule_80 (by decide) ?_
            refine kzald C hP 2 rfl (by unfold vp_in; decide) dX6_rule_81 (j := 1) (by decide) ?_
            refine lv_if_eq (tgt := 89) hx hb dX6_rule_82 (by decide) (fun hc => ?_) (fun hc => ?_)
            · rw [if_pos hc] at hf
              refine lv_iconst (v := (0 : Int32)) hx hb dX6_rule_89 (by decide) ?_
              refine lv_iadd hx hb dX6_rule_90 ?_
              obtain rfl := Option.some.inj hf
              exact hret _ _ _ _ dX6_rule_91 hP hS
            · rw [if_neg hc] at hf
              refine lv_iconst (v := (1 : Int32)) hx hb dX6_rule_85 (by decide) ?_
              refine lv_goto (tgt := 90) hx hb dX6_rule_86 (by decide) ?_
              refine lv_iadd hx hb dX6_rule_90 ?_
              obtain rfl := Option.some.inj hf
              exact hret _ _ _ _ dX6_rule_91 hP hS
          clear hf
          have hf := hv76
          refine lv_if_eq (tgt := 75) hx hb dX6_rule_68 (by decide) (fun hc => ?_) (fun hc => ?_)
          · rw [if_pos hc] at hf
            refine lv_iconst (v := (0 : Int32)) hx hb dX6_rule_75 (by decide) ?_
            obtain rfl := Option.some.inj hf
            exact hj76 _ _ _ hP hD hS (lv_sub hl [0] rfl)
          · rw [if_neg hc] at hf
            refine lv_iconst (v := (1 : Int32)) hx hb dX6_rule_71 (by decide) ?_
            refine lv_goto (tgt := 76) hx hb dX6_rule_72 (by decide) ?_
            obtain rfl := Option.some.inj hf
            exact hj76 _ _ _ hP hD hS (lv_sub hl [0] rfl)
        · rw [if_neg hc18] at hf
          have hd : W p l e ({ frames := 3, cells := 0, slots := 0, locals := 69 } : Room) s m args below meth c H locs 0 0 Q (F0 m 92 ls []) := by
            refine lv_aload_n hx hb dX6_rule_92 rfl (lv_at hl 0 rfl) ?_
            refine kget C inX6 hP 0 rfl rfl 0 (by decide) mw_687 rfl dX6_rule_93 ?_
            refine lv_iload_n hx hb dX6_rule_96 rfl (lv_at hl 1 rfl) ?_
            refine lv_bipush (v := (8 : Int32)) hx hb dX6_rule_97 (by decide) ?_
            refine lv_icmp_ge (tgt := 106) hx hb dX6_rule_99 (by decide) (fun hc => ?_) (fun hc => ?_)
            · rw [if_pos hc] at hf
              refine lv_iload_n hx hb dX6_rule_106 rfl (lv_at hl 1 rfl) ?_
              refine lv_iconst (v := (1 : Int32)) hx hb dX6_rule_107 (by decide) ?_
              refine lv_isub hx hb dX6_rule_108 ?_
              obtain ⟨hin, hf⟩ := gd_some hf
              refine kiald C hP 1 rfl hin dX6_rule_109 (j := (x1 - (1 : Int32)).toNatClampNeg) rfl ?_
              obtain rfl := Option.some.inj hf
              exact hret _ _ _ _ dX6_rule_110 hP hS
            · rw [if_neg hc] at hf
              refine lv_iload_n hx hb dX6_rule_102 rfl (lv_at hl 1 rfl) ?_
              refine lv_goto (tgt := 109) hx hb dX6_rule_103 (by decide) ?_
              obtain ⟨hin, hf⟩ := gd_some hf
              refine kiald C hP 1 rfl hin dX6_rule_109 (j := x1.toNatClampNeg) rfl ?_
              obtain rfl := Option.some.inj hf
              exact hret _ _ _ _ dX6_rule_110 hP hS
          exact lv_lookup (off := 77) (tgt := 92) hx hb dX6_rule_15 rfl (by show Op.lookupswitch.offset [(8, 33), (17, 42), (18, 47)] _ _ = _; rw [lv_osw hc8 (show ((8 : Int32)).toInt = 8 from rfl), lv_osw hc17 (show ((17 : Int32)).toInt = 17 from rfl), lv_osw hc18 (show ((18 : Int32)).toInt = 18 from rfl)]; first | done | rfl) (by decide) hd
  · rw [if_pos hc] at hf
    refine lv_iconst (v := (-1 : Int32)) hx hb dX6_rule_12 (by decide) ?_
    obtain rfl := Option.some.inj hf
    exact hret _ _ _ _ dX6_rule_13 hP hS
set_option maxHeartbeats 4000000 in
set_option maxRecDepth 100000 in
theorem kX6_isNode {l : Launch} {D : va_G} {k : Nat → ClassId} (h0 h1 : Nat) (z0 z1 z2 z3 z4 z5 z6 z7 z8 z9 z10 z11 z12 z13 z14 z15 z16 z17 z18 : Value) (v_page : Nat → Int32) (x1 : Int32) (q : Int32) (hf : fX6_isNode v_page x1 = some q) : KMi l yX6_isNode cX6_isNode 2 (some .boolean) ({ frames := 1, cells := 0, slots := 0, locals := 25 } : Room) D k [.ref h0, .int x1] (wX6_isNode k h0 h1 z0 z1 z2 z3 z4 z5 z6 z7 z8 z9 z10 z11 z12 z13 z14 z15 z16 z17 z18 v_page) q (wX6_isNode k h0 h1 z0 z1 z2 z3 z4 z5 z6 z7 z8 z9 z10 z11 z12 z13 z14 z15 z16 z17 z18 v_page) := by
  refine kent_z (by decide) (Nat.le_of_ble_eq_true rfl) ?_
  intro p e s m below meth c A Q ls C hP hD hS hl hret
  obtain ⟨hx, hb, -⟩ := id C
  have hl : lv_has ls 2 [(0, .ref h0), (1, .int x1)] := hl
  unfold fX6_isNode at hf
  generalize ([.ref h0, .int x1] : List Value).toArray = args at *
  refine lv_iload_n hx hb dX6_isNode_0 rfl (lv_at hl 1 rfl) ?_
  refine lv_i2l (v := (x1.toInt64)) hx hb dX6_isNode_1 rfl ?_
  refine lv_lconst (v := (0 : Int64)) hx hb dX6_isNode_2 (by decide) ?_
  refine lv_aload_n hx hb dX6_isNode_3 rfl (lv_at hl 0 rfl) ?_
  refine kget C inX6 hP 0 rfl rfl 0 (by decide) mw_687 rfl dX6_isNode_4 ?_
  refine lv_iconst (v := (0 : Int32)) hx hb dX6_isNode_7 (by decide) ?_
  refine kiald C hP 1 rfl (by unfold vp_in; decide) dX6_isNode_8 (j := 0) (by decide) ?_
  refine lv_iconst (v := (1 : Int32)) hx hb dX6_isNode_9 (by decide) ?_
  refine lv_isub hx hb dX6_isNode_10 ?_
  refine lv_i2l (v := (((v_page 0) - (1 : Int32)).toInt64)) hx hb dX6_isNode_11 rfl ?_
  obtain ⟨q12, hq12, hf⟩ := bd_some hf
  refine kcSi C (kX6_in (l := l) (D := D) (k := k) (x1.toInt64) (0 : Int64) (((v_page 0) - (1 : Int32)).toInt64) q12 hq12) mt_X6_in mw_753 ⟨rfl, rfl, Nat.le_of_ble_eq_true rfl, Nat.le_of_ble_eq_true rfl⟩ hP hD hS [] rfl rfl [none, none] rfl rfl (w2 := (wX6_isNode k h0 h1 z0 z1 z2 z3 z4 z5 z6 z7 z8 z9 z10 z11 z12 z13 z14 z15 z16 z17 z18 v_page)) rfl rfl rfl hl.1 (rest := []) (Nat.le_of_ble_eq_true rfl) rfl dX6_isNode_12 ⟨Nat.zero_le _, Nat.zero_le _⟩ (fun H locs hP hD hS => ?_)
  obtain ⟨h01, hf⟩ := tf_some hf
  obtain rfl := Option.some.inj hf
  exact hret _ _ _ _ dX6_isNode_15 h01 hP hS
set_option maxHeartbeats 4000000 in
set_option maxRecDepth 100000 in
theorem kX6_isLetter {l : Launch} {D : va_G} {k : Nat → ClassId} (h0 h1 : Nat) (z0 z1 z2 z3 z4 z5 z6 z7 z8 z9 z10 z11 z12 z13 z14 z15 z16 z17 z18 : Value) (v_page : Nat → Int32) (x1 : Int32) (q : Int32) (hf : fX6_isLetter v_page x1 = some q) : KMi l yX6_isLetter cX6_isLetter 2 (some .boolean) ({ frames := 1, cells := 0, slots := 0, locals := 25 } : Room) D k [.ref h0, .int x1] (wX6_isLetter k h0 h1 z0 z1 z2 z3 z4 z5 z6 z7 z8 z9 z10 z11 z12 z13 z14 z15 z16 z17 z18 v_page) q (wX6_isLetter k h0 h1 z0 z1 z2 z3 z4 z5 z6 z7 z8 z9 z10 z11 z12 z13 z14 z15 z16 z17 z18 v_page) := by
  refine kent_z (by decide) (Nat.le_of_ble_eq_true rfl) ?_
  intro p e s m below meth c A Q ls C hP hD hS hl hret
  obtain ⟨hx, hb, -⟩ := id C
  have hl : lv_has ls 2 [(0, .ref h0), (1, .int x1)] := hl
  unfold fX6_isLetter at hf
  generalize ([.ref h0, .int x1] : List Value).toArray = args at *
  refine lv_iload_n hx hb dX6_isLetter_0 rfl (lv_at hl 1 rfl) ?_
  refine lv_i2l (v := (x1.toInt64)) hx hb dX6_isLetter_1 rfl ?_
  refine lv_lconst (v := (0 : Int64)) hx hb dX6_isLetter_2 (by decide) ?_
  refine lv_aload_n hx hb dX6_isLetter_3 rfl (lv_at hl 0 rfl) ?_
  refine kget C inX6 hP 0 rfl rfl 0 (by decide) mw_687 rfl dX6_isLetter_4 ?_
  refine lv_iconst (v := (2 : Int32)) hx hb dX6_isLetter_7 (by decide) ?_
  refine kiald C hP 1 rfl (by unfold vp_in; decide) dX6_isLetter_8 (j := 2) (by decide) ?_
  refine lv_iconst (v := (1 : Int32)) hx hb dX6_isLetter_9 (by decide) ?_
  refine lv_isub hx hb dX6_isLetter_10 ?_
  refine lv_i2l (v := (((v_page 2) - (1 : Int32)).toInt64)) hx hb dX6_isLetter_11 rfl ?_
  obtain ⟨q12, hq12, hf⟩ := bd_some hf
  refine kcSi C (kX6_in (l := l) (D := D) (k := k) (x1.toInt64) (0 : Int64) (((v_page 2) - (1 : Int32)).toInt64) q12 hq12) mt_X6_in mw_753 ⟨rfl, rfl, Nat.le_of_ble_eq_true rfl, Nat.le_of_ble_eq_true rfl⟩ hP hD hS [] rfl rfl [none, none] rfl rfl (w2 := (wX6_isLetter k h0 h1 z0 z1 z2 z3 z4 z5 z6 z7 z8 z9 z10 z11 z12 z13 z14 z15 z16 z17 z18 v_page)) rfl rfl rfl hl.1 (rest := []) (Nat.le_of_ble_eq_true rfl) rfl dX6_isLetter_12 ⟨Nat.zero_le _, Nat.zero_le _⟩ (fun H locs hP hD hS => ?_)
  obtain ⟨h01, hf⟩ := tf_some hf
  obtain rfl := Option.some.inj hf
  exact hret _ _ _ _ dX6_isLetter_15 h01 hP hS
set_option maxHeartbeats 4000000 in
set_option maxRecDepth 100000 in
theorem wX6_counted_5 {p : Program} {l : Launch} {e : Env} {s : State} {m : MethodId} {args : Array Value} {below : List Frame} {meth : Method} {c : Code} {A : Nat → Prop} {Q : State → Prop} {D : va_G} {k : Nat → ClassId} (C : Cx p s m args c cX6_counted 5 RX6 A D k) (h0 h1 : Nat) (z0 z1 z2 z3 z4 z5 z6 z7 z8 z9 z10 z11 z12 z13 z14 z15 z16 z17 z18 : Value) (v_page : Nat → Int32) (y1 : Int32) (y2 : Int32) : ∀ (f : Nat) (y3 : Int32) (y4 : Int32) (ex : (Int32)) (H : Heap) (locs : List Loc) (ls : Array Slot), fX6_counted_5 v_page y1 y2 f y3 y4 = some ex → va_P D vwCl (wX6_counted k h0 h1 z0 z1 z2 z3 z4 z5 z6 z7 z8 z9 z10 z11 z12 z13 z14 z15 z16 z17 z18 v_page) H → va_D A (wX6_counted k h0 h1 z0 z1 z2 z3 z4 z5 z6 z7 z8 z9 z10 z11 z12 z13 z14 z15 z16 z17 z18 v_page) → va_S A s.heap H locs → lv_has ls 5 [(0, .ref h0), (1, .int y1), (2, .int y2), (3, .int y3), (4, .int y4)] → (∀ (H : Heap) (locs : List Loc) (ls : Array Slot), va_P D vwCl (wX6_counted k h0 h1 z0 z1 z2 z3 z4 z5 z6 z7 z8 z9 z10 z11 z12 z13 z14 z15 z16 z17 z18 v_page) H → va_D A (wX6_counted k h0 h1 z0 z1 z2 z3 z4 z5 z6 z7 z8 z9 z10 z11 z12 z13 z14 z15 z16 z17 z18 v_page) → va_S A s.heap H locs → lv_has ls 5 [(3, .int ex)] → W p l e ({ frames := 0, cells := 0, slots := 0, locals := 0 } : Room) s m args below meth c H locs 0 0 Q (F0 m 77 ls [])) → W p l e ({ frames := 0, cells := 0, slots := 0, locals := 0 } : Room) s m args below meth c H locs 0 0 Q (F0 m 5 ls []) := by
  obtain ⟨hx, hb, -⟩ := id C
  intro f
  induction f with
  | zero =>
    intro y3 y4 ex H locs ls hf hP hD hS hl hk
    cases hf
  | succ f ih =>
    intro y3 y4 ex H locs ls hf hP hD hS hl hk
    rw [fX6_counted_5] at hf
    refine lv_iload hx hb dX6_counted_5 (lv_at hl 4 rfl) ?_
    refine lv_iload_n hx hb dX6_counted_7 rfl (lv_at hl 2 rfl) ?_
    obtain ⟨v18, hv18, hf⟩ := bd_some hf
    have hj18 : ∀ (H : Heap) (locs : List Loc) (ls : Array Slot), va_P D vwCl (wX6_counted k h0 h1 z0 z1 z2 z3 z4 z5 z6 z7 z8 z9 z10 z11 z12 z13 z14 z15 z16 z17 z18 v_page) H → va_D A (wX6_counted k h0 h1 z0 z1 z2 z3 z4 z5 z6 z7 z8 z9 z10 z11 z12 z13 z14 z15 z16 z17 z18 v_page) → va_S A s.heap H locs → lv_has ls 5 [(0, .ref h0), (1, .int y1), (2, .int y2), (3, .int y3), (4, .int y4)] → W p l e ({ frames := 0, cells := 0, slots := 0, locals := 0 } : Room) s m args below meth c H locs 0 0 Q (F0 m 18 ls [.int v18, .int y4]) := by
      intro H locs ls hP hD hS hl
      refine lv_icmp_ge (tgt := 77) hx hb dX6_counted_18 (by decide) (fun hc => ?_) (fun hc => ?_)
      · rw [if_pos hc] at hf
        obtain rfl := Option.some.inj hf
        exact hk _ _ _ hP hD hS (lv_sub hl [3] rfl)
      · rw [if_neg hc] at hf
        refine lv_iload_n hx hb dX6_counted_21 rfl (lv_at hl 3 rfl) ?_
        refine lv_iload_n hx hb dX6_counted_22 rfl (lv_at hl 2 rfl) ?_
        obtain ⟨v69, hv69, hf⟩ := bd_some hf
        have hj69 : ∀ (H : Heap) (locs : List Loc) (ls : Array Slot), va_P D vwCl (wX6_counted k h0 h1 z0 z1 z2 z3 z4 z5 z6 z7 z8 z9 z10 z11 z12 z13 z14 z15 z16 z17 z18 v_page) H → va_D A (wX6_counted k h0 h1 z0 z1 z2 z3 z4 z5 z6 z7 z8 z9 z10 z11 z12 z13 z14 z15 z16 z17 z18 v_page) → va_S A s.heap H locs → lv_has ls 5 [(0, .ref h0), (1, .int y1), (2, .int y2), (4, .int y4)] → W p l e ({ frames := 0, cells := 0, slots := 0, locals := 0 } : Room) s m args below meth c H locs 0 0 Q (F0 m 69 ls [.int v69, .int y3]) := by
          intro H locs ls hP hD hS hl
          refine lv_iadd hx hb dX6_counted_69 ?_
          refine lv_istore_n (lv' := [(3, .int (y3 + v69)), (0, .ref h0), (1, .int y1), (2, .int y2), (4, .int y4)]) hx hb dX6_counted_70 rfl hl (by decide) rfl (fun ls hl => ?_)
          refine lv_iinc (v := (y4 + (1 : Int32))) (lv' := [(4, .int (y4 + (1 : Int32))), (3, .int (y3 + v69)), (0, .ref h0), (1, .int y1), (2, .int y2)]) hx hb dX6_counted_71 hl (k := 4) rfl rfl (by decide) rfl (fun ls hl => ?_)
          refine lv_goto (tgt := 5) hx hb dX6_counted_74 (by decide) ?_
          exact ih (y3 + v69) (y4 + (1 : Int32)) _ _ _ _ hf hP hD hS (lv_sub hl [2, 3, 4, 1, 0] rfl) hk
        clear hf
        have hf := hv69
        refine lv_if_eq (tgt := 45) hx hb dX6_counted_23 (by decide) (fun hc => ?_) (fun hc => ?_)
        · rw [if_pos hc] at hf
          refine lv_aload_n hx hb dX6_counted_45 rfl (lv_at hl 0 rfl) ?_
          refine kget C inX6 hP 0 rfl rfl 0 (by decide) mw_687 rfl dX6_counted_46 ?_
          refine lv_sipush (v := (767 : Int32)) hx hb dX6_counted_49 (by decide) ?_
          refine lv_bipush (v := (8 : Int32)) hx hb dX6_counted_52 (by decide) ?_
          refine lv_iload_n hx hb dX6_counted_54 rfl (lv_at hl 1 rfl) ?_
          refine lv_imul hx hb dX6_counted_55 ?_
          refine lv_iadd hx hb dX6_counted_56 ?_
          refine lv_iload hx hb dX6_counted_57 (lv_at hl 4 rfl) ?_
          refine lv_iadd hx hb dX6_counted_59 ?_
          obtain ⟨hin, hf⟩ := gd_some hf
          refine kiald C hP 1 rfl hin dX6_counted_60 (j := (((767 : Int32) + ((8 : Int32) * y1)) + y4).toNatClampNeg) rfl ?_
          refine lv_if_le (tgt := 68) hx hb dX6_counted_61 (by decide) (fun hc => ?_) (fun hc => ?_)
          · rw [if_pos hc] at hf
            refine lv_iconst (v := (0 : Int32)) hx hb dX6_counted_68 (by decide) ?_
            obtain rfl := Option.some.inj hf
            exact hj69 _ _ _ hP hD hS (lv_sub hl [0, 1, 2, 4] rfl)
          · rw [if_neg hc] at hf
            refine lv_iconst (v := (1 : Int32)) hx hb dX6_counted_64 (by decide) ?_
            refine lv_goto (tgt := 69) hx hb dX6_counted_65 (by decide) ?_
            obtain rfl := Option.some.inj hf
            exact hj69 _ _ _ hP hD hS (lv_sub hl [0, 1, 2, 4] rfl)
        · rw [if_neg hc] at hf
          refine lv_aload_n hx hb dX6_counted_26 rfl (lv_at hl 0 rfl) ?_
          refine kget C inX6 hP 0 rfl rfl 0 (by decide) mw_687 rfl dX6_counted_27 ?_
          refine lv_sipush (v := (639 : Int32)) hx hb dX6_counted_30 (by decide) ?_
          refine lv_bipush (v := (16 : Int32)) hx hb dX6_counted_33 (by decide) ?_
          refine lv_iload_n hx hb dX6_counted_35 rfl (lv_at hl 1 rfl) ?_
          refine lv_imul hx hb dX6_counted_36 ?_
          refine lv_iadd hx hb dX6_counted_37 ?_
          refine lv_iload hx hb dX6_counted_38 (lv_at hl 4 rfl) ?_
          refine lv_iadd hx hb dX6_counted_40 ?_
          obtain ⟨hin, hf⟩ := gd_some hf
          refine kiald C hP 1 rfl hin dX6_counted_41 (j := (((639 : Int32) + ((16 : Int32) * y1)) + y4).toNatClampNeg) rfl ?_
          refine lv_goto (tgt := 69) hx hb dX6_counted_42 (by decide) ?_
          obtain rfl := Option.some.inj hf
          exact hj69 _ _ _ hP hD hS (lv_sub hl [0, 1, 2, 4] rfl)
    clear hf
    have hf := hv18
    refine lv_if_eq (tgt := 16) hx hb dX6_counted_8 (by decide) (fun hc => ?_) (fun hc => ?_)
    · rw [if_pos hc] at hf
      refine lv_bipush (v := (8 : Int32)) hx hb dX6_counted_16 (by decide) ?_
      obtain rfl := Option.some.inj hf
      exact hj18 _ _ _ hP hD hS (lv_sub hl [0, 1, 2, 3, 4] rfl)
    · rw [if_neg hc] at hf
      refine lv_bipush (v := (16 : Int32)) hx hb dX6_counted_11 (by decide) ?_
      refine lv_goto (tgt := 18) hx hb dX6_counted_13 (by decide) ?_
      obtain rfl := Option.some.inj hf
      exact hj18 _ _ _ hP hD hS (lv_sub hl [0, 1, 2, 3, 4] rfl)
set_option maxHeartbeats 4000000 in
set_option maxRecDepth 100000 in
theorem kX6_counted {l : Launch} {D : va_G} {k : Nat → ClassId} (h0 h1 : Nat) (z0 z1 z2 z3 z4 z5 z6 z7 z8 z9 z10 z11 z12 z13 z14 z15 z16 z17 z18 : Value) (v_page : Nat → Int32) (x1 : Int32) (x2 : Int32) (q : Int32) (hf : fX6_counted v_page x1 x2 = some q) : KMi l yX6_counted cX6_counted 5 (some .int) ({ frames := 0, cells := 0, slots := 0, locals := 0 } : Room) D k [.ref h0, .int x1, .int x2] (wX6_counted k h0 h1 z0 z1 z2 z3 z4 z5 z6 z7 z8 z9 z10 z11 z12 z13 z14 z15 z16 z17 z18 v_page) q (wX6_counted k h0 h1 z0 z1 z2 z3 z4 z5 z6 z7 z8 z9 z10 z11 z12 z13 z14 z15 z16 z17 z18 v_page) := by
  refine kent_i (by decide) (Nat.le_of_ble_eq_true rfl) ?_
  intro p e s m below meth c A Q ls C hP hD hS hl hret
  obtain ⟨hx, hb, -⟩ := id C
  have hl : lv_has ls 5 [(0, .ref h0), (1, .int x1), (2, .int x2)] := hl
  unfold fX6_counted at hf
  generalize ([.ref h0, .int x1, .int x2] : List Value).toArray = args at *
  refine lv_iconst (v := (0 : Int32)) hx hb dX6_counted_0 (by decide) ?_
  refine lv_istore_n (lv' := [(3, .int (0 : Int32)), (0, .ref h0), (1, .int x1), (2, .int x2)]) hx hb dX6_counted_1 rfl hl (by decide) rfl (fun ls hl => ?_)
  refine lv_iconst (v := (0 : Int32)) hx hb dX6_counted_2 (by decide) ?_
  refine lv_istore (lv' := [(4, .int (0 : Int32)), (3, .int (0 : Int32)), (0, .ref h0), (1, .int x1), (2, .int x2)]) hx hb dX6_counted_3 hl (by decide) rfl (fun ls hl => ?_)
  obtain ⟨ex5, hv, hf⟩ := bd_some hf
  refine wX6_counted_5 C h0 h1 z0 z1 z2 z3 z4 z5 z6 z7 z8 z9 z10 z11 z12 z13 z14 z15 z16 z17 z18 v_page x1 x2 FU (0 : Int32) (0 : Int32) ex5 _ _ _ hv hP hD hS (lv_sub hl [2, 3, 4, 1, 0] rfl) (fun H locs ls hP hD hS hl => ?_)
  refine lv_iload_n hx hb dX6_counted_77 rfl (lv_at hl 0 rfl) ?_
  obtain rfl := Option.some.inj hf
  exact hret _ _ _ _ dX6_counted_78 hP hS
set_option maxHeartbeats 4000000 in
set_option maxRecDepth 100000 in
theorem kX6_node {l : Launch} {D : va_G} {k : Nat → ClassId} (h0 h1 : Nat) (z0 z1 z2 z3 z4 z5 z6 z7 z8 z9 z10 z11 z12 z13 z14 z15 z16 z17 z18 : Value) (v_page : Nat → Int32) (x1 : Int32) (x2 : Int32) (q : Int32) (hf : fX6_node v_page x1 x2 = some q) : KMi l yX6_node cX6_node 3 (some .int) ({ frames := 3, cells := 0, slots := 0, locals := 69 } : Room) D k [.ref h0, .int x1, .int x2] (wX6_node k h0 h1 z0 z1 z2 z3 z4 z5 z6 z7 z8 z9 z10 z11 z12 z13 z14 z15 z16 z17 z18 v_page) q (wX6_node k h0 h1 z0 z1 z2 z3 z4 z5 z6 z7 z8 z9 z10 z11 z12 z13 z14 z15 z16 z17 z18 v_page) := by
  refine kent_i (by decide) (Nat.le_of_ble_eq_true rfl) ?_
  intro p e s m below meth c A Q ls C hP hD hS hl hret
  obtain ⟨hx, hb, -⟩ := id C
  have hl : lv_has ls 3 [(0, .ref h0), (1, .int x1), (2, .int x2)] := hl
  unfold fX6_node at hf
  generalize ([.ref h0, .int x1, .int x2] : List Value).toArray = args at *
  refine lv_aload_n hx hb dX6_node_0 rfl (lv_at hl 0 rfl) ?_
  refine lv_iload_n hx hb dX6_node_1 rfl (lv_at hl 1 rfl) ?_
  obtain ⟨q2, hq2, hf⟩ := bd_some hf
  refine kcVi C (kX6_isNode (l := l) (D := D) (k := k) h0 h1 z0 z1 z2 z3 z4 z5 z6 z7 z8 z9 z10 z11 z12 z13 z14 z15 z16 z17 z18 v_page x1 q2 hq2) mt_X6_isNode mw_831 ⟨rfl, rfl, Nat.le_of_ble_eq_true rfl, Nat.le_of_ble_eq_true rfl⟩ hP hD hS 0 rfl rfl rfl [0, 1] rfl rfl [some 0, some 1] rfl rfl (w2 := (wX6_node k h0 h1 z0 z1 z2 z3 z4 z5 z6 z7 z8 z9 z10 z11 z12 z13 z14 z15 z16 z17 z18 v_page)) rfl rfl rfl hl.1 (rest := []) (Nat.le_of_ble_eq_true rfl) rfl dX6_node_2 ⟨Nat.zero_le _, Nat.zero_le _⟩ (fun H locs hP hD hS => ?_)
  refine lv_if_ne (tgt := 10) hx hb dX6_node_5 (by decide) (fun hc => ?_) (fun hc => ?_)
  · rw [if_neg hc] at hf
    refine lv_iload_n hx hb dX6_node_10 rfl (lv_at hl 2 rfl) ?_
    by_cases hc0 : x2 = (0 : Int32)
    · rw [if_pos hc0] at hf
      refine lv_tableIn (tgt := 44) hx hb dX6_node_11 (by rw [hc0]; decide) (by rw [hc0]; decide) (by rw [hc0]; first | done | rfl) (by decide) ?_
      refine lv_aload_n hx hb dX6_node_44 rfl (lv_at hl 0 rfl) ?_
      refine kget C inX6 hP 0 rfl rfl 0 (by decide) mw_687 rfl dX6_node_45 ?_
      refine lv_bipush (v := (23 : Int32)) hx hb dX6_node_48 (by decide) ?_
      refine lv_iload_n hx hb dX6_node_50 rfl (lv_at hl 1 rfl) ?_
      refine lv_iadd hx hb dX6_node_51 ?_
      obtain ⟨hin, hf⟩ := gd_some hf
      refine kiald C hP 1 rfl hin dX6_node_52 (j := ((23 : Int32) + x1).toNatClampNeg) rfl ?_
      obtain rfl := Option.some.inj hf
      exact hret _ _ _ _ dX6_node_53 hP hS
    · rw [if_neg hc0] at hf
      by_cases hc1 : x2 = (1 : Int32)
      · rw [if_pos hc1] at hf
        refine lv_tableIn (tgt := 54) hx hb dX6_node_11 (by rw [hc1]; decide) (by rw [hc1]; decide) (by rw [hc1]; first | done | rfl) (by decide) ?_
        refine lv_aload_n hx hb dX6_node_54 rfl (lv_at hl 0 rfl) ?_
        refine lv_iload_n hx hb dX6_node_55 rfl (lv_at hl 1 rfl) ?_
        refine lv_iconst (v := (0 : Int32)) hx hb dX6_node_56 (by decide) ?_
        obtain ⟨q57, hq57, hf⟩ := bd_some hf
        refine kcVi C (kX6_loadOf (l := l) (D := D) (k := k) h0 h1 z0 z1 z2 z3 z4 z5 z6 z7 z8 z9 z10 z11 z12 z13 z14 z15 z16 z17 z18 v_page x1 (0 : Int32) q57 hq57) mt_X6_loadOf mw_835 ⟨rfl, rfl, Nat.le_of_ble_eq_true rfl, Nat.le_of_ble_eq_true rfl⟩ hP hD hS 0 rfl rfl rfl [0, 1] rfl rfl [some 0, some 1] rfl rfl (w2 := (wX6_node k h0 h1 z0 z1 z2 z3 z4 z5 z6 z7 z8 z9 z10 z11 z12 z13 z14 z15 z16 z17 z18 v_page)) rfl rfl rfl hl.1 (rest := []) (Nat.le_of_ble_eq_true rfl) rfl dX6_node_57 ⟨Nat.zero_le _, Nat.zero_le _⟩ (fun H locs hP hD hS => ?_)
        obtain rfl := Option.some.inj hf
        exact hret _ _ _ _ dX6_node_60 hP hS
      · rw [if_neg hc1] at hf
        by_cases hc2 : x2 = (2 : Int32)
        · rw [if_pos hc2] at hf
          refine lv_tableIn (tgt := 61) hx hb dX6_node_11 (by rw [hc2]; decide) (by rw [hc2]; decide) (by rw [hc2]; first | done | rfl) (by decide) ?_
          refine lv_aload_n hx hb dX6_node_61 rfl (lv_at hl 0 rfl) ?_
          refine lv_iload_n hx hb dX6_node_62 rfl (lv_at hl 1 rfl) ?_
          refine lv_bipush (v := (-4 : Int32)) hx hb dX6_node_63 (by decide) ?_
          obtain ⟨q65, hq65, hf⟩ := bd_some hf
          refine kcVi C (kX6_copiesOf (l := l) (D := D) (k := k) h0 h1 z0 z1 z2 z3 z4 z5 z6 z7 z8 z9 z10 z11 z12 z13 z14 z15 z16 z17 z18 v_page x1 (-4 : Int32) q65 hq65) mt_X6_copiesOf mw_815 ⟨rfl, rfl, Nat.le_of_ble_eq_true rfl, Nat.le_of_ble_eq_true rfl⟩ hP hD hS 0 rfl rfl rfl [0, 1] rfl rfl [some 0, some 1] rfl rfl (w2 := (wX6_node k h0 h1 z0 z1 z2 z3 z4 z5 z6 z7 z8 z9 z10 z11 z12 z13 z14 z15 z16 z17 z18 v_page)) rfl rfl rfl hl.1 (rest := []) (Nat.le_of_ble_eq_true rfl) rfl dX6_node_65 ⟨Nat.zero_le _, Nat.zero_le _⟩ (fun H locs hP hD hS => ?_)
          obtain rfl := Option.some.inj hf
          exact hret _ _ _ _ dX6_node_68 hP hS
        · rw [if_neg hc2] at hf
          by_cases hc3 : x2 = (3 : Int32)
          · rw [if_pos hc3] at hf
            refine lv_tableIn (tgt := 69) hx hb dX6_node_11 (by rw [hc3]; decide) (by rw [hc3]; decide) (by rw [hc3]; first | done | rfl) (by decide) ?_
            refine lv_aload_n hx hb dX6_node_69 rfl (lv_at hl 0 rfl) ?_
            refine lv_iload_n hx hb dX6_node_70 rfl (lv_at hl 1 rfl) ?_
            refine lv_iconst (v := (1 : Int32)) hx hb dX6_node_71 (by decide) ?_
            obtain ⟨q72, hq72, hf⟩ := bd_some hf
            refine kcVi C (kX6_counted (l := l) (D := D) (k := k) h0 h1 z0 z1 z2 z3 z4 z5 z6 z7 z8 z9 z10 z11 z12 z13 z14 z15 z16 z17 z18 v_page x1 (1 : Int32) q72 hq72) mt_X6_counted mw_843 ⟨rfl, rfl, Nat.le_of_ble_eq_true rfl, Nat.le_of_ble_eq_true rfl⟩ hP hD hS 0 rfl rfl rfl [0, 1] rfl rfl [some 0, some 1] rfl rfl (w2 := (wX6_node k h0 h1 z0 z1 z2 z3 z4 z5 z6 z7 z8 z9 z10 z11 z12 z13 z14 z15 z16 z17 z18 v_page)) rfl rfl rfl hl.1 (rest := []) (Nat.le_of_ble_eq_true rfl) rfl dX6_node_72 ⟨Nat.zero_le _, Nat.zero_le _⟩ (fun H locs hP hD hS => ?_)
            obtain rfl := Option.some.inj hf
            exact hret _ _ _ _ dX6_node_75 hP hS
          · rw [if_neg hc3] at hf
            by_cases hc4 : x2 = (4 : Int32)
            · rw [if_pos hc4] at hf
              refine lv_tableIn (tgt := 76) hx hb dX6_node_11 (by rw [hc4]; decide) (by rw [hc4]; decide) (by rw [hc4]; first | done | rfl) (by decide) ?_
              refine lv_aload_n hx hb dX6_node_76 rfl (lv_at hl 0 rfl) ?_
              refine lv_iload_n hx hb dX6_node_77 rfl (lv_at hl 1 rfl) ?_
              refine lv_iconst (v := (0 : Int32)) hx hb dX6_node_78 (by decide) ?_
              obtain ⟨q79, hq79, hf⟩ := bd_some hf
              refine kcVi C (kX6_counted (l := l) (D := D) (k := k) h0 h1 z0 z1 z2 z3 z4 z5 z6 z7 z8 z9 z10 z11 z12 z13 z14 z15 z16 z17 z18 v_page x1 (0 : Int32) q79 hq79) mt_X6_counted mw_843 ⟨rfl, rfl, Nat.le_of_ble_eq_true rfl, Nat.le_of_ble_eq_true rfl⟩ hP hD hS 0 rfl rfl rfl [0, 1] rfl rfl [some 0, some 1] rfl rfl (w2 := (wX6_node k h0 h1 z0 z1 z2 z3 z4 z5 z6 z7 z8 z9 z10 z11 z12 z13 z14 z15 z16 z17 z18 v_page)) rfl rfl rfl hl.1 (rest := []) (Nat.le_of_ble_eq_true rfl) rfl dX6_node_79 ⟨Nat.zero_le _, Nat.zero_le _⟩ (fun H locs hP hD hS => ?_)
              obtain rfl := Option.some.inj hf
              exact hret _ _ _ _ dX6_node_82 hP hS
            · rw [if_neg hc4] at hf
              have hd : W p l e ({ frames := 3, cells := 0, slots := 0, locals := 69 } : Room) s m args below meth c H locs 0 0 Q (F0 m 83 ls []) := by
                refine lv_iconst (v := (-1 : Int32)) hx hb dX6_node_83 (by decide) ?_
                obtain rfl := Option.some.inj hf
                exact hret _ _ _ _ dX6_node_84 hP hS
              exact lv_tableOut (tgt := 83) hx hb dX6_node_11 (by have := lv_neT hc0 (show ((0 : Int32)).toInt = 0 from rfl); have := lv_neT hc1 (show ((1 : Int32)).toInt = 1 from rfl); have := lv_neT hc2 (show ((2 : Int32)).toInt = 2 from rfl); have := lv_neT hc3 (show ((3 : Int32)).toInt = 3 from rfl); have := lv_neT hc4 (show ((4 : Int32)).toInt = 4 from rfl); omega) (by decide) hd
  · rw [if_pos hc] at hf
    refine lv_iconst (v := (-1 : Int32)) hx hb dX6_node_8 (by decide) ?_
    obtain rfl := Option.some.inj hf
    exact hret _ _ _ _ dX6_node_9 hP hS
set_option maxHeartbeats 4000000 in
set_option maxRecDepth 100000 in
theorem kX6_nextTime {l : Launch} {D : va_G} {k : Nat → ClassId} (h0 h1 : Nat) (z0 z1 z2 z3 z4 z5 z6 z7 z8 z9 z10 z11 z12 z13 z14 z15 z16 z17 z18 : Value) (v_page : Nat → Int32) (x1 : Int32) (q : Int32) (hf : fX6_nextTime v_page x1 = some q) : KMi l yX6_nextTime cX6_nextTime 3 (some .int) ({ frames := 1, cells := 0, slots := 0, locals := 22 } : Room) D k [.ref h0, .int x1] (wX6_nextTime k h0 h1 z0 z1 z2 z3 z4 z5 z6 z7 z8 z9 z10 z11 z12 z13 z14 z15 z16 z17 z18 v_page) q (wX6_nextTime k h0 h1 z0 z1 z2 z3 z4 z5 z6 z7 z8 z9 z10 z11 z12 z13 z14 z15 z16 z17 z18 v_page) := by
  refine kent_i (by decide) (Nat.le_of_ble_eq_true rfl) ?_
  intro p e s m below meth c A Q ls C hP hD hS hl hret
  obtain ⟨hx, hb, -⟩ := id C
  have hl : lv_has ls 3 [(0, .ref h0), (1, .int x1)] := hl
  unfold fX6_nextTime at hf
  generalize ([.ref h0, .int x1] : List Value).toArray = args at *
  refine lv_aload_n hx hb dX6_nextTime_0 rfl (lv_at hl 0 rfl) ?_
  refine lv_iload_n hx hb dX6_nextTime_1 rfl (lv_at hl 1 rfl) ?_
  refine lv_iconst (v := (0 : Int32)) hx hb dX6_nextTime_2 (by decide) ?_
  obtain ⟨q3, hq3, hf⟩ := bd_some hf
  refine kcVi C (kX6_ofMeeting (l := l) (D := D) (k := k) h0 h1 z0 z1 z2 z3 z4 z5 z6 z7 z8 z9 z10 z11 z12 z13 z14 z15 z16 z17 z18 v_page x1 (0 : Int32) q3 hq3) mt_X6_ofMeeting mw_851 ⟨rfl, rfl, Nat.le_of_ble_eq_true rfl, Nat.le_of_ble_eq_true rfl⟩ hP hD hS 0 rfl rfl rfl [0, 1] rfl rfl [some 0, some 1] rfl rfl (w2 := (wX6_nextTime k h0 h1 z0 z1 z2 z3 z4 z5 z6 z7 z8 z9 z10 z11 z12 z13 z14 z15 z16 z17 z18 v_page)) rfl rfl rfl hl.1 (rest := []) (Nat.le_of_ble_eq_true rfl) rfl dX6_nextTime_3 ⟨Nat.zero_le _, Nat.zero_le _⟩ (fun H locs hP hD hS => ?_)
  refine lv_istore_n (lv' := [(2, .int q3), (0, .ref h0), (1, .int x1)]) hx hb dX6_nextTime_6 rfl hl (by decide) rfl (fun ls hl => ?_)
  refine lv_aload_n hx hb dX6_nextTime_7 rfl (lv_at hl 1 rfl) ?_
  refine kget C inX6 hP 0 rfl rfl 0 (by decide) mw_687 rfl dX6_nextTime_8 ?_
  refine lv_iconst (v := (3 : Int32)) hx hb dX6_nextTime_11 (by decide) ?_
  refine kiald C hP 1 rfl (by unfold vp_in; decide) dX6_nextTime_12 (j := 3) (by decide) ?_
  refine lv_iload_n hx hb dX6_nextTime_13 rfl (lv_at hl 0 rfl) ?_
  refine lv_icmp_ge (tgt := 19) hx hb dX6_nextTime_14 (by decide) (fun hc => ?_) (fun hc => ?_)
  · rw [if_pos hc] at hf
    refine lv_aload_n hx hb dX6_nextTime_19 rfl (lv_at hl 1 rfl) ?_
    refine kget C inX6 hP 0 rfl rfl 0 (by decide) mw_687 rfl dX6_nextTime_20 ?_
    refine lv_iconst (v := (4 : Int32)) hx hb dX6_nextTime_23 (by decide) ?_
    refine kiald C hP 1 rfl (by unfold vp_in; decide) dX6_nextTime_24 (j := 4) (by decide) ?_
    refine lv_if_ne (tgt := 33) hx hb dX6_nextTime_25 (by decide) (fun hc => ?_) (fun hc => ?_)
    · rw [if_neg hc] at hf
      refine lv_iload_n hx hb dX6_nextTime_33 rfl (lv_at hl 0 rfl) ?_
      refine lv_aload_n hx hb dX6_nextTime_34 rfl (lv_at hl 1 rfl) ?_
      refine kget C inX6 hP 0 rfl rfl 0 (by decide) mw_687 rfl dX6_nextTime_35 ?_
      refine lv_iconst (v := (3 : Int32)) hx hb dX6_nextTime_38 (by decide) ?_
      refine kiald C hP 1 rfl (by unfold vp_in; decide) dX6_nextTime_39 (j := 3) (by decide) ?_
      refine lv_iload_n hx hb dX6_nextTime_40 rfl (lv_at hl 0 rfl) ?_
      refine lv_isub hx hb dX6_nextTime_41 ?_
      refine lv_aload_n hx hb dX6_nextTime_42 rfl (lv_at hl 1 rfl) ?_
      refine kget C inX6 hP 0 rfl rfl 0 (by decide) mw_687 rfl dX6_nextTime_43 ?_
      refine lv_iconst (v := (4 : Int32)) hx hb dX6_nextTime_46 (by decide) ?_
      refine kiald C hP 1 rfl (by unfold vp_in; decide) dX6_nextTime_47 (j := 4) (by decide) ?_
      obtain ⟨hne, hf⟩ := dv_some hf
      refine lv_idiv hx hb dX6_nextTime_48 hne ?_
      refine lv_iconst (v := (1 : Int32)) hx hb dX6_nextTime_49 (by decide) ?_
      refine lv_iadd hx hb dX6_nextTime_50 ?_
      refine lv_aload_n hx hb dX6_nextTime_51 rfl (lv_at hl 1 rfl) ?_
      refine kget C inX6 hP 0 rfl rfl 0 (by decide) mw_687 rfl dX6_nextTime_52 ?_
      refine lv_iconst (v := (4 : Int32)) hx hb dX6_nextTime_55 (by decide) ?_
      refine kiald C hP 1 rfl (by unfold vp_in; decide) dX6_nextTime_56 (j := 4) (by decide) ?_
      refine lv_imul hx hb dX6_nextTime_57 ?_
      refine lv_iadd hx hb dX6_nextTime_58 ?_
      obtain rfl := Option.some.inj hf
      exact hret _ _ _ _ dX6_nextTime_59 hP hS
    · rw [if_pos hc] at hf
      refine lv_bipush (v := (-4 : Int32)) hx hb dX6_nextTime_28 (by decide) ?_
      refine lv_goto (tgt := 59) hx hb dX6_nextTime_30 (by decide) ?_
      obtain rfl := Option.some.inj hf
      exact hret _ _ _ _ dX6_nextTime_59 hP hS
  · rw [if_neg hc] at hf
    refine lv_iload_n hx hb dX6_nextTime_17 rfl (lv_at hl 0 rfl) ?_
    obtain rfl := Option.some.inj hf
    exact hret _ _ _ _ dX6_nextTime_18 hP hS
set_option maxHeartbeats 4000000 in
set_option maxRecDepth 100000 in
theorem kX6_meeting {l : Launch} {D : va_G} {k : Nat → ClassId} (h0 h1 : Nat) (z0 z1 z2 z3 z4 z5 z6 z7 z8 z9 z10 z11 z12 z13 z14 z15 z16 z17 z18 : Value) (v_page : Nat → Int32) (x1 : Int32) (x2 : Int32) (q : Int32) (hf : fX6_meeting v_page x1 x2 = some q) : KMi l yX6_meeting cX6_meeting 3 (some .int) ({ frames := 2, cells := 0, slots := 0, locals := 44 } : Room) D k [.ref h0, .int x1, .int x2] (wX6_meeting k h0 h1 z0 z1 z2 z3 z4 z5 z6 z7 z8 z9 z10 z11 z12 z13 z14 z15 z16 z17 z18 v_page) q (wX6_meeting k h0 h1 z0 z1 z2 z3 z4 z5 z6 z7 z8 z9 z10 z11 z12 z13 z14 z15 z16 z17 z18 v_page) := by
  refine kent_i (by decide) (Nat.le_of_ble_eq_true rfl) ?_
  intro p e s m below meth c A Q ls C hP hD hS hl hret
  obtain ⟨hx, hb, -⟩ := id C
  have hl : lv_has ls 3 [(0, .ref h0), (1, .int x1), (2, .int x2)] := hl
  unfold fX6_meeting at hf
  generalize ([.ref h0, .int x1, .int x2] : List Value).toArray = args at *
  refine lv_iload_n hx hb dX6_meeting_0 rfl (lv_at hl 1 rfl) ?_
  refine lv_i2l (v := (x1.toInt64)) hx hb dX6_meeting_1 rfl ?_
  refine lv_lconst (v := (0 : Int64)) hx hb dX6_meeting_2 (by decide) ?_
  refine lv_aload_n hx hb dX6_meeting_3 rfl (lv_at hl 0 rfl) ?_
  refine kget C inX6 hP 0 rfl rfl 0 (by decide) mw_687 rfl dX6_meeting_4 ?_
  refine lv_iconst (v := (1 : Int32)) hx hb dX6_meeting_7 (by decide) ?_
  refine kiald C hP 1 rfl (by unfold vp_in; decide) dX6_meeting_8 (j := 1) (by decide) ?_
  refine lv_iconst (v := (1 : Int32)) hx hb dX6_meeting_9 (by decide) ?_
  refine lv_isub hx hb dX6_meeting_10 ?_
  refine lv_i2l (v := (((v_page 1) - (1 : Int32)).toInt64)) hx hb dX6_meeting_11 rfl ?_
  obtain ⟨q12, hq12, hf⟩ := bd_some hf
  refine kcSi C (kX6_in (l := l) (D := D) (k := k) (x1.toInt64) (0 : Int64) (((v_page 1) - (1 : Int32)).toInt64) q12 hq12) mt_X6_in mw_753 ⟨rfl, rfl, Nat.le_of_ble_eq_true rfl, Nat.le_of_ble_eq_true rfl⟩ hP hD hS [] rfl rfl [none, none] rfl rfl (w2 := (wX6_meeting k h0 h1 z0 z1 z2 z3 z4 z5 z6 z7 z8 z9 z10 z11 z12 z13 z14 z15 z16 z17 z18 v_page)) rfl rfl rfl hl.1 (rest := []) (Nat.le_of_ble_eq_true rfl) rfl dX6_meeting_12 ⟨Nat.zero_le _, Nat.zero_le _⟩ (fun H locs hP hD hS => ?_)
  refine lv_if_eq (tgt := 30) hx hb dX6_meeting_15 (by decide) (fun hc => ?_) (fun hc => ?_)
  · rw [if_pos hc] at hf
    refine lv_iconst (v := (-1 : Int32)) hx hb dX6_meeting_30 (by decide) ?_
    obtain rfl := Option.some.inj hf
    exact hret _ _ _ _ dX6_meeting_31 hP hS
  · rw [if_neg hc] at hf
    refine lv_iload_n hx hb dX6_meeting_18 rfl (lv_at hl 2 rfl) ?_
    refine lv_i2l (v := (x2.toInt64)) hx hb dX6_meeting_19 rfl ?_
    refine lv_lconst (v := (0 : Int64)) hx hb dX6_meeting_20 (by decide) ?_
    refine lv_ldc2 (v := (4 : Int64)) hx hb C.2.2.2.1 (C.2.2.2.2.1 _ mw_764) dX6_meeting_21 ?_
    obtain ⟨q24, hq24, hf⟩ := bd_some hf
    refine kcSi C (kX6_in (l := l) (D := D) (k := k) (x2.toInt64) (0 : Int64) (4 : Int64) q24 hq24) mt_X6_in mw_753 ⟨rfl, rfl, Nat.le_of_ble_eq_true rfl, Nat.le_of_ble_eq_true rfl⟩ hP hD hS [] rfl rfl [none, none] rfl rfl (w2 := (wX6_meeting k h0 h1 z0 z1 z2 z3 z4 z5 z6 z7 z8 z9 z10 z11 z12 z13 z14 z15 z16 z17 z18 v_page)) rfl rfl rfl hl.1 (rest := []) (Nat.le_of_ble_eq_true rfl) rfl dX6_meeting_24 ⟨Nat.zero_le _, Nat.zero_le _⟩ (fun H locs hP hD hS => ?_)
    refine lv_if_ne (tgt := 32) hx hb dX6_meeting_27 (by decide) (fun hc => ?_) (fun hc => ?_)
    · rw [if_neg hc] at hf
      refine lv_iload_n hx hb dX6_meeting_32 rfl (lv_at hl 2 rfl) ?_
      refine lv_iconst (v := (4 : Int32)) hx hb dX6_meeting_33 (by decide) ?_
      refine lv_icmp_ge (tgt := 46) hx hb dX6_meeting_34 (by decide) (fun hc => ?_) (fun hc => ?_)
      · rw [if_pos hc] at hf
        refine lv_aload_n hx hb dX6_meeting_46 rfl (lv_at hl 0 rfl) ?_
        refine lv_iload_n hx hb dX6_meeting_47 rfl (lv_at hl 1 rfl) ?_
        obtain ⟨q48, hq48, hf⟩ := bd_some hf
        refine kcVi C (kX6_nextTime (l := l) (D := D) (k := k) h0 h1 z0 z1 z2 z3 z4 z5 z6 z7 z8 z9 z10 z11 z12 z13 z14 z15 z16 z17 z18 v_page x1 q48 hq48) mt_X6_nextTime mw_855 ⟨rfl, rfl, Nat.le_of_ble_eq_true rfl, Nat.le_of_ble_eq_true rfl⟩ hP hD hS 0 rfl rfl rfl [0, 1] rfl rfl [some 0, some 1] rfl rfl (w2 := (wX6_meeting k h0 h1 z0 z1 z2 z3 z4 z5 z6 z7 z8 z9 z10 z11 z12 z13 z14 z15 z16 z17 z18 v_page)) rfl rfl rfl hl.1 (rest := []) (Nat.le_of_ble_eq_true rfl) rfl dX6_meeting_48 ⟨Nat.zero_le _, Nat.zero_le _⟩ (fun H locs hP hD hS => ?_)
        obtain rfl := Option.some.inj hf
        exact hret _ _ _ _ dX6_meeting_51 hP hS
      · rw [if_neg hc] at hf
        refine lv_aload_n hx hb dX6_meeting_37 rfl (lv_at hl 0 rfl) ?_
        refine lv_iload_n hx hb dX6_meeting_38 rfl (lv_at hl 1 rfl) ?_
        refine lv_iload_n hx hb dX6_meeting_39 rfl (lv_at hl 2 rfl) ?_
        obtain ⟨q40, hq40, hf⟩ := bd_some hf
        refine kcVi C (kX6_ofMeeting (l := l) (D := D) (k := k) h0 h1 z0 z1 z2 z3 z4 z5 z6 z7 z8 z9 z10 z11 z12 z13 z14 z15 z16 z17 z18 v_page x1 x2 q40 hq40) mt_X6_ofMeeting mw_851 ⟨rfl, rfl, Nat.le_of_ble_eq_true rfl, Nat.le_of_ble_eq_true rfl⟩ hP hD hS 0 rfl rfl rfl [0, 1] rfl rfl [some 0, some 1] rfl rfl (w2 := (wX6_meeting k h0 h1 z0 z1 z2 z3 z4 z5 z6 z7 z8 z9 z10 z11 z12 z13 z14 z15 z16 z17 z18 v_page)) rfl rfl rfl hl.1 (rest := []) (Nat.le_of_ble_eq_true rfl) rfl dX6_meeting_40 ⟨Nat.zero_le _, Nat.zero_le _⟩ (fun H locs hP hD hS => ?_)
        refine lv_goto (tgt := 51) hx hb dX6_meeting_43 (by decide) ?_
        obtain rfl := Option.some.inj hf
        exact hret _ _ _ _ dX6_meeting_51 hP hS
    · rw [if_pos hc] at hf
      refine lv_iconst (v := (-1 : Int32)) hx hb dX6_meeting_30 (by decide) ?_
      obtain rfl := Option.some.inj hf
      exact hret _ _ _ _ dX6_meeting_31 hP hS
set_option maxHeartbeats 4000000 in
set_option maxRecDepth 100000 in
theorem wX6_tokensOfAll_4 {p : Program} {l : Launch} {e : Env} {s : State} {m : MethodId} {args : Array Value} {below : List Frame} {meth : Method} {c : Code} {A : Nat → Prop} {Q : State → Prop} {D : va_G} {k : Nat → ClassId} (C : Cx p s m args c cX6_tokensOfAll 4 RX6 A D k) (h0 h1 : Nat) (z0 z1 z2 z3 z4 z5 z6 z7 z8 z9 z10 z11 z12 z13 z14 z15 z16 z17 z18 : Value) (v_page : Nat → Int32) (y1 : Int32) : ∀ (f : Nat) (y2 : Int32) (y3 : Int32) (ex : (Int32)) (H : Heap) (locs : List Loc) (ls : Array Slot), fX6_tokensOfAll_4 v_page y1 f y2 y3 = some ex → va_P D vwCl (wX6_tokensOfAll k h0 h1 z0 z1 z2 z3 z4 z5 z6 z7 z8 z9 z10 z11 z12 z13 z14 z15 z16 z17 z18 v_page) H → va_D A (wX6_tokensOfAll k h0 h1 z0 z1 z2 z3 z4 z5 z6 z7 z8 z9 z10 z11 z12 z13 z14 z15 z16 z17 z18 v_page) → va_S A s.heap H locs → lv_has ls 4 [(0, .ref h0), (1, .int y1), (2, .int y2), (3, .int y3)] → (∀ (H : Heap) (locs : List Loc) (ls : Array Slot), va_P D vwCl (wX6_tokensOfAll k h0 h1 z0 z1 z2 z3 z4 z5 z6 z7 z8 z9 z10 z11 z12 z13 z14 z15 z16 z17 z18 v_page) H → va_D A (wX6_tokensOfAll k h0 h1 z0 z1 z2 z3 z4 z5 z6 z7 z8 z9 z10 z11 z12 z13 z14 z15 z16 z17 z18 v_page) → va_S A s.heap H locs → lv_has ls 4 [(2, .int ex)] → W p l e ({ frames := 2, cells := 0, slots := 0, locals := 44 } : Room) s m args below meth c H locs 0 0 Q (F0 m 29 ls [])) → W p l e ({ frames := 2, cells := 0, slots := 0, locals := 44 } : Room) s m args below meth c H locs 0 0 Q (F0 m 4 ls []) := by
  obtain ⟨hx, hb, -⟩ := id C
  intro f
  induction f with
  | zero =>
    intro y2 y3 ex H locs ls hf hP hD hS hl hk
    cases hf
  | succ f ih =>
    intro y2 y3 ex H locs ls hf hP hD hS hl hk
    rw [fX6_tokensOfAll_4] at hf
    refine lv_iload_n hx hb dX6_tokensOfAll_4 rfl (lv_at hl 3 rfl) ?_
    refine lv_aload_n hx hb dX6_tokensOfAll_5 rfl (lv_at hl 0 rfl) ?_
    refine kget C inX6 hP 0 rfl rfl 0 (by decide) mw_687 rfl dX6_tokensOfAll_6 ?_
    refine lv_iconst (v := (0 : Int32)) hx hb dX6_tokensOfAll_9 (by decide) ?_
    refine kiald C hP 1 rfl (by unfold vp_in; decide) dX6_tokensOfAll_10 (j := 0) (by decide) ?_
    refine lv_icmp_ge (tgt := 29) hx hb dX6_tokensOfAll_11 (by decide) (fun hc => ?_) (fun hc => ?_)
    · rw [if_pos hc] at hf
      obtain rfl := Option.some.inj hf
      exact hk _ _ _ hP hD hS (lv_sub hl [2] rfl)
    · rw [if_neg hc] at hf
      refine lv_iload_n hx hb dX6_tokensOfAll_14 rfl (lv_at hl 2 rfl) ?_
      refine lv_aload_n hx hb dX6_tokensOfAll_15 rfl (lv_at hl 0 rfl) ?_
      refine lv_iload_n hx hb dX6_tokensOfAll_16 rfl (lv_at hl 3 rfl) ?_
      refine lv_iload_n hx hb dX6_tokensOfAll_17 rfl (lv_at hl 1 rfl) ?_
      obtain ⟨q18, hq18, hf⟩ := bd_some hf
      refine kcVi C (kX6_tokensOf (l := l) (D := D) (k := k) h0 h1 z0 z1 z2 z3 z4 z5 z6 z7 z8 z9 z10 z11 z12 z13 z14 z15 z16 z17 z18 v_page y3 y1 q18 hq18) mt_X6_tokensOf mw_876 ⟨rfl, rfl, Nat.le_of_ble_eq_true rfl, Nat.le_of_ble_eq_true rfl⟩ hP hD hS 0 rfl rfl rfl [0, 1] rfl rfl [some 0, some 1] rfl rfl (w2 := (wX6_tokensOfAll k h0 h1 z0 z1 z2 z3 z4 z5 z6 z7 z8 z9 z10 z11 z12 z13 z14 z15 z16 z17 z18 v_page)) rfl rfl rfl hl.1 (rest := [.int y2]) (Nat.le_of_ble_eq_true rfl) rfl dX6_tokensOfAll_18 ⟨Nat.zero_le _, Nat.zero_le _⟩ (fun H locs hP hD hS => ?_)
      refine lv_iadd hx hb dX6_tokensOfAll_21 ?_
      refine lv_istore_n (lv' := [(2, .int (y2 + q18)), (0, .ref h0), (1, .int y1), (3, .int y3)]) hx hb dX6_tokensOfAll_22 rfl hl (by decide) rfl (fun ls hl => ?_)
      refine lv_iinc (v := (y3 + (1 : Int32))) (lv' := [(3, .int (y3 + (1 : Int32))), (2, .int (y2 + q18)), (0, .ref h0), (1, .int y1)]) hx hb dX6_tokensOfAll_23 hl (k := 3) rfl rfl (by decide) rfl (fun ls hl => ?_)
      refine lv_goto (tgt := 4) hx hb dX6_tokensOfAll_26 (by decide) ?_
      exact ih (y2 + q18) (y3 + (1 : Int32)) _ _ _ _ hf hP hD hS (lv_sub hl [2, 3, 1, 0] rfl) hk
set_option maxHeartbeats 4000000 in
set_option maxRecDepth 100000 in
theorem kX6_tokensOfAll {l : Launch} {D : va_G} {k : Nat → ClassId} (h0 h1 : Nat) (z0 z1 z2 z3 z4 z5 z6 z7 z8 z9 z10 z11 z12 z13 z14 z15 z16 z17 z18 : Value) (v_page : Nat → Int32) (x1 : Int32) (q : Int32) (hf : fX6_tokensOfAll v_page x1 = some q) : KMi l yX6_tokensOfAll cX6_tokensOfAll 4 (some .int) ({ frames := 2, cells := 0, slots := 0, locals := 44 } : Room) D k [.ref h0, .int x1] (wX6_tokensOfAll k h0 h1 z0 z1 z2 z3 z4 z5 z6 z7 z8 z9 z10 z11 z12 z13 z14 z15 z16 z17 z18 v_page) q (wX6_tokensOfAll k h0 h1 z0 z1 z2 z3 z4 z5 z6 z7 z8 z9 z10 z11 z12 z13 z14 z15 z16 z17 z18 v_page) := by
  refine kent_i (by decide) (Nat.le_of_ble_eq_true rfl) ?_
  intro p e s m below meth c A Q ls C hP hD hS hl hret
  obtain ⟨hx, hb, -⟩ := id C
  have hl : lv_has ls 4 [(0, .ref h0), (1, .int x1)] := hl
  unfold fX6_tokensOfAll at hf
  generalize ([.ref h0, .int x1] : List Value).toArray = args at *
  refine lv_iconst (v := (0 : Int32)) hx hb dX6_tokensOfAll_0 (by decide) ?_
  refine lv_istore_n (lv' := [(2, .int (0 : Int32)), (0, .ref h0), (1, .int x1)]) hx hb dX6_tokensOfAll_1 rfl hl (by decide) rfl (fun ls hl => ?_)
  refine lv_iconst (v := (0 : Int32)) hx hb dX6_tokensOfAll_2 (by decide) ?_
  refine lv_istore_n (lv' := [(3, .int (0 : Int32)), (2, .int (0 : Int32)), (0, .ref h0), (1, .int x1)]) hx hb dX6_tokensOfAll_3 rfl hl (by decide) rfl (fun ls hl => ?_)
  obtain ⟨ex4, hv, hf⟩ := bd_some hf
  refine wX6_tokensOfAll_4 C h0 h1 z0 z1 z2 z3 z4 z5 z6 z7 z8 z9 z10 z11 z12 z13 z14 z15 z16 z17 z18 v_page x1 FU (0 : Int32) (0 : Int32) ex4 _ _ _ hv hP hD hS (lv_sub hl [2, 3, 1, 0] rfl) (fun H locs ls hP hD hS hl => ?_)
  refine lv_iload_n hx hb dX6_tokensOfAll_29 rfl (lv_at hl 0 rfl) ?_
  obtain rfl := Option.some.inj hf
  exact hret _ _ _ _ dX6_tokensOfAll_30 hP hS
set_option maxHeartbeats 4000000 in
set_option maxRecDepth 100000 in
theorem kX6_isWhat {l : Launch} {D : va_G} {k : Nat → ClassId} (h0 h1 : Nat) (z0 z1 z2 z3 z4 z5 z6 z7 z8 z9 z10 z11 z12 z13 z14 z15 z16 z17 z18 : Value) (v_page : Nat → Int32) (x1 : Int32) (q : Int32) (hf : fX6_isWhat v_page x1 = some q) : KMi l yX6_isWhat cX6_isWhat 2 (some .int) ({ frames := 3, cells := 0, slots := 0, locals := 69 } : Room) D k [.ref h0, .int x1] (wX6_isWhat k h0 h1 z0 z1 z2 z3 z4 z5 z6 z7 z8 z9 z10 z11 z12 z13 z14 z15 z16 z17 z18 v_page) q (wX6_isWhat k h0 h1 z0 z1 z2 z3 z4 z5 z6 z7 z8 z9 z10 z11 z12 z13 z14 z15 z16 z17 z18 v_page) := by
  refine kent_i (by decide) (Nat.le_of_ble_eq_true rfl) ?_
  intro p e s m below meth c A Q ls C hP hD hS hl hret
  obtain ⟨hx, hb, -⟩ := id C
  have hl : lv_has ls 2 [(0, .ref h0), (1, .int x1)] := hl
  unfold fX6_isWhat at hf
  generalize ([.ref h0, .int x1] : List Value).toArray = args at *
  refine lv_aload_n hx hb dX6_isWhat_0 rfl (lv_at hl 0 rfl) ?_
  refine lv_iload_n hx hb dX6_isWhat_1 rfl (lv_at hl 1 rfl) ?_
  refine lv_iconst (v := (0 : Int32)) hx hb dX6_isWhat_2 (by decide) ?_
  obtain ⟨q3, hq3, hf⟩ := bd_some hf
  refine kcVi C (kX6_ofLetter (l := l) (D := D) (k := k) h0 h1 z0 z1 z2 z3 z4 z5 z6 z7 z8 z9 z10 z11 z12 z13 z14 z15 z16 z17 z18 v_page x1 (0 : Int32) q3 hq3) mt_X6_ofLetter mw_839 ⟨rfl, rfl, Nat.le_of_ble_eq_true rfl, Nat.le_of_ble_eq_true rfl⟩ hP hD hS 0 rfl rfl rfl [0, 1] rfl rfl [some 0, some 1] rfl rfl (w2 := (wX6_isWhat k h0 h1 z0 z1 z2 z3 z4 z5 z6 z7 z8 z9 z10 z11 z12 z13 z14 z15 z16 z17 z18 v_page)) rfl rfl rfl hl.1 (rest := []) (Nat.le_of_ble_eq_true rfl) rfl dX6_isWhat_3 ⟨Nat.zero_le _, Nat.zero_le _⟩ (fun H locs hP hD hS => ?_)
  refine lv_aload_n hx hb dX6_isWhat_6 rfl (lv_at hl 0 rfl) ?_
  refine kget C inX6 hP 0 rfl rfl 0 (by decide) mw_687 rfl dX6_isWhat_7 ?_
  refine lv_iconst (v := (3 : Int32)) hx hb dX6_isWhat_10 (by decide) ?_
  refine kiald C hP 1 rfl (by unfold vp_in; decide) dX6_isWhat_11 (j := 3) (by decide) ?_
  refine lv_icmp_le (tgt := 17) hx hb dX6_isWhat_12 (by decide) (fun hc => ?_) (fun hc => ?_)
  · rw [if_pos hc] at hf
    refine lv_aload_n hx hb dX6_isWhat_17 rfl (lv_at hl 0 rfl) ?_
    refine lv_iload_n hx hb dX6_isWhat_18 rfl (lv_at hl 1 rfl) ?_
    refine lv_bipush (v := (6 : Int32)) hx hb dX6_isWhat_19 (by decide) ?_
    obtain ⟨q21, hq21, hf⟩ := bd_some hf
    refine kcVi C (kX6_ofLetter (l := l) (D := D) (k := k) h0 h1 z0 z1 z2 z3 z4 z5 z6 z7 z8 z9 z10 z11 z12 z13 z14 z15 z16 z17 z18 v_page x1 (6 : Int32) q21 hq21) mt_X6_ofLetter mw_839 ⟨rfl, rfl, Nat.le_of_ble_eq_true rfl, Nat.le_of_ble_eq_true rfl⟩ hP hD hS 0 rfl rfl rfl [0, 1] rfl rfl [some 0, some 1] rfl rfl (w2 := (wX6_isWhat k h0 h1 z0 z1 z2 z3 z4 z5 z6 z7 z8 z9 z10 z11 z12 z13 z14 z15 z16 z17 z18 v_page)) rfl rfl rfl hl.1 (rest := []) (Nat.le_of_ble_eq_true rfl) rfl dX6_isWhat_21 ⟨Nat.zero_le _, Nat.zero_le _⟩ (fun H locs hP hD hS => ?_)
    refine lv_bipush (v := (-4 : Int32)) hx hb dX6_isWhat_24 (by decide) ?_
    refine lv_icmp_eq (tgt := 33) hx hb dX6_isWhat_26 (by decide) (fun hc => ?_) (fun hc => ?_)
    · rw [if_pos hc] at hf
      refine lv_aload_n hx hb dX6_isWhat_33 rfl (lv_at hl 0 rfl) ?_
      refine lv_bipush (v := (-4 : Int32)) hx hb dX6_isWhat_34 (by decide) ?_
      refine lv_iload_n hx hb dX6_isWhat_36 rfl (lv_at hl 1 rfl) ?_
      obtain ⟨q37, hq37, hf⟩ := bd_some hf
      refine kcVi C (kX6_copiesOf (l := l) (D := D) (k := k) h0 h1 z0 z1 z2 z3 z4 z5 z6 z7 z8 z9 z10 z11 z12 z13 z14 z15 z16 z17 z18 v_page (-4 : Int32) x1 q37 hq37) mt_X6_copiesOf mw_815 ⟨rfl, rfl, Nat.le_of_ble_eq_true rfl, Nat.le_of_ble_eq_true rfl⟩ hP hD hS 0 rfl rfl rfl [0, 1] rfl rfl [some 0, some 1] rfl rfl (w2 := (wX6_isWhat k h0 h1 z0 z1 z2 z3 z4 z5 z6 z7 z8 z9 z10 z11 z12 z13 z14 z15 z16 z17 z18 v_page)) rfl rfl rfl hl.1 (rest := []) (Nat.le_of_ble_eq_true rfl) rfl dX6_isWhat_37 ⟨Nat.zero_le _, Nat.zero_le _⟩ (fun H locs hP hD hS => ?_)
      refine lv_if_le (tgt := 47) hx hb dX6_isWhat_40 (by decide) (fun hc => ?_) (fun hc => ?_)
      · rw [if_pos hc] at hf
        refine lv_iconst (v := (3 : Int32)) hx hb dX6_isWhat_47 (by decide) ?_
        obtain rfl := Option.some.inj hf
        exact hret _ _ _ _ dX6_isWhat_48 hP hS
      · rw [if_neg hc] at hf
        refine lv_iconst (v := (1 : Int32)) hx hb dX6_isWhat_43 (by decide) ?_
        refine lv_goto (tgt := 48) hx hb dX6_isWhat_44 (by decide) ?_
        obtain rfl := Option.some.inj hf
        exact hret _ _ _ _ dX6_isWhat_48 hP hS
    · rw [if_neg hc] at hf
      refine lv_iconst (v := (2 : Int32)) hx hb dX6_isWhat_29 (by decide) ?_
      refine lv_goto (tgt := 48) hx hb dX6_isWhat_30 (by decide) ?_
      obtain rfl := Option.some.inj hf
      exact hret _ _ _ _ dX6_isWhat_48 hP hS
  · rw [if_neg hc] at hf
    refine lv_iconst (v := (0 : Int32)) hx hb dX6_isWhat_15 (by decide) ?_
    obtain rfl := Option.some.inj hf
    exact hret _ _ _ _ dX6_isWhat_16 hP hS
set_option maxHeartbeats 4000000 in
set_option maxRecDepth 100000 in
theorem kX6_letter {l : Launch} {D : va_G} {k : Nat → ClassId} (h0 h1 : Nat) (z0 z1 z2 z3 z4 z5 z6 z7 z8 z9 z10 z11 z12 z13 z14 z15 z16 z17 z18 : Value) (v_page : Nat → Int32) (x1 : Int32) (x2 : Int32) (q : Int32) (hf : fX6_letter v_page x1 x2 = some q) : KMi l yX6_letter cX6_letter 3 (some .int) ({ frames := 4, cells := 0, slots := 0, locals := 90 } : Room) D k [.ref h0, .int x1, .int x2] (wX6_letter k h0 h1 z0 z1 z2 z3 z4 z5 z6 z7 z8 z9 z10 z11 z12 z13 z14 z15 z16 z17 z18 v_page) q (wX6_letter k h0 h1 z0 z1 z2 z3 z4 z5 z6 z7 z8 z9 z10 z11 z12 z13 z14 z15 z16 z17 z18 v_page) := by
  refine kent_i (by decide) (Nat.le_of_ble_eq_true rfl) ?_
  intro p e s m below meth c A Q ls C hP hD hS hl hret
  obtain ⟨hx, hb, -⟩ := id C
  have hl : lv_has ls 3 [(0, .ref h0), (1, .int x1), (2, .int x2)] := hl
  unfold fX6_letter at hf
  generalize ([.ref h0, .int x1, .int x2] : List Value).toArray = args at *
  refine lv_aload_n hx hb dX6_letter_0 rfl (lv_at hl 0 rfl) ?_
  refine lv_iload_n hx hb dX6_letter_1 rfl (lv_at hl 1 rfl) ?_
  obtain ⟨q2, hq2, hf⟩ := bd_some hf
  refine kcVi C (kX6_isLetter (l := l) (D := D) (k := k) h0 h1 z0 z1 z2 z3 z4 z5 z6 z7 z8 z9 z10 z11 z12 z13 z14 z15 z16 z17 z18 v_page x1 q2 hq2) mt_X6_isLetter mw_863 ⟨rfl, rfl, Nat.le_of_ble_eq_true rfl, Nat.le_of_ble_eq_true rfl⟩ hP hD hS 0 rfl rfl rfl [0, 1] rfl rfl [some 0, some 1] rfl rfl (w2 := (wX6_letter k h0 h1 z0 z1 z2 z3 z4 z5 z6 z7 z8 z9 z10 z11 z12 z13 z14 z15 z16 z17 z18 v_page)) rfl rfl rfl hl.1 (rest := []) (Nat.le_of_ble_eq_true rfl) rfl dX6_letter_2 ⟨Nat.zero_le _, Nat.zero_le _⟩ (fun H locs hP hD hS => ?_)
  refine lv_if_eq (tgt := 20) hx hb dX6_letter_5 (by decide) (fun hc => ?_) (fun hc => ?_)
  · rw [if_pos hc] at hf
    refine lv_iconst (v := (-1 : Int32)) hx hb dX6_letter_20 (by decide) ?_
    obtain rfl := Option.some.inj hf
    exact hret _ _ _ _ dX6_letter_21 hP hS
  · rw [if_neg hc] at hf
    refine lv_iload_n hx hb dX6_letter_8 rfl (lv_at hl 2 rfl) ?_
    refine lv_i2l (v := (x2.toInt64)) hx hb dX6_letter_9 rfl ?_
    refine lv_lconst (v := (0 : Int64)) hx hb dX6_letter_10 (by decide) ?_
    refine lv_ldc2 (v := (10 : Int64)) hx hb C.2.2.2.1 (C.2.2.2.2.1 _ mw_867) dX6_letter_11 ?_
    obtain ⟨q14, hq14, hf⟩ := bd_some hf
    refine kcSi C (kX6_in (l := l) (D := D) (k := k) (x2.toInt64) (0 : Int64) (10 : Int64) q14 hq14) mt_X6_in mw_753 ⟨rfl, rfl, Nat.le_of_ble_eq_true rfl, Nat.le_of_ble_eq_true rfl⟩ hP hD hS [] rfl rfl [none, none] rfl rfl (w2 := (wX6_letter k h0 h1 z0 z1 z2 z3 z4 z5 z6 z7 z8 z9 z10 z11 z12 z13 z14 z15 z16 z17 z18 v_page)) rfl rfl rfl hl.1 (rest := []) (Nat.le_of_ble_eq_true rfl) rfl dX6_letter_14 ⟨Nat.zero_le _, Nat.zero_le _⟩ (fun H locs hP hD hS => ?_)
    refine lv_if_ne (tgt := 22) hx hb dX6_letter_17 (by decide) (fun hc => ?_) (fun hc => ?_)
    · rw [if_neg hc] at hf
      refine lv_iload_n hx hb dX6_letter_22 rfl (lv_at hl 2 rfl) ?_
      by_cases hc6 : x2 = (6 : Int32)
      · rw [if_pos hc6] at hf
        refine lv_tableIn (tgt := 56) hx hb dX6_letter_23 (by rw [hc6]; decide) (by rw [hc6]; decide) (by rw [hc6]; first | done | rfl) (by decide) ?_
        refine lv_aload_n hx hb dX6_letter_56 rfl (lv_at hl 0 rfl) ?_
        refine lv_iload_n hx hb dX6_letter_57 rfl (lv_at hl 1 rfl) ?_
        obtain ⟨q58, hq58, hf⟩ := bd_some hf
        refine kcVi C (kX6_isWhat (l := l) (D := D) (k := k) h0 h1 z0 z1 z2 z3 z4 z5 z6 z7 z8 z9 z10 z11 z12 z13 z14 z15 z16 z17 z18 v_page x1 q58 hq58) mt_X6_isWhat mw_868 ⟨rfl, rfl, Nat.le_of_ble_eq_true rfl, Nat.le_of_ble_eq_true rfl⟩ hP hD hS 0 rfl rfl rfl [0, 1] rfl rfl [some 0, some 1] rfl rfl (w2 := (wX6_letter k h0 h1 z0 z1 z2 z3 z4 z5 z6 z7 z8 z9 z10 z11 z12 z13 z14 z15 z16 z17 z18 v_page)) rfl rfl rfl hl.1 (rest := []) (Nat.le_of_ble_eq_true rfl) rfl dX6_letter_58 ⟨Nat.zero_le _, Nat.zero_le _⟩ (fun H locs hP hD hS => ?_)
        obtain rfl := Option.some.inj hf
        exact hret _ _ _ _ dX6_letter_61 hP hS
      · rw [if_neg hc6] at hf
        by_cases hc7 : x2 = (7 : Int32)
        · rw [if_pos hc7] at hf
          refine lv_tableIn (tgt := 62) hx hb dX6_letter_23 (by rw [hc7]; decide) (by rw [hc7]; decide) (by rw [hc7]; first | done | rfl) (by decide) ?_
          refine lv_aload_n hx hb dX6_letter_62 rfl (lv_at hl 0 rfl) ?_
          refine lv_iload_n hx hb dX6_letter_63 rfl (lv_at hl 1 rfl) ?_
          refine lv_iload_n hx hb dX6_letter_64 rfl (lv_at hl 2 rfl) ?_
          refine lv_iconst (v := (1 : Int32)) hx hb dX6_letter_65 (by decide) ?_
          refine lv_isub hx hb dX6_letter_66 ?_
          obtain ⟨q67, hq67, hf⟩ := bd_some hf
          refine kcVi C (kX6_ofLetter (l := l) (D := D) (k := k) h0 h1 z0 z1 z2 z3 z4 z5 z6 z7 z8 z9 z10 z11 z12 z13 z14 z15 z16 z17 z18 v_page x1 (x2 - (1 : Int32)) q67 hq67) mt_X6_ofLetter mw_839 ⟨rfl, rfl, Nat.le_of_ble_eq_true rfl, Nat.le_of_ble_eq_true rfl⟩ hP hD hS 0 rfl rfl rfl [0, 1] rfl rfl [some 0, some 1] rfl rfl (w2 := (wX6_letter k h0 h1 z0 z1 z2 z3 z4 z5 z6 z7 z8 z9 z10 z11 z12 z13 z14 z15 z16 z17 z18 v_page)) rfl rfl rfl hl.1 (rest := []) (Nat.le_of_ble_eq_true rfl) rfl dX6_letter_67 ⟨Nat.zero_le _, Nat.zero_le _⟩ (fun H locs hP hD hS => ?_)
          obtain rfl := Option.some.inj hf
          exact hret _ _ _ _ dX6_letter_70 hP hS
        · rw [if_neg hc7] at hf
          by_cases hc8 : x2 = (8 : Int32)
          · rw [if_pos hc8] at hf
            refine lv_tableIn (tgt := 62) hx hb dX6_letter_23 (by rw [hc8]; decide) (by rw [hc8]; decide) (by rw [hc8]; first | done | rfl) (by decide) ?_
            refine lv_aload_n hx hb dX6_letter_62 rfl (lv_at hl 0 rfl) ?_
            refine lv_iload_n hx hb dX6_letter_63 rfl (lv_at hl 1 rfl) ?_
            refine lv_iload_n hx hb dX6_letter_64 rfl (lv_at hl 2 rfl) ?_
            refine lv_iconst (v := (1 : Int32)) hx hb dX6_letter_65 (by decide) ?_
            refine lv_isub hx hb dX6_letter_66 ?_
            obtain ⟨q67, hq67, hf⟩ := bd_some hf
            refine kcVi C (kX6_ofLetter (l := l) (D := D) (k := k) h0 h1 z0 z1 z2 z3 z4 z5 z6 z7 z8 z9 z10 z11 z12 z13 z14 z15 z16 z17 z18 v_page x1 (x2 - (1 : Int32)) q67 hq67) mt_X6_ofLetter mw_839 ⟨rfl, rfl, Nat.le_of_ble_eq_true rfl, Nat.le_of_ble_eq_true rfl⟩ hP hD hS 0 rfl rfl rfl [0, 1] rfl rfl [some 0, some 1] rfl rfl (w2 := (wX6_letter k h0 h1 z0 z1 z2 z3 z4 z5 z6 z7 z8 z9 z10 z11 z12 z13 z14 z15 z16 z17 z18 v_page)) rfl rfl rfl hl.1 (rest := []) (Nat.le_of_ble_eq_true rfl) rfl dX6_letter_67 ⟨Nat.zero_le _, Nat.zero_le _⟩ (fun H locs hP hD hS => ?_)
            obtain rfl := Option.some.inj hf
            exact hret _ _ _ _ dX6_letter_70 hP hS
          · rw [if_neg hc8] at hf
            by_cases hc9 : x2 = (9 : Int32)
            · rw [if_pos hc9] at hf
              refine lv_tableIn (tgt := 71) hx hb dX6_letter_23 (by rw [hc9]; decide) (by rw [hc9]; decide) (by rw [hc9]; first | done | rfl) (by decide) ?_
              refine lv_aload_n hx hb dX6_letter_71 rfl (lv_at hl 0 rfl) ?_
              refine lv_bipush (v := (-4 : Int32)) hx hb dX6_letter_72 (by decide) ?_
              refine lv_iload_n hx hb dX6_letter_74 rfl (lv_at hl 1 rfl) ?_
              obtain ⟨q75, hq75, hf⟩ := bd_some hf
              refine kcVi C (kX6_copiesOf (l := l) (D := D) (k := k) h0 h1 z0 z1 z2 z3 z4 z5 z6 z7 z8 z9 z10 z11 z12 z13 z14 z15 z16 z17 z18 v_page (-4 : Int32) x1 q75 hq75) mt_X6_copiesOf mw_815 ⟨rfl, rfl, Nat.le_of_ble_eq_true rfl, Nat.le_of_ble_eq_true rfl⟩ hP hD hS 0 rfl rfl rfl [0, 1] rfl rfl [some 0, some 1] rfl rfl (w2 := (wX6_letter k h0 h1 z0 z1 z2 z3 z4 z5 z6 z7 z8 z9 z10 z11 z12 z13 z14 z15 z16 z17 z18 v_page)) rfl rfl rfl hl.1 (rest := []) (Nat.le_of_ble_eq_true rfl) rfl dX6_letter_75 ⟨Nat.zero_le _, Nat.zero_le _⟩ (fun H locs hP hD hS => ?_)
              obtain rfl := Option.some.inj hf
              exact hret _ _ _ _ dX6_letter_78 hP hS
            · rw [if_neg hc9] at hf
              by_cases hc10 : x2 = (10 : Int32)
              · rw [if_pos hc10] at hf
                refine lv_tableIn (tgt := 79) hx hb dX6_letter_23 (by rw [hc10]; decide) (by rw [hc10]; decide) (by rw [hc10]; first | done | rfl) (by decide) ?_
                refine lv_aload_n hx hb dX6_letter_79 rfl (lv_at hl 0 rfl) ?_
                refine lv_iload_n hx hb dX6_letter_80 rfl (lv_at hl 1 rfl) ?_
                obtain ⟨q81, hq81, hf⟩ := bd_some hf
                refine kcVi C (kX6_tokensOfAll (l := l) (D := D) (k := k) h0 h1 z0 z1 z2 z3 z4 z5 z6 z7 z8 z9 z10 z11 z12 z13 z14 z15 z16 z17 z18 v_page x1 q81 hq81) mt_X6_tokensOfAll mw_872 ⟨rfl, rfl, Nat.le_of_ble_eq_true rfl, Nat.le_of_ble_eq_true rfl⟩ hP hD hS 0 rfl rfl rfl [0, 1] rfl rfl [some 0, some 1] rfl rfl (w2 := (wX6_letter k h0 h1 z0 z1 z2 z3 z4 z5 z6 z7 z8 z9 z10 z11 z12 z13 z14 z15 z16 z17 z18 v_page)) rfl rfl rfl hl.1 (rest := []) (Nat.le_of_ble_eq_true rfl) rfl dX6_letter_81 ⟨Nat.zero_le _, Nat.zero_le _⟩ (fun H locs hP hD hS => ?_)
                obtain rfl := Option.some.inj hf
                exact hret _ _ _ _ dX6_letter_84 hP hS
              · rw [if_neg hc10] at hf
                have hd : W p l e ({ frames := 4, cells := 0, slots := 0, locals := 90 } : Room) s m args below meth c H locs 0 0 Q (F0 m 85 ls []) := by
                  refine lv_aload_n hx hb dX6_letter_85 rfl (lv_at hl 0 rfl) ?_
                  refine lv_iload_n hx hb dX6_letter_86 rfl (lv_at hl 1 rfl) ?_
                  refine lv_iload_n hx hb dX6_letter_87 rfl (lv_at hl 2 rfl) ?_
                  obtain ⟨q88, hq88, hf⟩ := bd_some hf
                  refine kcVi C (kX6_ofLetter (l := l) (D := D) (k := k) h0 h1 z0 z1 z2 z3 z4 z5 z6 z7 z8 z9 z10 z11 z12 z13 z14 z15 z16 z17 z18 v_page x1 x2 q88 hq88) mt_X6_ofLetter mw_839 ⟨rfl, rfl, Nat.le_of_ble_eq_true rfl, Nat.le_of_ble_eq_true rfl⟩ hP hD hS 0 rfl rfl rfl [0, 1] rfl rfl [some 0, some 1] rfl rfl (w2 := (wX6_letter k h0 h1 z0 z1 z2 z3 z4 z5 z6 z7 z8 z9 z10 z11 z12 z13 z14 z15 z16 z17 z18 v_page)) rfl rfl rfl hl.1 (rest := []) (Nat.le_of_ble_eq_true rfl) rfl dX6_letter_88 ⟨Nat.zero_le _, Nat.zero_le _⟩ (fun H locs hP hD hS => ?_)
                  obtain rfl := Option.some.inj hf
                  exact hret _ _ _ _ dX6_letter_91 hP hS
                exact lv_tableOut (tgt := 85) hx hb dX6_letter_23 (by have := lv_neT hc6 (show ((6 : Int32)).toInt = 6 from rfl); have := lv_neT hc7 (show ((7 : Int32)).toInt = 7 from rfl); have := lv_neT hc8 (show ((8 : Int32)).toInt = 8 from rfl); have := lv_neT hc9 (show ((9 : Int32)).toInt = 9 from rfl); have := lv_neT hc10 (show ((10 : Int32)).toInt = 10 from rfl); omega) (by decide) hd
    · rw [if_pos hc] at hf
      refine lv_iconst (v := (-1 : Int32)) hx hb dX6_letter_20 (by decide) ?_
      obtain rfl := Option.some.inj hf
      exact hret _ _ _ _ dX6_letter_21 hP hS
set_option maxHeartbeats 4000000 in
set_option maxRecDepth 100000 in
theorem wX6_aheadOf_5 {p : Program} {l : Launch} {e : Env} {s : State} {m : MethodId} {args : Array Value} {below : List Frame} {meth : Method} {c : Code} {A : Nat → Prop} {Q : State → Prop} {D : va_G} {k : Nat → ClassId} (C : Cx p s m args c cX6_aheadOf 5 RX6 A D k) (h0 h1 : Nat) (z0 z1 z2 z3 z4 z5 z6 z7 z8 z9 z10 z11 z12 z13 z14 z15 z16 z17 z18 : Value) (v_page : Nat → Int32) (y1 : Int32) (y2 : Int32) : ∀ (f : Nat) (y3 : Int32) (y4 : Int32) (ex : (Int32)) (H : Heap) (locs : List Loc) (ls : Array Slot), fX6_aheadOf_5 v_page y1 y2 f y3 y4 = some ex → va_P D vwCl (wX6_aheadOf k h0 h1 z0 z1 z2 z3 z4 z5 z6 z7 z8 z9 z10 z11 z12 z13 z14 z15 z16 z17 z18 v_page) H → va_D A (wX6_aheadOf k h0 h1 z0 z1 z2 z3 z4 z5 z6 z7 z8 z9 z10 z11 z12 z13 z14 z15 z16 z17 z18 v_page) → va_S A s.heap H locs → lv_has ls 5 [(0, .ref h0), (1, .int y1), (2, .int y2), (3, .int y3), (4, .int y4)] → (∀ (H : Heap) (locs : List Loc) (ls : Array Slot), va_P D vwCl (wX6_aheadOf k h0 h1 z0 z1 z2 z3 z4 z5 z6 z7 z8 z9 z10 z11 z12 z13 z14 z15 z16 z17 z18 v_page) H → va_D A (wX6_aheadOf k h0 h1 z0 z1 z2 z3 z4 z5 z6 z7 z8 z9 z10 z11 z12 z13 z14 z15 z16 z17 z18 v_page) → va_S A s.heap H locs → lv_has ls 5 [(3, .int ex)] → W p l e ({ frames := 2, cells := 0, slots := 0, locals := 44 } : Room) s m args below meth c H locs 0 0 Q (F0 m 78 ls [])) → W p l e ({ frames := 2, cells := 0, slots := 0, locals := 44 } : Room) s m args below meth c H locs 0 0 Q (F0 m 5 ls []) := by
  obtain ⟨hx, hb, -⟩ := id C
  intro f
  induction f with
  | zero =>
    intro y3 y4 ex H locs ls hf hP hD hS hl hk
    cases hf
  | succ f ih =>
    intro y3 y4 ex H locs ls hf hP hD hS hl hk
    rw [fX6_aheadOf_5] at hf
    refine lv_iload hx hb dX6_aheadOf_5 (lv_at hl 4 rfl) ?_
    refine lv_aload_n hx hb dX6_aheadOf_7 rfl (lv_at hl 0 rfl) ?_
    refine kget C inX6 hP 0 rfl rfl 0 (by decide) mw_687 rfl dX6_aheadOf_8 ?_
    refine lv_iconst (v := (2 : Int32)) hx hb dX6_aheadOf_11 (by decide) ?_
    refine kiald C hP 1 rfl (by unfold vp_in; decide) dX6_aheadOf_12 (j := 2) (by decide) ?_
    refine lv_icmp_ge (tgt := 78) hx hb dX6_aheadOf_13 (by decide) (fun hc => ?_) (fun hc => ?_)
    · rw [if_pos hc] at hf
      obtain rfl := Option.some.inj hf
      exact hk _ _ _ hP hD hS (lv_sub hl [3] rfl)
    · rw [if_neg hc] at hf
      refine lv_iload_n hx hb dX6_aheadOf_16 rfl (lv_at hl 3 rfl) ?_
      refine lv_aload_n hx hb dX6_aheadOf_17 rfl (lv_at hl 0 rfl) ?_
      refine lv_iload_n hx hb dX6_aheadOf_18 rfl (lv_at hl 1 rfl) ?_
      refine lv_iload hx hb dX6_aheadOf_19 (lv_at hl 4 rfl) ?_
      obtain ⟨q21, hq21, hf⟩ := bd_some hf
      refine kcVi C (kX6_hasCopy (l := l) (D := D) (k := k) h0 h1 z0 z1 z2 z3 z4 z5 z6 z7 z8 z9 z10 z11 z12 z13 z14 z15 z16 z17 z18 v_page y1 y4 q21 hq21) mt_X6_hasCopy mw_819 ⟨rfl, rfl, Nat.le_of_ble_eq_true rfl, Nat.le_of_ble_eq_true rfl⟩ hP hD hS 0 rfl rfl rfl [0, 1] rfl rfl [some 0, some 1] rfl rfl (w2 := (wX6_aheadOf k h0 h1 z0 z1 z2 z3 z4 z5 z6 z7 z8 z9 z10 z11 z12 z13 z14 z15 z16 z17 z18 v_page)) rfl rfl rfl hl.1 (rest := [.int y3]) (Nat.le_of_ble_eq_true rfl) rfl dX6_aheadOf_21 ⟨Nat.zero_le _, Nat.zero_le _⟩ (fun H locs hP hD hS => ?_)
      obtain ⟨v70, hv70, hf⟩ := bd_some hf
      have hj70 : ∀ (H : Heap) (locs : List Loc) (ls : Array Slot), va_P D vwCl (wX6_aheadOf k h0 h1 z0 z1 z2 z3 z4 z5 z6 z7 z8 z9 z10 z11 z12 z13 z14 z15 z16 z17 z18 v_page) H → va_D A (wX6_aheadOf k h0 h1 z0 z1 z2 z3 z4 z5 z6 z7 z8 z9 z10 z11 z12 z13 z14 z15 z16 z17 z18 v_page) → va_S A s.heap H locs → lv_has ls 5 [(0, .ref h0), (1, .int y1), (2, .int y2), (4, .int y4)] → W p l e ({ frames := 2, cells := 0, slots := 0, locals := 44 } : Room) s m args below meth c H locs 0 0 Q (F0 m 70 ls [.int v70, .int y3]) := by
        intro H locs ls hP hD hS hl
        refine lv_iadd hx hb dX6_aheadOf_70 ?_
        refine lv_istore_n (lv' := [(3, .int (y3 + v70)), (0, .ref h0), (1, .int y1), (2, .int y2), (4, .int y4)]) hx hb dX6_aheadOf_71 rfl hl (by decide) rfl (fun ls hl => ?_)
        refine lv_iinc (v := (y4 + (1 : Int32))) (lv' := [(4, .int (y4 + (1 : Int32))), (3, .int (y3 + v70)), (0, .ref h0), (1, .int y1), (2, .int y2)]) hx hb dX6_aheadOf_72 hl (k := 4) rfl rfl (by decide) rfl (fun ls hl => ?_)
        refine lv_goto (tgt := 5) hx hb dX6_aheadOf_75 (by decide) ?_
        exact ih (y3 + v70) (y4 + (1 : Int32)) _ _ _ _ hf hP hD hS (lv_sub hl [2, 3, 4, 1, 0] rfl) hk
      clear hf
      have hf := hv70
      refine lv_if_eq (tgt := 69) hx hb dX6_aheadOf_24 (by decide) (fun hc => ?_) (fun hc => ?_)
      · rw [if_pos hc] at hf
        refine lv_iconst (v := (0 : Int32)) hx hb dX6_aheadOf_69 (by decide) ?_
        obtain rfl := Option.some.inj hf
        exact hj70 _ _ _ hP hD hS (lv_sub hl [0, 1, 2, 4] rfl)
      · rw [if_neg hc] at hf
        refine lv_aload_n hx hb dX6_aheadOf_27 rfl (lv_at hl 0 rfl) ?_
        refine lv_iload_n hx hb dX6_aheadOf_28 rfl (lv_at hl 1 rfl) ?_
        refine lv_iload hx hb dX6_aheadOf_29 (lv_at hl 4 rfl) ?_
        obtain ⟨q31, hq31, hf⟩ := bd_some hf
        refine kcVi C (kX6_hopsOf (l := l) (D := D) (k := k) h0 h1 z0 z1 z2 z3 z4 z5 z6 z7 z8 z9 z10 z11 z12 z13 z14 z15 z16 z17 z18 v_page y1 y4 q31 hq31) mt_X6_hopsOf mw_889 ⟨rfl, rfl, Nat.le_of_ble_eq_true rfl, Nat.le_of_ble_eq_true rfl⟩ hP hD hS 0 rfl rfl rfl [0, 1] rfl rfl [some 0, some 1] rfl rfl (w2 := (wX6_aheadOf k h0 h1 z0 z1 z2 z3 z4 z5 z6 z7 z8 z9 z10 z11 z12 z13 z14 z15 z16 z17 z18 v_page)) rfl rfl rfl hl.1 (rest := [.int y3]) (Nat.le_of_ble_eq_true rfl) rfl dX6_aheadOf_31 ⟨Nat.zero_le _, Nat.zero_le _⟩ (fun H locs hP hD hS => ?_)
        refine lv_aload_n hx hb dX6_aheadOf_34 rfl (lv_at hl 0 rfl) ?_
        refine lv_iload_n hx hb dX6_aheadOf_35 rfl (lv_at hl 1 rfl) ?_
        refine lv_iload_n hx hb dX6_aheadOf_36 rfl (lv_at hl 2 rfl) ?_
        obtain ⟨q37, hq37, hf⟩ := bd_some hf
        refine kcVi C (kX6_hopsOf (l := l) (D := D) (k := k) h0 h1 z0 z1 z2 z3 z4 z5 z6 z7 z8 z9 z10 z11 z12 z13 z14 z15 z16 z17 z18 v_page y1 y2 q37 hq37) mt_X6_hopsOf mw_889 ⟨rfl, rfl, Nat.le_of_ble_eq_true rfl, Nat.le_of_ble_eq_true rfl⟩ hP hD hS 0 rfl rfl rfl [0, 1] rfl rfl [some 0, some 1] rfl rfl (w2 := (wX6_aheadOf k h0 h1 z0 z1 z2 z3 z4 z5 z6 z7 z8 z9 z10 z11 z12 z13 z14 z15 z16 z17 z18 v_page)) rfl rfl rfl hl.1 (rest := [.int q31, .int y3]) (Nat.le_of_ble_eq_true rfl) rfl dX6_aheadOf_37 ⟨Nat.zero_le _, Nat.zero_le _⟩ (fun H locs hP hD hS => ?_)
        refine lv_icmp_lt (tgt := 65) hx hb dX6_aheadOf_40 (by decide) (fun hc => ?_) (fun hc => ?_)
        · rw [if_pos hc] at hf
          refine lv_iconst (v := (1 : Int32)) hx hb dX6_aheadOf_65 (by decide) ?_
          refine lv_goto (tgt := 70) hx hb dX6_aheadOf_66 (by decide) ?_
          obtain rfl := Option.some.inj hf
          exact hj70 _ _ _ hP hD hS (lv_sub hl [0, 1, 2, 4] rfl)
        · rw [if_neg hc] at hf
          refine lv_aload_n hx hb dX6_aheadOf_43 rfl (lv_at hl 0 rfl) ?_
          refine lv_iload_n hx hb dX6_aheadOf_44 rfl (lv_at hl 1 rfl) ?_
          refine lv_iload hx hb dX6_aheadOf_45 (lv_at hl 4 rfl) ?_
          obtain ⟨q47, hq47, hf⟩ := bd_some hf
          refine kcVi C (kX6_hopsOf (l := l) (D := D) (k := k) h0 h1 z0 z1 z2 z3 z4 z5 z6 z7 z8 z9 z10 z11 z12 z13 z14 z15 z16 z17 z18 v_page y1 y4 q47 hq47) mt_X6_hopsOf mw_889 ⟨rfl, rfl, Nat.le_of_ble_eq_true rfl, Nat.le_of_ble_eq_true rfl⟩ hP hD hS 0 rfl rfl rfl [0, 1] rfl rfl [some 0, some 1] rfl rfl (w2 := (wX6_aheadOf k h0 h1 z0 z1 z2 z3 z4 z5 z6 z7 z8 z9 z10 z11 z12 z13 z14 z15 z16 z17 z18 v_page)) rfl rfl rfl hl.1 (rest := [.int y3]) (Nat.le_of_ble_eq_true rfl) rfl dX6_aheadOf_47 ⟨Nat.zero_le _, Nat.zero_le _⟩ (fun H locs hP hD hS => ?_)
          refine lv_aload_n hx hb dX6_aheadOf_50 rfl (lv_at hl 0 rfl) ?_
          refine lv_iload_n hx hb dX6_aheadOf_51 rfl (lv_at hl 1 rfl) ?_
          refine lv_iload_n hx hb dX6_aheadOf_52 rfl (lv_at hl 2 rfl) ?_
          obtain ⟨q53, hq53, hf⟩ := bd_some hf
          refine kcVi C (kX6_hopsOf (l := l) (D := D) (k := k) h0 h1 z0 z1 z2 z3 z4 z5 z6 z7 z8 z9 z10 z11 z12 z13 z14 z15 z16 z17 z18 v_page y1 y2 q53 hq53) mt_X6_hopsOf mw_889 ⟨rfl, rfl, Nat.le_of_ble_eq_true rfl, Nat.le_of_ble_eq_true rfl⟩ hP hD hS 0 rfl rfl rfl [0, 1] rfl rfl [some 0, some 1] rfl rfl (w2 := (wX6_aheadOf k h0 h1 z0 z1 z2 z3 z4 z5 z6 z7 z8 z9 z10 z11 z12 z13 z14 z15 z16 z17 z18 v_page)) rfl rfl rfl hl.1 (rest := [.int q47, .int y3]) (Nat.le_of_ble_eq_true rfl) rfl dX6_aheadOf_53 ⟨Nat.zero_le _, Nat.zero_le _⟩ (fun H locs hP hD hS => ?_)
          refine lv_icmp_ne (tgt := 69) hx hb dX6_aheadOf_56 (by decide) (fun hc => ?_) (fun hc => ?_)
          · rw [if_neg hc] at hf
            refine lv_iconst (v := (0 : Int32)) hx hb dX6_aheadOf_69 (by decide) ?_
            obtain rfl := Option.some.inj hf
            exact hj70 _ _ _ hP hD hS (lv_sub hl [0, 1, 2, 4] rfl)
          · rw [if_pos hc] at hf
            refine lv_iload hx hb dX6_aheadOf_59 (lv_at hl 4 rfl) ?_
            refine lv_iload_n hx hb dX6_aheadOf_61 rfl (lv_at hl 2 rfl) ?_
            refine lv_icmp_ge (tgt := 69) hx hb dX6_aheadOf_62 (by decide) (fun hc => ?_) (fun hc => ?_)
            · rw [if_pos hc] at hf
              refine lv_iconst (v := (0 : Int32)) hx hb dX6_aheadOf_69 (by decide) ?_
              obtain rfl := Option.some.inj hf
              exact hj70 _ _ _ hP hD hS (lv_sub hl [0, 1, 2, 4] rfl)
            · rw [if_neg hc] at hf
              refine lv_iconst (v := (1 : Int32)) hx hb dX6_aheadOf_65 (by decide) ?_
              refine lv_goto (tgt := 70) hx hb dX6_aheadOf_66 (by decide) ?_
              obtain rfl := Option.some.inj hf
              exact hj70 _ _ _ hP hD hS (lv_sub hl [0, 1, 2, 4] rfl)
set_option maxHeartbeats 4000000 in
set_option maxRecDepth 100000 in
theorem kX6_aheadOf {l : Launch} {D : va_G} {k : Nat → ClassId} (h0 h1 : Nat) (z0 z1 z2 z3 z4 z5 z6 z7 z8 z9 z10 z11 z12 z13 z14 z15 z16 z17 z18 : Value) (v_page : Nat → Int32) (x1 : Int32) (x2 : Int32) (q : Int32) (hf : fX6_aheadOf v_page x1 x2 = some q) : KMi l yX6_aheadOf cX6_aheadOf 5 (some .int) ({ frames := 2, cells := 0, slots := 0, locals := 44 } : Room) D k [.ref h0, .int x1, .int x2] (wX6_aheadOf k h0 h1 z0 z1 z2 z3 z4 z5 z6 z7 z8 z9 z10 z11 z12 z13 z14 z15 z16 z17 z18 v_page) q (wX6_aheadOf k h0 h1 z0 z1 z2 z3 z4 z5 z6 z7 z8 z9 z10 z11 z12 z13 z14 z15 z16 z17 z18 v_page) := by
  refine kent_i (by decide) (Nat.le_of_ble_eq_true rfl) ?_
  intro p e s m below meth c A Q ls C hP hD hS hl hret
  obtain ⟨hx, hb, -⟩ := id C
  have hl : lv_has ls 5 [(0, .ref h0), (1, .int x1), (2, .int x2)] := hl
  unfold fX6_aheadOf at hf
  generalize ([.ref h0, .int x1, .int x2] : List Value).toArray = args at *
  refine lv_iconst (v := (0 : Int32)) hx hb dX6_aheadOf_0 (by decide) ?_
  refine lv_istore_n (lv' := [(3, .int (0 : Int32)), (0, .ref h0), (1, .int x1), (2, .int x2)]) hx hb dX6_aheadOf_1 rfl hl (by decide) rfl (fun ls hl => ?_)
  refine lv_iconst (v := (0 : Int32)) hx hb dX6_aheadOf_2 (by decide) ?_
  refine lv_istore (lv' := [(4, .int (0 : Int32)), (3, .int (0 : Int32)), (0, .ref h0), (1, .int x1), (2, .int x2)]) hx hb dX6_aheadOf_3 hl (by decide) rfl (fun ls hl => ?_)
  obtain ⟨ex5, hv, hf⟩ := bd_some hf
  refine wX6_aheadOf_5 C h0 h1 z0 z1 z2 z3 z4 z5 z6 z7 z8 z9 z10 z11 z12 z13 z14 z15 z16 z17 z18 v_page x1 x2 FU (0 : Int32) (0 : Int32) ex5 _ _ _ hv hP hD hS (lv_sub hl [2, 3, 4, 1, 0] rfl) (fun H locs ls hP hD hS hl => ?_)
  refine lv_iload_n hx hb dX6_aheadOf_78 rfl (lv_at hl 0 rfl) ?_
  obtain rfl := Option.some.inj hf
  exact hret _ _ _ _ dX6_aheadOf_79 hP hS
set_option maxHeartbeats 4000000 in
set_option maxRecDepth 100000 in
theorem wX6_copy_29 {p : Program} {l : Launch} {e : Env} {s : State} {m : MethodId} {args : Array Value} {below : List Frame} {meth : Method} {c : Code} {A : Nat → Prop} {Q : State → Prop} {D : va_G} {k : Nat → ClassId} (C : Cx p s m args c cX6_copy 5 RX6 A D k) (h0 h1 : Nat) (z0 z1 z2 z3 z4 z5 z6 z7 z8 z9 z10 z11 z12 z13 z14 z15 z16 z17 z18 : Value) (v_page : Nat → Int32) (y1 : Int32) (y2 : Int32) (y3 : Int32) : ∀ (f : Nat) (y4 : Int32) (u : (Int32) ⊕ (Unit)) (H : Heap) (locs : List Loc) (ls : Array Slot), fX6_copy_29 v_page y1 y2 y3 f y4 = some u → va_P D vwCl (wX6_copy k h0 h1 z0 z1 z2 z3 z4 z5 z6 z7 z8 z9 z10 z11 z12 z13 z14 z15 z16 z17 z18 v_page) H → va_D A (wX6_copy k h0 h1 z0 z1 z2 z3 z4 z5 z6 z7 z8 z9 z10 z11 z12 z13 z14 z15 z16 z17 z18 v_page) → va_S A s.heap H locs → lv_has ls 5 [(0, .ref h0), (1, .int y1), (2, .int y2), (3, .int y3), (4, .int y4)] → (∀ ex, u = .inr ex → ∀ (H : Heap) (locs : List Loc) (ls : Array Slot), va_P D vwCl (wX6_copy k h0 h1 z0 z1 z2 z3 z4 z5 z6 z7 z8 z9 z10 z11 z12 z13 z14 z15 z16 z17 z18 v_page) H → va_D A (wX6_copy k h0 h1 z0 z1 z2 z3 z4 z5 z6 z7 z8 z9 z10 z11 z12 z13 z14 z15 z16 z17 z18 v_page) → va_S A s.heap H locs → lv_has ls 5 [] → W p l e ({ frames := 3, cells := 0, slots := 0, locals := 68 } : Room) s m args below meth c H locs 0 0 Q (F0 m 93 ls [])) → (∀ t, u = .inl t → ∀ (H : Heap) (locs : List Loc) (ls : Array Slot) (pc : Nat), decode cX6_copy pc = .ok (.ireturn, 1) → va_P D vwCl (wX6_copy k h0 h1 z0 z1 z2 z3 z4 z5 z6 z7 z8 z9 z10 z11 z12 z13 z14 z15 z16 z17 z18 v_page) H → va_S A s.heap H locs → W p l e ({ frames := 3, cells := 0, slots := 0, locals := 68 } : Room) s m args below meth c H locs 0 0 Q (F0 m pc ls [.int t])) → W p l e ({ frames := 3, cells := 0, slots := 0, locals := 68 } : Room) s m args below meth c H locs 0 0 Q (F0 m 29 ls []) := by
  obtain ⟨hx, hb, -⟩ := id C
  intro f
  induction f with
  | zero =>
    intro y4 u H locs ls hf hP hD hS hl hk hr
    cases hf
  | succ f ih =>
    intro y4 u H locs ls hf hP hD hS hl hk hr
    rw [fX6_copy_29] at hf
    refine lv_iload hx hb dX6_copy_29 (lv_at hl 4 rfl) ?_
    refine lv_aload_n hx hb dX6_copy_31 rfl (lv_at hl 0 rfl) ?_
    refine kget C inX6 hP 0 rfl rfl 0 (by decide) mw_687 rfl dX6_copy_32 ?_
    refine lv_iconst (v := (2 : Int32)) hx hb dX6_copy_35 (by decide) ?_
    refine kiald C hP 1 rfl (by unfold vp_in; decide) dX6_copy_36 (j := 2) (by decide) ?_
    refine lv_icmp_ge (tgt := 93) hx hb dX6_copy_37 (by decide) (fun hc => ?_) (fun hc => ?_)
    · rw [if_pos hc] at hf
      obtain rfl := Option.some.inj hf
      exact hk _ rfl _ _ _ hP hD hS (lv_sub hl [] rfl)
    · rw [if_neg hc] at hf
      refine lv_aload_n hx hb dX6_copy_40 rfl (lv_at hl 0 rfl) ?_
      refine lv_iload_n hx hb dX6_copy_41 rfl (lv_at hl 1 rfl) ?_
      refine lv_iload hx hb dX6_copy_42 (lv_at hl 4 rfl) ?_
      obtain ⟨q44, hq44, hf⟩ := bd_some hf
      refine kcVi C (kX6_hasCopy (l := l) (D := D) (k := k) h0 h1 z0 z1 z2 z3 z4 z5 z6 z7 z8 z9 z10 z11 z12 z13 z14 z15 z16 z17 z18 v_page y1 y4 q44 hq44) mt_X6_hasCopy mw_819 ⟨rfl, rfl, Nat.le_of_ble_eq_true rfl, Nat.le_of_ble_eq_true rfl⟩ hP hD hS 0 rfl rfl rfl [0, 1] rfl rfl [some 0, some 1] rfl rfl (w2 := (wX6_copy k h0 h1 z0 z1 z2 z3 z4 z5 z6 z7 z8 z9 z10 z11 z12 z13 z14 z15 z16 z17 z18 v_page)) rfl rfl rfl hl.1 (rest := []) (Nat.le_of_ble_eq_true rfl) rfl dX6_copy_44 ⟨Nat.zero_le _, Nat.zero_le _⟩ (fun H locs hP hD hS => ?_)
      refine lv_if_eq (tgt := 87) hx hb dX6_copy_47 (by decide) (fun hc => ?_) (fun hc => ?_)
      · rw [if_pos hc] at hf
        refine lv_iinc (v := (y4 + (1 : Int32))) (lv' := [(4, .int (y4 + (1 : Int32))), (0, .ref h0), (1, .int y1), (2, .int y2), (3, .int y3)]) hx hb dX6_copy_87 hl (k := 4) rfl rfl (by decide) rfl (fun ls hl => ?_)
        refine lv_goto (tgt := 29) hx hb dX6_copy_90 (by decide) ?_
        exact ih (y4 + (1 : Int32)) _ _ _ _ hf hP hD hS (lv_sub hl [1, 2, 3, 4, 0] rfl) hk hr
      · rw [if_neg hc] at hf
        refine lv_aload_n hx hb dX6_copy_50 rfl (lv_at hl 0 rfl) ?_
        refine lv_iload_n hx hb dX6_copy_51 rfl (lv_at hl 1 rfl) ?_
        refine lv_iload hx hb dX6_copy_52 (lv_at hl 4 rfl) ?_
        obtain ⟨q54, hq54, hf⟩ := bd_some hf
        refine kcVi C (kX6_aheadOf (l := l) (D := D) (k := k) h0 h1 z0 z1 z2 z3 z4 z5 z6 z7 z8 z9 z10 z11 z12 z13 z14 z15 z16 z17 z18 v_page y1 y4 q54 hq54) mt_X6_aheadOf mw_885 ⟨rfl, rfl, Nat.le_of_ble_eq_true rfl, Nat.le_of_ble_eq_true rfl⟩ hP hD hS 0 rfl rfl rfl [0, 1] rfl rfl [some 0, some 1] rfl rfl (w2 := (wX6_copy k h0 h1 z0 z1 z2 z3 z4 z5 z6 z7 z8 z9 z10 z11 z12 z13 z14 z15 z16 z17 z18 v_page)) rfl rfl rfl hl.1 (rest := []) (Nat.le_of_ble_eq_true rfl) rfl dX6_copy_54 ⟨Nat.zero_le _, Nat.zero_le _⟩ (fun H locs hP hD hS => ?_)
        refine lv_iload_n hx hb dX6_copy_57 rfl (lv_at hl 2 rfl) ?_
        refine lv_icmp_ne (tgt := 87) hx hb dX6_copy_58 (by decide) (fun hc => ?_) (fun hc => ?_)
        · rw [if_neg hc] at hf
          refine lv_iinc (v := (y4 + (1 : Int32))) (lv' := [(4, .int (y4 + (1 : Int32))), (0, .ref h0), (1, .int y1), (2, .int y2), (3, .int y3)]) hx hb dX6_copy_87 hl (k := 4) rfl rfl (by decide) rfl (fun ls hl => ?_)
          refine lv_goto (tgt := 29) hx hb dX6_copy_90 (by decide) ?_
          exact ih (y4 + (1 : Int32)) _ _ _ _ hf hP hD hS (lv_sub hl [1, 2, 3, 4, 0] rfl) hk hr
        · rw [if_pos hc] at hf
          refine lv_iload_n hx hb dX6_copy_61 rfl (lv_at hl 3 rfl) ?_
          refine lv_if_ne (tgt := 70) hx hb dX6_copy_62 (by decide) (fun hc => ?_) (fun hc => ?_)
          · rw [if_neg hc] at hf
            refine lv_aload_n hx hb dX6_copy_70 rfl (lv_at hl 0 rfl) ?_
            refine kget C inX6 hP 0 rfl rfl 0 (by decide) mw_687 rfl dX6_copy_71 ?_
            refine lv_aload_n hx hb dX6_copy_74 rfl (lv_at hl 0 rfl) ?_
            refine lv_iload_n hx hb dX6_copy_75 rfl (lv_at hl 1 rfl) ?_
            refine lv_iload hx hb dX6_copy_76 (lv_at hl 4 rfl) ?_
            obtain ⟨q78, hq78, hf⟩ := bd_some hf
            refine kcVi C (kX6_copyAt (l := l) (D := D) (k := k) h0 y1 y4 q78 hq78) mt_X6_copyAt mw_823 ⟨rfl, rfl, Nat.le_of_ble_eq_true rfl, Nat.le_of_ble_eq_true rfl⟩ hP hD hS 0 rfl rfl rfl [] rfl rfl [none, none] rfl rfl (w2 := (wX6_copy k h0 h1 z0 z1 z2 z3 z4 z5 z6 z7 z8 z9 z10 z11 z12 z13 z14 z15 z16 z17 z18 v_page)) rfl rfl rfl hl.1 (rest := [.ref h1]) (Nat.le_of_ble_eq_true rfl) rfl dX6_copy_78 ⟨Nat.zero_le _, Nat.zero_le _⟩ (fun H locs hP hD hS => ?_)
            refine lv_iload_n hx hb dX6_copy_81 rfl (lv_at hl 3 rfl) ?_
            refine lv_iadd hx hb dX6_copy_82 ?_
            refine lv_iconst (v := (1 : Int32)) hx hb dX6_copy_83 (by decide) ?_
            refine lv_isub hx hb dX6_copy_84 ?_
            obtain ⟨hin, hf⟩ := gd_some hf
            refine kiald C hP 1 rfl hin dX6_copy_85 (j := ((q78 + y3) - (1 : Int32)).toNatClampNeg) rfl ?_
            obtain rfl := Option.some.inj hf
            exact hr _ rfl _ _ _ _ dX6_copy_86 hP hS
          · rw [if_pos hc] at hf
            refine lv_iload hx hb dX6_copy_65 (lv_at hl 4 rfl) ?_
            refine lv_goto (tgt := 86) hx hb dX6_copy_67 (by decide) ?_
            obtain rfl := Option.some.inj hf
            exact hr _ rfl _ _ _ _ dX6_copy_86 hP hS
set_option maxHeartbeats 4000000 in
set_option maxRecDepth 100000 in
theorem kX6_copy {l : Launch} {D : va_G} {k : Nat → ClassId} (h0 h1 : Nat) (z0 z1 z2 z3 z4 z5 z6 z7 z8 z9 z10 z11 z12 z13 z14 z15 z16 z17 z18 : Value) (v_page : Nat → Int32) (x1 : Int32) (x2 : Int32) (x3 : Int32) (q : Int32) (hf : fX6_copy v_page x1 x2 x3 = some q) : KMi l yX6_copy cX6_copy 5 (some .int) ({ frames := 3, cells := 0, slots := 0, locals := 68 } : Room) D k [.ref h0, .int x1, .int x2, .int x3] (wX6_copy k h0 h1 z0 z1 z2 z3 z4 z5 z6 z7 z8 z9 z10 z11 z12 z13 z14 z15 z16 z17 z18 v_page) q (wX6_copy k h0 h1 z0 z1 z2 z3 z4 z5 z6 z7 z8 z9 z10 z11 z12 z13 z14 z15 z16 z17 z18 v_page) := by
  refine kent_i (by decide) (Nat.le_of_ble_eq_true rfl) ?_
  intro p e s m below meth c A Q ls C hP hD hS hl hret
  obtain ⟨hx, hb, -⟩ := id C
  have hl : lv_has ls 5 [(0, .ref h0), (1, .int x1), (2, .int x2), (3, .int x3)] := hl
  unfold fX6_copy at hf
  generalize ([.ref h0, .int x1, .int x2, .int x3] : List Value).toArray = args at *
  refine lv_aload_n hx hb dX6_copy_0 rfl (lv_at hl 0 rfl) ?_
  refine lv_iload_n hx hb dX6_copy_1 rfl (lv_at hl 1 rfl) ?_
  obtain ⟨q2, hq2, hf⟩ := bd_some hf
  refine kcVi C (kX6_isNode (l := l) (D := D) (k := k) h0 h1 z0 z1 z2 z3 z4 z5 z6 z7 z8 z9 z10 z11 z12 z13 z14 z15 z16 z17 z18 v_page x1 q2 hq2) mt_X6_isNode mw_831 ⟨rfl, rfl, Nat.le_of_ble_eq_true rfl, Nat.le_of_ble_eq_true rfl⟩ hP hD hS 0 rfl rfl rfl [0, 1] rfl rfl [some 0, some 1] rfl rfl (w2 := (wX6_copy k h0 h1 z0 z1 z2 z3 z4 z5 z6 z7 z8 z9 z10 z11 z12 z13 z14 z15 z16 z17 z18 v_page)) rfl rfl rfl hl.1 (rest := []) (Nat.le_of_ble_eq_true rfl) rfl dX6_copy_2 ⟨Nat.zero_le _, Nat.zero_le _⟩ (fun H locs hP hD hS => ?_)
  refine lv_if_eq (tgt := 24) hx hb dX6_copy_5 (by decide) (fun hc => ?_) (fun hc => ?_)
  · rw [if_pos hc] at hf
    refine lv_iconst (v := (-1 : Int32)) hx hb dX6_copy_24 (by decide) ?_
    obtain rfl := Option.some.inj hf
    exact hret _ _ _ _ dX6_copy_25 hP hS
  · rw [if_neg hc] at hf
    refine lv_iload_n hx hb dX6_copy_8 rfl (lv_at hl 2 rfl) ?_
    refine lv_if_lt (tgt := 24) hx hb dX6_copy_9 (by decide) (fun hc => ?_) (fun hc => ?_)
    · rw [if_pos hc] at hf
      refine lv_iconst (v := (-1 : Int32)) hx hb dX6_copy_24 (by decide) ?_
      obtain rfl := Option.some.inj hf
      exact hret _ _ _ _ dX6_copy_25 hP hS
    · rw [if_neg hc] at hf
      refine lv_iload_n hx hb dX6_copy_12 rfl (lv_at hl 3 rfl) ?_
      refine lv_i2l (v := (x3.toInt64)) hx hb dX6_copy_13 rfl ?_
      refine lv_lconst (v := (0 : Int64)) hx hb dX6_copy_14 (by decide) ?_
      refine lv_ldc2 (v := (3 : Int64)) hx hb C.2.2.2.1 (C.2.2.2.2.1 _ mw_884) dX6_copy_15 ?_
      obtain ⟨q18, hq18, hf⟩ := bd_some hf
      refine kcSi C (kX6_in (l := l) (D := D) (k := k) (x3.toInt64) (0 : Int64) (3 : Int64) q18 hq18) mt_X6_in mw_753 ⟨rfl, rfl, Nat.le_of_ble_eq_true rfl, Nat.le_of_ble_eq_true rfl⟩ hP hD hS [] rfl rfl [none, none] rfl rfl (w2 := (wX6_copy k h0 h1 z0 z1 z2 z3 z4 z5 z6 z7 z8 z9 z10 z11 z12 z13 z14 z15 z16 z17 z18 v_page)) rfl rfl rfl hl.1 (rest := []) (Nat.le_of_ble_eq_true rfl) rfl dX6_copy_18 ⟨Nat.zero_le _, Nat.zero_le _⟩ (fun H locs hP hD hS => ?_)
      refine lv_if_ne (tgt := 26) hx hb dX6_copy_21 (by decide) (fun hc => ?_) (fun hc => ?_)
      · rw [if_neg hc] at hf
        refine lv_iconst (v := (0 : Int32)) hx hb dX6_copy_26 (by decide) ?_
        refine lv_istore (lv' := [(4, .int (0 : Int32)), (0, .ref h0), (1, .int x1), (2, .int x2), (3, .int x3)]) hx hb dX6_copy_27 hl (by decide) rfl (fun ls hl => ?_)
        obtain ⟨u29, hv, hf⟩ := lp_some hf
        refine wX6_copy_29 C h0 h1 z0 z1 z2 z3 z4 z5 z6 z7 z8 z9 z10 z11 z12 z13 z14 z15 z16 z17 z18 v_page x1 x2 x3 FU (0 : Int32) u29 _ _ _ hv hP hD hS (lv_sub hl [1, 2, 3, 4, 0] rfl) (fun ex29 ht H locs ls hP hD hS hl => ?_) (fun t ht H locs ls pc hdg hP hS => ?_)
        · subst ht
          refine lv_bipush (v := (-4 : Int32)) hx hb dX6_copy_93 (by decide) ?_
          obtain rfl := Option.some.inj hf
          exact hret _ _ _ _ dX6_copy_95 hP hS
        · subst ht
          obtain rfl := Option.some.inj hf
          exact hret _ _ _ _ hdg hP hS
      · rw [if_pos hc] at hf
        refine lv_iconst (v := (-1 : Int32)) hx hb dX6_copy_24 (by decide) ?_
        obtain rfl := Option.some.inj hf
        exact hret _ _ _ _ dX6_copy_25 hP hS
set_option maxHeartbeats 4000000 in
set_option maxRecDepth 100000 in
theorem kX6_note {l : Launch} {D : va_G} {k : Nat → ClassId} (h0 h1 : Nat) (z0 z1 z2 z3 z4 z5 z6 z7 z8 z9 z10 z11 z12 z13 z14 z15 z16 z17 z18 : Value) (v_page : Nat → Int32) (x1 : Int32) (x2 : Int32) (q : Int32) (hf : fX6_note v_page x1 x2 = some q) : KMi l yX6_note cX6_note 3 (some .int) ({ frames := 2, cells := 0, slots := 0, locals := 46 } : Room) D k [.ref h0, .int x1, .int x2] (wX6_note k h0 h1 z0 z1 z2 z3 z4 z5 z6 z7 z8 z9 z10 z11 z12 z13 z14 z15 z16 z17 z18 v_page) q (wX6_note k h0 h1 z0 z1 z2 z3 z4 z5 z6 z7 z8 z9 z10 z11 z12 z13 z14 z15 z16 z17 z18 v_page) := by
  refine kent_i (by decide) (Nat.le_of_ble_eq_true rfl) ?_
  intro p e s m below meth c A Q ls C hP hD hS hl hret
  obtain ⟨hx, hb, -⟩ := id C
  have hl : lv_has ls 3 [(0, .ref h0), (1, .int x1), (2, .int x2)] := hl
  unfold fX6_note at hf
  generalize ([.ref h0, .int x1, .int x2] : List Value).toArray = args at *
  refine lv_aload_n hx hb dX6_note_0 rfl (lv_at hl 0 rfl) ?_
  refine lv_iload_n hx hb dX6_note_1 rfl (lv_at hl 1 rfl) ?_
  obtain ⟨q2, hq2, hf⟩ := bd_some hf
  refine kcVi C (kX6_isNode (l := l) (D := D) (k := k) h0 h1 z0 z1 z2 z3 z4 z5 z6 z7 z8 z9 z10 z11 z12 z13 z14 z15 z16 z17 z18 v_page x1 q2 hq2) mt_X6_isNode mw_831 ⟨rfl, rfl, Nat.le_of_ble_eq_true rfl, Nat.le_of_ble_eq_true rfl⟩ hP hD hS 0 rfl rfl rfl [0, 1] rfl rfl [some 0, some 1] rfl rfl (w2 := (wX6_note k h0 h1 z0 z1 z2 z3 z4 z5 z6 z7 z8 z9 z10 z11 z12 z13 z14 z15 z16 z17 z18 v_page)) rfl rfl rfl hl.1 (rest := []) (Nat.le_of_ble_eq_true rfl) rfl dX6_note_2 ⟨Nat.zero_le _, Nat.zero_le _⟩ (fun H locs hP hD hS => ?_)
  refine lv_if_eq (tgt := 34) hx hb dX6_note_5 (by decide) (fun hc => ?_) (fun hc => ?_)
  · rw [if_pos hc] at hf
    refine lv_iconst (v := (-1 : Int32)) hx hb dX6_note_34 (by decide) ?_
    obtain rfl := Option.some.inj hf
    exact hret _ _ _ _ dX6_note_35 hP hS
  · rw [if_neg hc] at hf
    refine lv_aload_n hx hb dX6_note_8 rfl (lv_at hl 0 rfl) ?_
    refine lv_iload_n hx hb dX6_note_9 rfl (lv_at hl 2 rfl) ?_
    obtain ⟨q10, hq10, hf⟩ := bd_some hf
    refine kcVi C (kX6_isLetter (l := l) (D := D) (k := k) h0 h1 z0 z1 z2 z3 z4 z5 z6 z7 z8 z9 z10 z11 z12 z13 z14 z15 z16 z17 z18 v_page x2 q10 hq10) mt_X6_isLetter mw_863 ⟨rfl, rfl, Nat.le_of_ble_eq_true rfl, Nat.le_of_ble_eq_true rfl⟩ hP hD hS 0 rfl rfl rfl [0, 1] rfl rfl [some 0, some 1] rfl rfl (w2 := (wX6_note k h0 h1 z0 z1 z2 z3 z4 z5 z6 z7 z8 z9 z10 z11 z12 z13 z14 z15 z16 z17 z18 v_page)) rfl rfl rfl hl.1 (rest := []) (Nat.le_of_ble_eq_true rfl) rfl dX6_note_10 ⟨Nat.zero_le _, Nat.zero_le _⟩ (fun H locs hP hD hS => ?_)
    refine lv_if_eq (tgt := 34) hx hb dX6_note_13 (by decide) (fun hc => ?_) (fun hc => ?_)
    · rw [if_pos hc] at hf
      refine lv_iconst (v := (-1 : Int32)) hx hb dX6_note_34 (by decide) ?_
      obtain rfl := Option.some.inj hf
      exact hret _ _ _ _ dX6_note_35 hP hS
    · rw [if_neg hc] at hf
      refine lv_aload_n hx hb dX6_note_16 rfl (lv_at hl 0 rfl) ?_
      refine kget C inX6 hP 0 rfl rfl 0 (by decide) mw_687 rfl dX6_note_17 ?_
      refine lv_sipush (v := (639 : Int32)) hx hb dX6_note_20 (by decide) ?_
      refine lv_bipush (v := (16 : Int32)) hx hb dX6_note_23 (by decide) ?_
      refine lv_iload_n hx hb dX6_note_25 rfl (lv_at hl 1 rfl) ?_
      refine lv_imul hx hb dX6_note_26 ?_
      refine lv_iadd hx hb dX6_note_27 ?_
      refine lv_iload_n hx hb dX6_note_28 rfl (lv_at hl 2 rfl) ?_
      refine lv_iadd hx hb dX6_note_29 ?_
      obtain ⟨hin, hf⟩ := gd_some hf
      refine kiald C hP 1 rfl hin dX6_note_30 (j := (((639 : Int32) + ((16 : Int32) * x1)) + x2).toNatClampNeg) rfl ?_
      refine lv_goto (tgt := 35) hx hb dX6_note_31 (by decide) ?_
      obtain rfl := Option.some.inj hf
      exact hret _ _ _ _ dX6_note_35 hP hS
set_option maxHeartbeats 4000000 in
set_option maxRecDepth 100000 in
theorem kX6_last {l : Launch} {D : va_G} {k : Nat → ClassId} (h0 h1 : Nat) (z0 z1 z2 z3 z4 z5 z6 z7 z8 z9 z10 z11 z12 z13 z14 z15 z16 z17 z18 : Value) (v_page : Nat → Int32) (x1 : Int32) (x2 : Int32) (q : Int32) (hf : fX6_last v_page x1 x2 = some q) : KMi l yX6_last cX6_last 3 (some .int) ({ frames := 2, cells := 0, slots := 0, locals := 46 } : Room) D k [.ref h0, .int x1, .int x2] (wX6_last k h0 h1 z0 z1 z2 z3 z4 z5 z6 z7 z8 z9 z10 z11 z12 z13 z14 z15 z16 z17 z18 v_page) q (wX6_last k h0 h1 z0 z1 z2 z3 z4 z5 z6 z7 z8 z9 z10 z11 z12 z13 z14 z15 z16 z17 z18 v_page) := by
  refine kent_i (by decide) (Nat.le_of_ble_eq_true rfl) ?_
  intro p e s m below meth c A Q ls C hP hD hS hl hret
  obtain ⟨hx, hb, -⟩ := id C
  have hl : lv_has ls 3 [(0, .ref h0), (1, .int x1), (2, .int x2)] := hl
  unfold fX6_last at hf
  generalize ([.ref h0, .int x1, .int x2] : List Value).toArray = args at *
  refine lv_aload_n hx hb dX6_last_0 rfl (lv_at hl 0 rfl) ?_
  refine lv_iload_n hx hb dX6_last_1 rfl (lv_at hl 1 rfl) ?_
  obtain ⟨q2, hq2, hf⟩ := bd_some hf
  refine kcVi C (kX6_isNode (l := l) (D := D) (k := k) h0 h1 z0 z1 z2 z3 z4 z5 z6 z7 z8 z9 z10 z11 z12 z13 z14 z15 z16 z17 z18 v_page x1 q2 hq2) mt_X6_isNode mw_831 ⟨rfl, rfl, Nat.le_of_ble_eq_true rfl, Nat.le_of_ble_eq_true rfl⟩ hP hD hS 0 rfl rfl rfl [0, 1] rfl rfl [some 0, some 1] rfl rfl (w2 := (wX6_last k h0 h1 z0 z1 z2 z3 z4 z5 z6 z7 z8 z9 z10 z11 z12 z13 z14 z15 z16 z17 z18 v_page)) rfl rfl rfl hl.1 (rest := []) (Nat.le_of_ble_eq_true rfl) rfl dX6_last_2 ⟨Nat.zero_le _, Nat.zero_le _⟩ (fun H locs hP hD hS => ?_)
  refine lv_if_eq (tgt := 21) hx hb dX6_last_5 (by decide) (fun hc => ?_) (fun hc => ?_)
  · rw [if_pos hc] at hf
    refine lv_iconst (v := (-1 : Int32)) hx hb dX6_last_21 (by decide) ?_
    obtain rfl := Option.some.inj hf
    exact hret _ _ _ _ dX6_last_22 hP hS
  · rw [if_neg hc] at hf
    refine lv_aload_n hx hb dX6_last_8 rfl (lv_at hl 0 rfl) ?_
    refine lv_iload_n hx hb dX6_last_9 rfl (lv_at hl 2 rfl) ?_
    obtain ⟨q10, hq10, hf⟩ := bd_some hf
    refine kcVi C (kX6_isNode (l := l) (D := D) (k := k) h0 h1 z0 z1 z2 z3 z4 z5 z6 z7 z8 z9 z10 z11 z12 z13 z14 z15 z16 z17 z18 v_page x2 q10 hq10) mt_X6_isNode mw_831 ⟨rfl, rfl, Nat.le_of_ble_eq_true rfl, Nat.le_of_ble_eq_true rfl⟩ hP hD hS 0 rfl rfl rfl [0, 1] rfl rfl [some 0, some 1] rfl rfl (w2 := (wX6_last k h0 h1 z0 z1 z2 z3 z4 z5 z6 z7 z8 z9 z10 z11 z12 z13 z14 z15 z16 z17 z18 v_page)) rfl rfl rfl hl.1 (rest := []) (Nat.le_of_ble_eq_true rfl) rfl dX6_last_10 ⟨Nat.zero_le _, Nat.zero_le _⟩ (fun H locs hP hD hS => ?_)
    refine lv_if_eq (tgt := 21) hx hb dX6_last_13 (by decide) (fun hc => ?_) (fun hc => ?_)
    · rw [if_pos hc] at hf
      refine lv_iconst (v := (-1 : Int32)) hx hb dX6_last_21 (by decide) ?_
      obtain rfl := Option.some.inj hf
      exact hret _ _ _ _ dX6_last_22 hP hS
    · rw [if_neg hc] at hf
      refine lv_iload_n hx hb dX6_last_16 rfl (lv_at hl 1 rfl) ?_
      refine lv_iload_n hx hb dX6_last_17 rfl (lv_at hl 2 rfl) ?_
      refine lv_icmp_ne (tgt := 23) hx hb dX6_last_18 (by decide) (fun hc => ?_) (fun hc => ?_)
      · rw [if_neg hc] at hf
        refine lv_aload_n hx hb dX6_last_23 rfl (lv_at hl 0 rfl) ?_
        refine lv_iload_n hx hb dX6_last_24 rfl (lv_at hl 1 rfl) ?_
        refine lv_iload_n hx hb dX6_last_25 rfl (lv_at hl 2 rfl) ?_
        obtain ⟨q26, hq26, hf⟩ := bd_some hf
        refine kcVi C (kX6_lastOf (l := l) (D := D) (k := k) h0 h1 z0 z1 z2 z3 z4 z5 z6 z7 z8 z9 z10 z11 z12 z13 z14 z15 z16 z17 z18 v_page x1 x2 q26 hq26) mt_X6_lastOf mw_901 ⟨rfl, rfl, Nat.le_of_ble_eq_true rfl, Nat.le_of_ble_eq_true rfl⟩ hP hD hS 0 rfl rfl rfl [0, 1] rfl rfl [some 0, some 1] rfl rfl (w2 := (wX6_last k h0 h1 z0 z1 z2 z3 z4 z5 z6 z7 z8 z9 z10 z11 z12 z13 z14 z15 z16 z17 z18 v_page)) rfl rfl rfl hl.1 (rest := []) (Nat.le_of_ble_eq_true rfl) rfl dX6_last_26 ⟨Nat.zero_le _, Nat.zero_le _⟩ (fun H locs hP hD hS => ?_)
        refine lv_if_ge (tgt := 37) hx hb dX6_last_29 (by decide) (fun hc => ?_) (fun hc => ?_)
        · rw [if_pos hc] at hf
          refine lv_aload_n hx hb dX6_last_37 rfl (lv_at hl 0 rfl) ?_
          refine lv_iload_n hx hb dX6_last_38 rfl (lv_at hl 1 rfl) ?_
          refine lv_iload_n hx hb dX6_last_39 rfl (lv_at hl 2 rfl) ?_
          obtain ⟨q40, hq40, hf⟩ := bd_some hf
          refine kcVi C (kX6_lastOf (l := l) (D := D) (k := k) h0 h1 z0 z1 z2 z3 z4 z5 z6 z7 z8 z9 z10 z11 z12 z13 z14 z15 z16 z17 z18 v_page x1 x2 q40 hq40) mt_X6_lastOf mw_901 ⟨rfl, rfl, Nat.le_of_ble_eq_true rfl, Nat.le_of_ble_eq_true rfl⟩ hP hD hS 0 rfl rfl rfl [0, 1] rfl rfl [some 0, some 1] rfl rfl (w2 := (wX6_last k h0 h1 z0 z1 z2 z3 z4 z5 z6 z7 z8 z9 z10 z11 z12 z13 z14 z15 z16 z17 z18 v_page)) rfl rfl rfl hl.1 (rest := []) (Nat.le_of_ble_eq_true rfl) rfl dX6_last_40 ⟨Nat.zero_le _, Nat.zero_le _⟩ (fun H locs hP hD hS => ?_)
          obtain rfl := Option.some.inj hf
          exact hret _ _ _ _ dX6_last_43 hP hS
        · rw [if_neg hc] at hf
          refine lv_bipush (v := (-4 : Int32)) hx hb dX6_last_32 (by decide) ?_
          refine lv_goto (tgt := 43) hx hb dX6_last_34 (by decide) ?_
          obtain rfl := Option.some.inj hf
          exact hret _ _ _ _ dX6_last_43 hP hS
      · rw [if_pos hc] at hf
        refine lv_iconst (v := (-1 : Int32)) hx hb dX6_last_21 (by decide) ?_
        obtain rfl := Option.some.inj hf
        exact hret _ _ _ _ dX6_last_22 hP hS
set_option maxHeartbeats 4000000 in
set_option maxRecDepth 100000 in
theorem wX6_soonest_12 {p : Program} {l : Launch} {e : Env} {s : State} {m : MethodId} {args : Array Value} {below : List Frame} {meth : Method} {c : Code} {A : Nat → Prop} {Q : State → Prop} {D : va_G} {k : Nat → ClassId} (C : Cx p s m args c cX6_soonest 6 RX6 A D k) (h0 h1 h2 : Nat) (z0 z1 z2 z3 z4 z5 z6 z7 z8 z9 z10 z11 z12 z13 z14 z15 z16 z17 : Value) (v_page : Nat → Int32) (y1 : Int32) : ∀ (f : Nat) (v_has : Nat → Int32) (y2 : Int32) (ex : ((Nat → Int32))) (H : Heap) (locs : List Loc) (ls : Array Slot), fX6_soonest_12 v_page y1 f v_has y2 = some ex → va_P D vwCl (wX6_soonest k h0 h1 h2 z0 z1 z2 z3 z4 z5 z6 z7 z8 z9 z10 z11 z12 z13 z14 z15 z16 z17 v_page v_has) H → va_D A (wX6_soonest k h0 h1 h2 z0 z1 z2 z3 z4 z5 z6 z7 z8 z9 z10 z11 z12 z13 z14 z15 z16 z17 v_page v_has) → va_S A s.heap H locs → lv_has ls 6 [(0, .ref h0), (1, .int y1), (2, .int y2)] → (∀ (H : Heap) (locs : List Loc) (ls : Array Slot), va_P D vwCl (wX6_soonest k h0 h1 h2 z0 z1 z2 z3 z4 z5 z6 z7 z8 z9 z10 z11 z12 z13 z14 z15 z16 z17 v_page ex) H → va_D A (wX6_soonest k h0 h1 h2 z0 z1 z2 z3 z4 z5 z6 z7 z8 z9 z10 z11 z12 z13 z14 z15 z16 z17 v_page ex) → va_S A s.heap H locs → lv_has ls 6 [(0, .ref h0), (1, .int y1)] → W p l e ({ frames := 2, cells := 0, slots := 0, locals := 46 } : Room) s m args below meth c H locs 0 0 Q (F0 m 45 ls [])) → W p l e ({ frames := 2, cells := 0, slots := 0, locals := 46 } : Room) s m args below meth c H locs 0 0 Q (F0 m 12 ls []) := by
  obtain ⟨hx, hb, -⟩ := id C
  intro f
  induction f with
  | zero =>
    intro v_has y2 ex H locs ls hf hP hD hS hl hk
    cases hf
  | succ f ih =>
    intro v_has y2 ex H locs ls hf hP hD hS hl hk
    rw [fX6_soonest_12] at hf
    refine lv_iload_n hx hb dX6_soonest_12 rfl (lv_at hl 2 rfl) ?_
    refine lv_bipush (v := (8 : Int32)) hx hb dX6_soonest_13 (by decide) ?_
    refine lv_icmp_ge (tgt := 45) hx hb dX6_soonest_15 (by decide) (fun hc => ?_) (fun hc => ?_)
    · rw [if_pos hc] at hf
      obtain rfl := Option.some.inj hf
      exact hk _ _ _ hP hD hS (lv_sub hl [0, 1] rfl)
    · rw [if_neg hc] at hf
      refine lv_aload_n hx hb dX6_soonest_18 rfl (lv_at hl 0 rfl) ?_
      refine kget C inX6 hP 0 rfl rfl 18 (by decide) mw_705 rfl dX6_soonest_19 ?_
      refine lv_iload_n hx hb dX6_soonest_22 rfl (lv_at hl 2 rfl) ?_
      refine lv_iload_n hx hb dX6_soonest_23 rfl (lv_at hl 2 rfl) ?_
      refine lv_aload_n hx hb dX6_soonest_24 rfl (lv_at hl 0 rfl) ?_
      refine lv_iload_n hx hb dX6_soonest_25 rfl (lv_at hl 1 rfl) ?_
      refine lv_iconst (v := (1 : Int32)) hx hb dX6_soonest_26 (by decide) ?_
      obtain ⟨q27, hq27, hf⟩ := bd_some hf
      refine kcVi C (kX6_ofLetter (l := l) (D := D) (k := k) h0 h1 z0 z1 z2 z3 z4 z5 z6 z7 z8 z9 z10 z11 z12 z13 z14 z15 z16 (.ref h2) z17 v_page y1 (1 : Int32) q27 hq27) mt_X6_ofLetter mw_839 ⟨rfl, rfl, Nat.le_of_ble_eq_true rfl, Nat.le_of_ble_eq_true rfl⟩ hP hD hS 0 rfl rfl rfl [0, 1] rfl rfl [some 0, some 1, none] rfl rfl (w2 := (wX6_soonest k h0 h1 h2 z0 z1 z2 z3 z4 z5 z6 z7 z8 z9 z10 z11 z12 z13 z14 z15 z16 z17 v_page v_has)) rfl rfl rfl hl.1 (rest := [.int y2, .int y2, .ref h2]) (Nat.le_of_ble_eq_true rfl) rfl dX6_soonest_27 ⟨Nat.zero_le _, Nat.zero_le _⟩ (fun H locs hP hD hS => ?_)
      refine lv_icmp_ne (tgt := 37) hx hb dX6_soonest_30 (by decide) (fun hc => ?_) (fun hc => ?_)
      · rw [if_neg hc] at hf
        refine lv_iconst (v := (0 : Int32)) hx hb dX6_soonest_37 (by decide) ?_
        obtain ⟨hin, hf⟩ := gd_some hf
        obtain ⟨v_has_38, hn38, hf⟩ := nm_some hf
        refine kzast C hP hD hS 2 rfl hin dX6_soonest_38 (j := y2.toNatClampNeg) rfl (g := v_has_38) hn38 (w2 := (wX6_soonest k h0 h1 h2 z0 z1 z2 z3 z4 z5 z6 z7 z8 z9 z10 z11 z12 z13 z14 z15 z16 z17 v_page v_has_38)) rfl (fun H locs hP hD hS => ?_)
        refine lv_iinc (v := (y2 + (1 : Int32))) (lv' := [(2, .int (y2 + (1 : Int32))), (0, .ref h0), (1, .int y1)]) hx hb dX6_soonest_39 hl (k := 2) rfl rfl (by decide) rfl (fun ls hl => ?_)
        refine lv_goto (tgt := 12) hx hb dX6_soonest_42 (by decide) ?_
        exact ih v_has_38 (y2 + (1 : Int32)) _ _ _ _ hf hP hD hS (lv_sub hl [1, 2, 0] rfl) hk
      · rw [if_pos hc] at hf
        refine lv_iconst (v := (1 : Int32)) hx hb dX6_soonest_33 (by decide) ?_
        refine lv_goto (tgt := 38) hx hb dX6_soonest_34 (by decide) ?_
        obtain ⟨hin, hf⟩ := gd_some hf
        obtain ⟨v_has_38, hn38, hf⟩ := nm_some hf
        refine kzast C hP hD hS 2 rfl hin dX6_soonest_38 (j := y2.toNatClampNeg) rfl (g := v_has_38) hn38 (w2 := (wX6_soonest k h0 h1 h2 z0 z1 z2 z3 z4 z5 z6 z7 z8 z9 z10 z11 z12 z13 z14 z15 z16 z17 v_page v_has_38)) rfl (fun H locs hP hD hS => ?_)
        refine lv_iinc (v := (y2 + (1 : Int32))) (lv' := [(2, .int (y2 + (1 : Int32))), (0, .ref h0), (1, .int y1)]) hx hb dX6_soonest_39 hl (k := 2) rfl rfl (by decide) rfl (fun ls hl => ?_)
        refine lv_goto (tgt := 12) hx hb dX6_soonest_42 (by decide) ?_
        exact ih v_has_38 (y2 + (1 : Int32)) _ _ _ _ hf hP hD hS (lv_sub hl [1, 2, 0] rfl) hk
set_option maxHeartbeats 4000000 in
set_option maxRecDepth 100000 in
theorem wX6_soonest_63 {p : Program} {l : Launch} {e : Env} {s : State} {m : MethodId} {args : Array Value} {below : List Frame} {meth : Method} {c : Code} {A : Nat → Prop} {Q : State → Prop} {D : va_G} {k : Nat → ClassId} (C : Cx p s m args c cX6_soonest 6 RX6 A D k) (h0 h1 h2 : Nat) (z0 z1 z2 z3 z4 z5 z6 z7 z8 z9 z10 z11 z12 z13 z14 z15 z16 z17 : Value) (v_page : Nat → Int32) (y1 : Int32) (y2 : Int32) : ∀ (f : Nat) (v_has : Nat → Int32) (y3 : Int32) (ex : ((Nat → Int32))) (H : Heap) (locs : List Loc) (ls : Array Slot), fX6_soonest_63 v_page y1 y2 f v_has y3 = some ex → va_P D vwCl (wX6_soonest k h0 h1 h2 z0 z1 z2 z3 z4 z5 z6 z7 z8 z9 z10 z11 z12 z13 z14 z15 z16 z17 v_page v_has) H → va_D A (wX6_soonest k h0 h1 h2 z0 z1 z2 z3 z4 z5 z6 z7 z8 z9 z10 z11 z12 z13 z14 z15 z16 z17 v_page v_has) → va_S A s.heap H locs → lv_has ls 6 [(0, .ref h0), (1, .int y1), (2, .int y2), (3, .int y3)] → (∀ (H : Heap) (locs : List Loc) (ls : Array Slot), va_P D vwCl (wX6_soonest k h0 h1 h2 z0 z1 z2 z3 z4 z5 z6 z7 z8 z9 z10 z11 z12 z13 z14 z15 z16 z17 v_page ex) H → va_D A (wX6_soonest k h0 h1 h2 z0 z1 z2 z3 z4 z5 z6 z7 z8 z9 z10 z11 z12 z13 z14 z15 z16 z17 v_page ex) → va_S A s.heap H locs → lv_has ls 6 [(0, .ref h0), (1, .int y1), (2, .int y2)] → W p l e ({ frames := 2, cells := 0, slots := 0, locals := 46 } : Room) s m args below meth c H locs 0 0 Q (F0 m 140 ls [])) → W p l e ({ frames := 2, cells := 0, slots := 0, locals := 46 } : Room) s m args below meth c H locs 0 0 Q (F0 m 63 ls []) := by
  obtain ⟨hx, hb, -⟩ := id C
  intro f
  induction f with
  | zero =>
    intro v_has y3 ex H locs ls hf hP hD hS hl hk
    cases hf
  | succ f ih =>
    intro v_has y3 ex H locs ls hf hP hD hS hl hk
    rw [fX6_soonest_63] at hf
    refine lv_iload_n hx hb dX6_soonest_63 rfl (lv_at hl 3 rfl) ?_
    refine lv_aload_n hx hb dX6_soonest_64 rfl (lv_at hl 0 rfl) ?_
    refine kget C inX6 hP 0 rfl rfl 0 (by decide) mw_687 rfl dX6_soonest_65 ?_
    refine lv_iconst (v := (1 : Int32)) hx hb dX6_soonest_68 (by decide) ?_
    refine kiald C hP 1 rfl (by unfold vp_in; decide) dX6_soonest_69 (j := 1) (by decide) ?_
    refine lv_icmp_ge (tgt := 140) hx hb dX6_soonest_70 (by decide) (fun hc => ?_) (fun hc => ?_)
    · rw [if_pos hc] at hf
      obtain rfl := Option.some.inj hf
      exact hk _ _ _ hP hD hS (lv_sub hl [0, 1, 2] rfl)
    · rw [if_neg hc] at hf
      refine lv_aload_n hx hb dX6_soonest_73 rfl (lv_at hl 0 rfl) ?_
      refine lv_iload_n hx hb dX6_soonest_74 rfl (lv_at hl 3 rfl) ?_
      refine lv_iconst (v := (1 : Int32)) hx hb dX6_soonest_75 (by decide) ?_
      obtain ⟨q76, hq76, hf⟩ := bd_some hf
      refine kcVi C (kX6_ofMeeting (l := l) (D := D) (k := k) h0 h1 z0 z1 z2 z3 z4 z5 z6 z7 z8 z9 z10 z11 z12 z13 z14 z15 z16 (.ref h2) z17 v_page y3 (1 : Int32) q76 hq76) mt_X6_ofMeeting mw_851 ⟨rfl, rfl, Nat.le_of_ble_eq_true rfl, Nat.le_of_ble_eq_true rfl⟩ hP hD hS 0 rfl rfl rfl [0, 1] rfl rfl [some 0, some 1, none] rfl rfl (w2 := (wX6_soonest k h0 h1 h2 z0 z1 z2 z3 z4 z5 z6 z7 z8 z9 z10 z11 z12 z13 z14 z15 z16 z17 v_page v_has)) rfl rfl rfl hl.1 (rest := []) (Nat.le_of_ble_eq_true rfl) rfl dX6_soonest_76 ⟨Nat.zero_le _, Nat.zero_le _⟩ (fun H locs hP hD hS => ?_)
      refine lv_istore (lv' := [(4, .int q76), (0, .ref h0), (1, .int y1), (2, .int y2), (3, .int y3)]) hx hb dX6_soonest_79 hl (by decide) rfl (fun ls hl => ?_)
      refine lv_aload_n hx hb dX6_soonest_81 rfl (lv_at hl 1 rfl) ?_
      refine lv_iload_n hx hb dX6_soonest_82 rfl (lv_at hl 4 rfl) ?_
      refine lv_iconst (v := (2 : Int32)) hx hb dX6_soonest_83 (by decide) ?_
      obtain ⟨q84, hq84, hf⟩ := bd_some hf
      refine kcVi C (kX6_ofMeeting (l := l) (D := D) (k := k) h0 h1 z0 z1 z2 z3 z4 z5 z6 z7 z8 z9 z10 z11 z12 z13 z14 z15 z16 (.ref h2) z17 v_page y3 (2 : Int32) q84 hq84) mt_X6_ofMeeting mw_851 ⟨rfl, rfl, Nat.le_of_ble_eq_true rfl, Nat.le_of_ble_eq_true rfl⟩ hP hD hS 0 rfl rfl rfl [0, 1] rfl rfl [some 0, some 1, none] rfl rfl (w2 := (wX6_soonest k h0 h1 h2 z0 z1 z2 z3 z4 z5 z6 z7 z8 z9 z10 z11 z12 z13 z14 z15 z16 z17 v_page v_has)) rfl rfl rfl hl.1 (rest := []) (Nat.le_of_ble_eq_true rfl) rfl dX6_soonest_84 ⟨Nat.zero_le _, Nat.zero_le _⟩ (fun H locs hP hD hS => ?_)
      refine lv_istore (lv' := [(5, .int q84), (4, .int q76), (0, .ref h0), (1, .int y1), (2, .int y2), (3, .int y3)]) hx hb dX6_soonest_87 hl (by decide) rfl (fun ls hl => ?_)
      refine lv_aload_n hx hb dX6_soonest_89 rfl (lv_at hl 2 rfl) ?_
      refine lv_iload_n hx hb dX6_soonest_90 rfl (lv_at hl 5 rfl) ?_
      refine lv_iload_n hx hb dX6_soonest_91 rfl (lv_at hl 4 rfl) ?_
      obtain ⟨q92, hq92, hf⟩ := bd_some hf
      refine kcVi C (kX6_isOn (l := l) (D := D) (k := k) h0 h1 z0 z1 z2 z3 z4 z5 z6 z7 z8 z9 z10 z11 z12 z13 z14 z15 z16 (.ref h2) z17 v_page y3 y2 q92 hq92) mt_X6_isOn mw_913 ⟨rfl, rfl, Nat.le_of_ble_eq_true rfl, Nat.le_of_ble_eq_true rfl⟩ hP hD hS 0 rfl rfl rfl [0, 1] rfl rfl [some 0, some 1, none] rfl rfl (w2 := (wX6_soonest k h0 h1 h2 z0 z1 z2 z3 z4 z5 z6 z7 z8 z9 z10 z11 z12 z13 z14 z15 z16 z17 v_page v_has)) rfl rfl rfl hl.1 (rest := []) (Nat.le_of_ble_eq_true rfl) rfl dX6_soonest_92 ⟨Nat.zero_le _, Nat.zero_le _⟩ (fun H locs hP hD hS => ?_)
      refine lv_if_eq (tgt := 134) hx hb dX6_soonest_95 (by decide) (fun hc => ?_) (fun hc => ?_)
      · rw [if_pos hc] at hf
        refine lv_iinc (v := (y3 + (1 : Int32))) (lv' := [(3, .int (y3 + (1 : Int32))), (5, .int q84), (4, .int q76), (0, .ref h0), (1, .int y1), (2, .int y2)]) hx hb dX6_soonest_134 hl (k := 5) rfl rfl (by decide) rfl (fun ls hl => ?_)
        refine lv_goto (tgt := 63) hx hb dX6_soonest_137 (by decide) ?_
        exact ih v_has (y3 + (1 : Int32)) _ _ _ _ hf hP hD hS (lv_sub hl [3, 4, 5, 0] rfl) hk
      · rw [if_neg hc] at hf
        refine lv_aload_n hx hb dX6_soonest_98 rfl (lv_at hl 2 rfl) ?_
        refine kget C inX6 hP 0 rfl rfl 18 (by decide) mw_705 rfl dX6_soonest_99 ?_
        refine lv_iload hx hb dX6_soonest_102 (lv_at hl 1 rfl) ?_
        obtain ⟨hin, hf⟩ := gd_some hf
        refine kzald C hP 2 rfl hin dX6_soonest_104 (j := q76.toNatClampNeg) rfl ?_
        refine lv_if_ne (tgt := 118) hx hb dX6_soonest_105 (by decide) (fun hc => ?_) (fun hc => ?_)
        · rw [if_neg hc] at hf
          refine lv_aload_n hx hb dX6_soonest_118 rfl (lv_at hl 2 rfl) ?_
          refine kget C inX6 hP 0 rfl rfl 18 (by decide) mw_705 rfl dX6_soonest_119 ?_
          refine lv_iload hx hb dX6_soonest_122 (lv_at hl 1 rfl) ?_
          refine lv_iconst (v := (1 : Int32)) hx hb dX6_soonest_124 (by decide) ?_
          obtain ⟨hin, hf⟩ := gd_some hf
          obtain ⟨v_has_125, hn125, hf⟩ := nm_some hf
          refine kzast C hP hD hS 2 rfl hin dX6_soonest_125 (j := q76.toNatClampNeg) rfl (g := v_has_125) hn125 (w2 := (wX6_soonest k h0 h1 h2 z0 z1 z2 z3 z4 z5 z6 z7 z8 z9 z10 z11 z12 z13 z14 z15 z16 z17 v_page v_has_125)) rfl (fun H locs hP hD hS => ?_)
          refine lv_aload_n hx hb dX6_soonest_126 rfl (lv_at hl 2 rfl) ?_
          refine kget C inX6 hP 0 rfl rfl 18 (by decide) mw_705 rfl dX6_soonest_127 ?_
          refine lv_iload hx hb dX6_soonest_130 (lv_at hl 0 rfl) ?_
          refine lv_iconst (v := (1 : Int32)) hx hb dX6_soonest_132 (by decide) ?_
          obtain ⟨hin, hf⟩ := gd_some hf
          obtain ⟨v_has_133, hn133, hf⟩ := nm_some hf
          refine kzast C hP hD hS 2 rfl hin dX6_soonest_133 (j := q84.toNatClampNeg) rfl (g := v_has_133) hn133 (w2 := (wX6_soonest k h0 h1 h2 z0 z1 z2 z3 z4 z5 z6 z7 z8 z9 z10 z11 z12 z13 z14 z15 z16 z17 v_page v_has_133)) rfl (fun H locs hP hD hS => ?_)
          refine lv_iinc (v := (y3 + (1 : Int32))) (lv' := [(3, .int (y3 + (1 : Int32))), (5, .int q84), (4, .int q76), (0, .ref h0), (1, .int y1), (2, .int y2)]) hx hb dX6_soonest_134 hl (k := 5) rfl rfl (by decide) rfl (fun ls hl => ?_)
          refine lv_goto (tgt := 63) hx hb dX6_soonest_137 (by decide) ?_
          exact ih v_has_133 (y3 + (1 : Int32)) _ _ _ _ hf hP hD hS (lv_sub hl [3, 4, 5, 0] rfl) hk
        · rw [if_pos hc] at hf
          refine lv_aload_n hx hb dX6_soonest_108 rfl (lv_at hl 2 rfl) ?_
          refine kget C inX6 hP 0 rfl rfl 18 (by decide) mw_705 rfl dX6_soonest_109 ?_
          refine lv_iload hx hb dX6_soonest_112 (lv_at hl 0 rfl) ?_
          obtain ⟨hin, hf⟩ := gd_some hf
          refine kzald C hP 2 rfl hin dX6_soonest_114 (j := q84.toNatClampNeg) rfl ?_
          refine lv_if_eq (tgt := 134) hx hb dX6_soonest_115 (by decide) (fun hc => ?_) (fun hc => ?_)
          · rw [if_pos hc] at hf
            refine lv_iinc (v := (y3 + (1 : Int32))) (lv' := [(3, .int (y3 + (1 : Int32))), (5, .int q84), (4, .int q76), (0, .ref h0), (1, .int y1), (2, .int y2)]) hx hb dX6_soonest_134 hl (k := 5) rfl rfl (by decide) rfl (fun ls hl => ?_)
            refine lv_goto (tgt := 63) hx hb dX6_soonest_137 (by decide) ?_
            exact ih v_has (y3 + (1 : Int32)) _ _ _ _ hf hP hD hS (lv_sub hl [3, 4, 5, 0] rfl) hk
          · rw [if_neg hc] at hf
            refine lv_aload_n hx hb dX6_soonest_118 rfl (lv_at hl 2 rfl) ?_
            refine kget C inX6 hP 0 rfl rfl 18 (by decide) mw_705 rfl dX6_soonest_119 ?_
            refine lv_iload hx hb dX6_soonest_122 (lv_at hl 1 rfl) ?_
            refine lv_iconst (v := (1 : Int32)) hx hb dX6_soonest_124 (by decide) ?_
            obtain ⟨hin, hf⟩ := gd_some hf
            obtain ⟨v_has_125, hn125, hf⟩ := nm_some hf
            refine kzast C hP hD hS 2 rfl hin dX6_soonest_125 (j := q76.toNatClampNeg) rfl (g := v_has_125) hn125 (w2 := (wX6_soonest k h0 h1 h2 z0 z1 z2 z3 z4 z5 z6 z7 z8 z9 z10 z11 z12 z13 z14 z15 z16 z17 v_page v_has_125)) rfl (fun H locs hP hD hS => ?_)
            refine lv_aload_n hx hb dX6_soonest_126 rfl (lv_at hl 2 rfl) ?_
            refine kget C inX6 hP 0 rfl rfl 18 (by decide) mw_705 rfl dX6_soonest_127 ?_
            refine lv_iload hx hb dX6_soonest_130 (lv_at hl 0 rfl) ?_
            refine lv_iconst (v := (1 : Int32)) hx hb dX6_soonest_132 (by decide) ?_
            obtain ⟨hin, hf⟩ := gd_some hf
            obtain ⟨v_has_133, hn133, hf⟩ := nm_some hf
            refine kzast C hP hD hS 2 rfl hin dX6_soonest_133 (j := q84.toNatClampNeg) rfl (g := v_has_133) hn133 (w2 := (wX6_soonest k h0 h1 h2 z0 z1 z2 z3 z4 z5 z6 z7 z8 z9 z10 z11 z12 z13 z14 z15 z16 z17 v_page v_has_133)) rfl (fun H locs hP hD hS => ?_)
            refine lv_iinc (v := (y3 + (1 : Int32))) (lv' := [(3, .int (y3 + (1 : Int32))), (5, .int q84), (4, .int q76), (0, .ref h0), (1, .int y1), (2, .int y2)]) hx hb dX6_soonest_134 hl (k := 5) rfl rfl (by decide) rfl (fun ls hl => ?_)
            refine lv_goto (tgt := 63) hx hb dX6_soonest_137 (by decide) ?_
            exact ih v_has_133 (y3 + (1 : Int32)) _ _ _ _ hf hP hD hS (lv_sub hl [3, 4, 5, 0] rfl) hk
set_option maxHeartbeats 4000000 in
set_option maxRecDepth 100000 in
theorem wX6_soonest_52 {p : Program} {l : Launch} {e : Env} {s : State} {m : MethodId} {args : Array Value} {below : List Frame} {meth : Method} {c : Code} {A : Nat → Prop} {Q : State → Prop} {D : va_G} {k : Nat → ClassId} (C : Cx p s m args c cX6_soonest 6 RX6 A D k) (h0 h1 h2 : Nat) (z0 z1 z2 z3 z4 z5 z6 z7 z8 z9 z10 z11 z12 z13 z14 z15 z16 z17 : Value) (v_page : Nat → Int32) (y1 : Int32) : ∀ (f : Nat) (v_has : Nat → Int32) (y2 : Int32) (u : (Int32 × (Nat → Int32)) ⊕ ((Nat → Int32))) (H : Heap) (locs : List Loc) (ls : Array Slot), fX6_soonest_52 v_page y1 f v_has y2 = some u → va_P D vwCl (wX6_soonest k h0 h1 h2 z0 z1 z2 z3 z4 z5 z6 z7 z8 z9 z10 z11 z12 z13 z14 z15 z16 z17 v_page v_has) H → va_D A (wX6_soonest k h0 h1 h2 z0 z1 z2 z3 z4 z5 z6 z7 z8 z9 z10 z11 z12 z13 z14 z15 z16 z17 v_page v_has) → va_S A s.heap H locs → lv_has ls 6 [(0, .ref h0), (1, .int y1), (2, .int y2)] → (∀ ex, u = .inr ex → ∀ (H : Heap) (locs : List Loc) (ls : Array Slot), va_P D vwCl (wX6_soonest k h0 h1 h2 z0 z1 z2 z3 z4 z5 z6 z7 z8 z9 z10 z11 z12 z13 z14 z15 z16 z17 v_page ex) H → va_D A (wX6_soonest k h0 h1 h2 z0 z1 z2 z3 z4 z5 z6 z7 z8 z9 z10 z11 z12 z13 z14 z15 z16 z17 v_page ex) → va_S A s.heap H locs → lv_has ls 6 [] → W p l e ({ frames := 2, cells := 0, slots := 0, locals := 46 } : Room) s m args below meth c H locs 0 0 Q (F0 m 162 ls [])) → (∀ t, u = .inl t → ∀ (H : Heap) (locs : List Loc) (ls : Array Slot) (pc : Nat), decode cX6_soonest pc = .ok (.ireturn, 1) → va_P D vwCl (wX6_soonest k h0 h1 h2 z0 z1 z2 z3 z4 z5 z6 z7 z8 z9 z10 z11 z12 z13 z14 z15 z16 z17 v_page t.2) H → va_S A s.heap H locs → W p l e ({ frames := 2, cells := 0, slots := 0, locals := 46 } : Room) s m args below meth c H locs 0 0 Q (F0 m pc ls [.int t.1])) → W p l e ({ frames := 2, cells := 0, slots := 0, locals := 46 } : Room) s m args below meth c H locs 0 0 Q (F0 m 52 ls []) := by
  obtain ⟨hx, hb, -⟩ := id C
  intro f
  induction f with
  | zero =>
    intro v_has y2 u H locs ls hf hP hD hS hl hk hr
    cases hf
  | succ f ih =>
    intro v_has y2 u H locs ls hf hP hD hS hl hk hr
    rw [fX6_soonest_52] at hf
    refine lv_iload_n hx hb dX6_soonest_52 rfl (lv_at hl 2 rfl) ?_
    refine lv_aload_n hx hb dX6_soonest_53 rfl (lv_at hl 0 rfl) ?_
    refine lv_iload_n hx hb dX6_soonest_54 rfl (lv_at hl 1 rfl) ?_
    obtain ⟨q55, hq55, hf⟩ := bd_some hf
    refine kcVi C (kX6_endOf (l := l) (D := D) (k := k) h0 h1 z0 z1 z2 z3 z4 z5 z6 z7 z8 z9 z10 z11 z12 z13 z14 z15 z16 (.ref h2) z17 v_page y1 q55 hq55) mt_X6_endOf mw_909 ⟨rfl, rfl, Nat.le_of_ble_eq_true rfl, Nat.le_of_ble_eq_true rfl⟩ hP hD hS 0 rfl rfl rfl [0, 1] rfl rfl [some 0, some 1, none] rfl rfl (w2 := (wX6_soonest k h0 h1 h2 z0 z1 z2 z3 z4 z5 z6 z7 z8 z9 z10 z11 z12 z13 z14 z15 z16 z17 v_page v_has)) rfl rfl rfl hl.1 (rest := [.int y2]) (Nat.le_of_ble_eq_true rfl) rfl dX6_soonest_55 ⟨Nat.zero_le _, Nat.zero_le _⟩ (fun H locs hP hD hS => ?_)
    refine lv_icmp_ge (tgt := 162) hx hb dX6_soonest_58 (by decide) (fun hc => ?_) (fun hc => ?_)
    · rw [if_pos hc] at hf
      obtain rfl := Option.some.inj hf
      exact hk _ rfl _ _ _ hP hD hS (lv_sub hl [] rfl)
    · rw [if_neg hc] at hf
      refine lv_iconst (v := (0 : Int32)) hx hb dX6_soonest_61 (by decide) ?_
      refine lv_istore_n (lv' := [(3, .int (0 : Int32)), (0, .ref h0), (1, .int y1), (2, .int y2)]) hx hb dX6_soonest_62 rfl hl (by decide) rfl (fun ls hl => ?_)
      obtain ⟨ex63, hv, hf⟩ := bd_some hf
      refine wX6_soonest_63 C h0 h1 h2 z0 z1 z2 z3 z4 z5 z6 z7 z8 z9 z10 z11 z12 z13 z14 z15 z16 z17 v_page y1 y2 FU v_has (0 : Int32) ex63 _ _ _ hv hP hD hS (lv_sub hl [1, 2, 3, 0] rfl) (fun H locs ls hP hD hS hl => ?_)
      refine lv_aload_n hx hb dX6_soonest_140 rfl (lv_at hl 0 rfl) ?_
      refine kget C inX6 hP 0 rfl rfl 18 (by decide) mw_705 rfl dX6_soonest_141 ?_
      refine lv_aload_n hx hb dX6_soonest_144 rfl (lv_at hl 0 rfl) ?_
      refine lv_iload_n hx hb dX6_soonest_145 rfl (lv_at hl 1 rfl) ?_
      refine lv_iconst (v := (2 : Int32)) hx hb dX6_soonest_146 (by decide) ?_
      obtain ⟨q147, hq147, hf⟩ := bd_some hf
      refine kcVi C (kX6_ofLetter (l := l) (D := D) (k := k) h0 h1 z0 z1 z2 z3 z4 z5 z6 z7 z8 z9 z10 z11 z12 z13 z14 z15 z16 (.ref h2) z17 v_page y1 (2 : Int32) q147 hq147) mt_X6_ofLetter mw_839 ⟨rfl, rfl, Nat.le_of_ble_eq_true rfl, Nat.le_of_ble_eq_true rfl⟩ hP hD hS 0 rfl rfl rfl [0, 1] rfl rfl [some 0, some 1, none] rfl rfl (w2 := (wX6_soonest k h0 h1 h2 z0 z1 z2 z3 z4 z5 z6 z7 z8 z9 z10 z11 z12 z13 z14 z15 z16 z17 v_page ex63)) rfl rfl rfl hl.1 (rest := [.ref h2]) (Nat.le_of_ble_eq_true rfl) rfl dX6_soonest_147 ⟨Nat.zero_le _, Nat.zero_le _⟩ (fun H locs hP hD hS => ?_)
      obtain ⟨hin, hf⟩ := gd_some hf
      refine kzald C hP 2 rfl hin dX6_soonest_150 (j := q147.toNatClampNeg) rfl ?_
      refine lv_if_eq (tgt := 156) hx hb dX6_soonest_151 (by decide) (fun hc => ?_) (fun hc => ?_)
      · rw [if_pos hc] at hf
        refine lv_iinc (v := (y2 + (1 : Int32))) (lv' := [(2, .int (y2 + (1 : Int32))), (0, .ref h0), (1, .int y1)]) hx hb dX6_soonest_156 hl (k := 2) rfl rfl (by decide) rfl (fun ls hl => ?_)
        refine lv_goto (tgt := 52) hx hb dX6_soonest_159 (by decide) ?_
        exact ih ex63 (y2 + (1 : Int32)) _ _ _ _ hf hP hD hS (lv_sub hl [1, 2, 0] rfl) hk hr
      · rw [if_neg hc] at hf
        refine lv_iload_n hx hb dX6_soonest_154 rfl (lv_at hl 2 rfl) ?_
        obtain rfl := Option.some.inj hf
        exact hr _ rfl _ _ _ _ dX6_soonest_155 hP hS
set_option maxHeartbeats 4000000 in
set_option maxRecDepth 100000 in
theorem kX6_soonest {l : Launch} {D : va_G} {k : Nat → ClassId} (h0 h1 h2 : Nat) (z0 z1 z2 z3 z4 z5 z6 z7 z8 z9 z10 z11 z12 z13 z14 z15 z16 z17 : Value) (v_page : Nat → Int32) (v_has : Nat → Int32) (x1 : Int32) (q : Int32 × (Nat → Int32)) (hf : fX6_soonest v_page v_has x1 = some q) : KMi l yX6_soonest cX6_soonest 6 (some .int) ({ frames := 2, cells := 0, slots := 0, locals := 46 } : Room) D k [.ref h0, .int x1] (wX6_soonest k h0 h1 h2 z0 z1 z2 z3 z4 z5 z6 z7 z8 z9 z10 z11 z12 z13 z14 z15 z16 z17 v_page v_has) q.1 (wX6_soonest k h0 h1 h2 z0 z1 z2 z3 z4 z5 z6 z7 z8 z9 z10 z11 z12 z13 z14 z15 z16 z17 v_page q.2) := by
  refine kent_i (by decide) (Nat.le_of_ble_eq_true rfl) ?_
  intro p e s m below meth c A Q ls C hP hD hS hl hret
  obtain ⟨hx, hb, -⟩ := id C
  have hl : lv_has ls 6 [(0, .ref h0), (1, .int x1)] := hl
  unfold fX6_soonest at hf
  generalize ([.ref h0, .int x1] : List Value).toArray = args at *
  refine lv_aload_n hx hb dX6_soonest_0 rfl (lv_at hl 0 rfl) ?_
  refine lv_iload_n hx hb dX6_soonest_1 rfl (lv_at hl 1 rfl) ?_
  obtain ⟨q2, hq2, hf⟩ := bd_some hf
  refine kcVi C (kX6_isLetter (l := l) (D := D) (k := k) h0 h1 z0 z1 z2 z3 z4 z5 z6 z7 z8 z9 z10 z11 z12 z13 z14 z15 z16 (.ref h2) z17 v_page x1 q2 hq2) mt_X6_isLetter mw_863 ⟨rfl, rfl, Nat.le_of_ble_eq_true rfl, Nat.le_of_ble_eq_true rfl⟩ hP hD hS 0 rfl rfl rfl [0, 1] rfl rfl [some 0, some 1, none] rfl rfl (w2 := (wX6_soonest k h0 h1 h2 z0 z1 z2 z3 z4 z5 z6 z7 z8 z9 z10 z11 z12 z13 z14 z15 z16 z17 v_page v_has)) rfl rfl rfl hl.1 (rest := []) (Nat.le_of_ble_eq_true rfl) rfl dX6_soonest_2 ⟨Nat.zero_le _, Nat.zero_le _⟩ (fun H locs hP hD hS => ?_)
  refine lv_if_ne (tgt := 10) hx hb dX6_soonest_5 (by decide) (fun hc => ?_) (fun hc => ?_)
  · rw [if_neg hc] at hf
    refine lv_iconst (v := (0 : Int32)) hx hb dX6_soonest_10 (by decide) ?_
    refine lv_istore_n (lv' := [(2, .int (0 : Int32)), (0, .ref h0), (1, .int x1)]) hx hb dX6_soonest_11 rfl hl (by decide) rfl (fun ls hl => ?_)
    obtain ⟨ex12, hv, hf⟩ := bd_some hf
    refine wX6_soonest_12 C h0 h1 h2 z0 z1 z2 z3 z4 z5 z6 z7 z8 z9 z10 z11 z12 z13 z14 z15 z16 z17 v_page x1 FU v_has (0 : Int32) ex12 _ _ _ hv hP hD hS (lv_sub hl [1, 2, 0] rfl) (fun H locs ls hP hD hS hl => ?_)
    refine lv_aload_n hx hb dX6_soonest_45 rfl (lv_at hl 0 rfl) ?_
    refine lv_iload_n hx hb dX6_soonest_46 rfl (lv_at hl 1 rfl) ?_
    refine lv_iconst (v := (0 : Int32)) hx hb dX6_soonest_47 (by decide) ?_
    obtain ⟨q48, hq48, hf⟩ := bd_some hf
    refine kcVi C (kX6_ofLetter (l := l) (D := D) (k := k) h0 h1 z0 z1 z2 z3 z4 z5 z6 z7 z8 z9 z10 z11 z12 z13 z14 z15 z16 (.ref h2) z17 v_page x1 (0 : Int32) q48 hq48) mt_X6_ofLetter mw_839 ⟨rfl, rfl, Nat.le_of_ble_eq_true rfl, Nat.le_of_ble_eq_true rfl⟩ hP hD hS 0 rfl rfl rfl [0, 1] rfl rfl [some 0, some 1, none] rfl rfl (w2 := (wX6_soonest k h0 h1 h2 z0 z1 z2 z3 z4 z5 z6 z7 z8 z9 z10 z11 z12 z13 z14 z15 z16 z17 v_page ex12)) rfl rfl rfl hl.1 (rest := []) (Nat.le_of_ble_eq_true rfl) rfl dX6_soonest_48 ⟨Nat.zero_le _, Nat.zero_le _⟩ (fun H locs hP hD hS => ?_)
    refine lv_istore_n (lv' := [(2, .int q48), (0, .ref h0), (1, .int x1)]) hx hb dX6_soonest_51 rfl hl (by decide) rfl (fun ls hl => ?_)
    obtain ⟨u52, hv, hf⟩ := lp_some hf
    refine wX6_soonest_52 C h0 h1 h2 z0 z1 z2 z3 z4 z5 z6 z7 z8 z9 z10 z11 z12 z13 z14 z15 z16 z17 v_page x1 FU ex12 q48 u52 _ _ _ hv hP hD hS (lv_sub hl [1, 2, 0] rfl) (fun ex52 ht H locs ls hP hD hS hl => ?_) (fun t ht H locs ls pc hdg hP hS => ?_)
    · subst ht
      refine lv_bipush (v := (-4 : Int32)) hx hb dX6_soonest_162 (by decide) ?_
      obtain rfl := Option.some.inj hf
      exact hret _ _ _ _ dX6_soonest_164 hP hS
    · subst ht
      obtain rfl := Option.some.inj hf
      exact hret _ _ _ _ hdg hP hS
  · rw [if_pos hc] at hf
    refine lv_iconst (v := (-1 : Int32)) hx hb dX6_soonest_8 (by decide) ?_
    obtain rfl := Option.some.inj hf
    exact hret _ _ _ _ dX6_soonest_9 hP hS
set_option maxHeartbeats 4000000 in
set_option maxRecDepth 100000 in
theorem kX6_why {l : Launch} {D : va_G} {k : Nat → ClassId} (h0 h1 : Nat) (z0 z1 z2 z3 z4 z5 z6 z7 z8 z9 z10 z11 z12 z13 z14 z15 z16 z17 z18 : Value) (v_page : Nat → Int32) (x1 : Int32) (x2 : Int32) (x3 : Int32) (x4 : Int32) (q : Int32) (hf : fX6_why v_page x1 x2 x3 x4 = some q) : KMi l yX6_why cX6_why 6 (some .int) ({ frames := 5, cells := 0, slots := 0, locals := 115 } : Room) D k [.ref h0, .int x1, .int x2, .int x3, .int x4] (wX6_why k h0 h1 z0 z1 z2 z3 z4 z5 z6 z7 z8 z9 z10 z11 z12 z13 z14 z15 z16 z17 z18 v_page) q (wX6_why k h0 h1 z0 z1 z2 z3 z4 z5 z6 z7 z8 z9 z10 z11 z12 z13 z14 z15 z16 z17 z18 v_page) := by
  refine kent_i (by decide) (Nat.le_of_ble_eq_true rfl) ?_
  intro p e s m below meth c A Q ls C hP hD hS hl hret
  obtain ⟨hx, hb, -⟩ := id C
  have hl : lv_has ls 6 [(0, .ref h0), (1, .int x1), (2, .int x2), (3, .int x3), (4, .int x4)] := hl
  unfold fX6_why at hf
  generalize ([.ref h0, .int x1, .int x2, .int x3, .int x4] : List Value).toArray = args at *
  refine lv_aload_n hx hb dX6_why_0 rfl (lv_at hl 0 rfl) ?_
  refine lv_iload_n hx hb dX6_why_1 rfl (lv_at hl 1 rfl) ?_
  obtain ⟨q2, hq2, hf⟩ := bd_some hf
  refine kcVi C (kX6_isNode (l := l) (D := D) (k := k) h0 h1 z0 z1 z2 z3 z4 z5 z6 z7 z8 z9 z10 z11 z12 z13 z14 z15 z16 z17 z18 v_page x1 q2 hq2) mt_X6_isNode mw_831 ⟨rfl, rfl, Nat.le_of_ble_eq_true rfl, Nat.le_of_ble_eq_true rfl⟩ hP hD hS 0 rfl rfl rfl [0, 1] rfl rfl [some 0, some 1] rfl rfl (w2 := (wX6_why k h0 h1 z0 z1 z2 z3 z4 z5 z6 z7 z8 z9 z10 z11 z12 z13 z14 z15 z16 z17 z18 v_page)) rfl rfl rfl hl.1 (rest := []) (Nat.le_of_ble_eq_true rfl) rfl dX6_why_2 ⟨Nat.zero_le _, Nat.zero_le _⟩ (fun H locs hP hD hS => ?_)
  refine lv_if_eq (tgt := 51) hx hb dX6_why_5 (by decide) (fun hc => ?_) (fun hc => ?_)
  · rw [if_pos hc] at hf
    refine lv_iconst (v := (-1 : Int32)) hx hb dX6_why_51 (by decide) ?_
    obtain rfl := Option.some.inj hf
    exact hret _ _ _ _ dX6_why_52 hP hS
  · rw [if_neg hc] at hf
    refine lv_aload_n hx hb dX6_why_8 rfl (lv_at hl 0 rfl) ?_
    refine lv_iload_n hx hb dX6_why_9 rfl (lv_at hl 2 rfl) ?_
    obtain ⟨q10, hq10, hf⟩ := bd_some hf
    refine kcVi C (kX6_isNode (l := l) (D := D) (k := k) h0 h1 z0 z1 z2 z3 z4 z5 z6 z7 z8 z9 z10 z11 z12 z13 z14 z15 z16 z17 z18 v_page x2 q10 hq10) mt_X6_isNode mw_831 ⟨rfl, rfl, Nat.le_of_ble_eq_true rfl, Nat.le_of_ble_eq_true rfl⟩ hP hD hS 0 rfl rfl rfl [0, 1] rfl rfl [some 0, some 1] rfl rfl (w2 := (wX6_why k h0 h1 z0 z1 z2 z3 z4 z5 z6 z7 z8 z9 z10 z11 z12 z13 z14 z15 z16 z17 z18 v_page)) rfl rfl rfl hl.1 (rest := []) (Nat.le_of_ble_eq_true rfl) rfl dX6_why_10 ⟨Nat.zero_le _, Nat.zero_le _⟩ (fun H locs hP hD hS => ?_)
    refine lv_if_eq (tgt := 51) hx hb dX6_why_13 (by decide) (fun hc => ?_) (fun hc => ?_)
    · rw [if_pos hc] at hf
      refine lv_iconst (v := (-1 : Int32)) hx hb dX6_why_51 (by decide) ?_
      obtain rfl := Option.some.inj hf
      exact hret _ _ _ _ dX6_why_52 hP hS
    · rw [if_neg hc] at hf
      refine lv_iload_n hx hb dX6_why_16 rfl (lv_at hl 1 rfl) ?_
      refine lv_iload_n hx hb dX6_why_17 rfl (lv_at hl 2 rfl) ?_
      refine lv_icmp_eq (tgt := 51) hx hb dX6_why_18 (by decide) (fun hc => ?_) (fun hc => ?_)
      · rw [if_pos hc] at hf
        refine lv_iconst (v := (-1 : Int32)) hx hb dX6_why_51 (by decide) ?_
        obtain rfl := Option.some.inj hf
        exact hret _ _ _ _ dX6_why_52 hP hS
      · rw [if_neg hc] at hf
        refine lv_aload_n hx hb dX6_why_21 rfl (lv_at hl 0 rfl) ?_
        refine lv_iload_n hx hb dX6_why_22 rfl (lv_at hl 3 rfl) ?_
        obtain ⟨q23, hq23, hf⟩ := bd_some hf
        refine kcVi C (kX6_isLetter (l := l) (D := D) (k := k) h0 h1 z0 z1 z2 z3 z4 z5 z6 z7 z8 z9 z10 z11 z12 z13 z14 z15 z16 z17 z18 v_page x3 q23 hq23) mt_X6_isLetter mw_863 ⟨rfl, rfl, Nat.le_of_ble_eq_true rfl, Nat.le_of_ble_eq_true rfl⟩ hP hD hS 0 rfl rfl rfl [0, 1] rfl rfl [some 0, some 1] rfl rfl (w2 := (wX6_why k h0 h1 z0 z1 z2 z3 z4 z5 z6 z7 z8 z9 z10 z11 z12 z13 z14 z15 z16 z17 z18 v_page)) rfl rfl rfl hl.1 (rest := []) (Nat.le_of_ble_eq_true rfl) rfl dX6_why_23 ⟨Nat.zero_le _, Nat.zero_le _⟩ (fun H locs hP hD hS => ?_)
        refine lv_if_eq (tgt := 51) hx hb dX6_why_26 (by decide) (fun hc => ?_) (fun hc => ?_)
        · rw [if_pos hc] at hf
          refine lv_iconst (v := (-1 : Int32)) hx hb dX6_why_51 (by decide) ?_
          obtain rfl := Option.some.inj hf
          exact hret _ _ _ _ dX6_why_52 hP hS
        · rw [if_neg hc] at hf
          refine lv_aload_n hx hb dX6_why_29 rfl (lv_at hl 0 rfl) ?_
          refine lv_iload_n hx hb dX6_why_30 rfl (lv_at hl 1 rfl) ?_
          refine lv_iload_n hx hb dX6_why_31 rfl (lv_at hl 3 rfl) ?_
          obtain ⟨q32, hq32, hf⟩ := bd_some hf
          refine kcVi C (kX6_hasCopy (l := l) (D := D) (k := k) h0 h1 z0 z1 z2 z3 z4 z5 z6 z7 z8 z9 z10 z11 z12 z13 z14 z15 z16 z17 z18 v_page x1 x3 q32 hq32) mt_X6_hasCopy mw_819 ⟨rfl, rfl, Nat.le_of_ble_eq_true rfl, Nat.le_of_ble_eq_true rfl⟩ hP hD hS 0 rfl rfl rfl [0, 1] rfl rfl [some 0, some 1] rfl rfl (w2 := (wX6_why k h0 h1 z0 z1 z2 z3 z4 z5 z6 z7 z8 z9 z10 z11 z12 z13 z14 z15 z16 z17 z18 v_page)) rfl rfl rfl hl.1 (rest := []) (Nat.le_of_ble_eq_true rfl) rfl dX6_why_32 ⟨Nat.zero_le _, Nat.zero_le _⟩ (fun H locs hP hD hS => ?_)
          refine lv_if_eq (tgt := 51) hx hb dX6_why_35 (by decide) (fun hc => ?_) (fun hc => ?_)
          · rw [if_pos hc] at hf
            refine lv_iconst (v := (-1 : Int32)) hx hb dX6_why_51 (by decide) ?_
            obtain rfl := Option.some.inj hf
            exact hret _ _ _ _ dX6_why_52 hP hS
          · rw [if_neg hc] at hf
            refine lv_iload hx hb dX6_why_38 (lv_at hl 4 rfl) ?_
            refine lv_i2l (v := (x4.toInt64)) hx hb dX6_why_40 rfl ?_
            refine lv_lconst (v := (0 : Int64)) hx hb dX6_why_41 (by decide) ?_
            refine lv_ldc2 (v := (99 : Int64)) hx hb C.2.2.2.1 (C.2.2.2.2.1 _ mw_921) dX6_why_42 ?_
            obtain ⟨q45, hq45, hf⟩ := bd_some hf
            refine kcSi C (kX6_in (l := l) (D := D) (k := k) (x4.toInt64) (0 : Int64) (99 : Int64) q45 hq45) mt_X6_in mw_753 ⟨rfl, rfl, Nat.le_of_ble_eq_true rfl, Nat.le_of_ble_eq_true rfl⟩ hP hD hS [] rfl rfl [none, none] rfl rfl (w2 := (wX6_why k h0 h1 z0 z1 z2 z3 z4 z5 z6 z7 z8 z9 z10 z11 z12 z13 z14 z15 z16 z17 z18 v_page)) rfl rfl rfl hl.1 (rest := []) (Nat.le_of_ble_eq_true rfl) rfl dX6_why_45 ⟨Nat.zero_le _, Nat.zero_le _⟩ (fun H locs hP hD hS => ?_)
            refine lv_if_ne (tgt := 53) hx hb dX6_why_48 (by decide) (fun hc => ?_) (fun hc => ?_)
            · rw [if_neg hc] at hf
              refine lv_aload_n hx hb dX6_why_53 rfl (lv_at hl 0 rfl) ?_
              refine lv_iload_n hx hb dX6_why_54 rfl (lv_at hl 1 rfl) ?_
              refine lv_iload_n hx hb dX6_why_55 rfl (lv_at hl 2 rfl) ?_
              refine lv_iload_n hx hb dX6_why_56 rfl (lv_at hl 3 rfl) ?_
              refine lv_iload hx hb dX6_why_57 (lv_at hl 4 rfl) ?_
              obtain ⟨q59, hq59, hf⟩ := bd_some hf
              refine kcVi C (kX6_reason (l := l) (D := D) (k := k) h0 h1 z0 z1 z2 z3 z4 z5 z6 z7 z8 z9 z10 z11 z12 z13 z14 z15 z16 z17 z18 v_page x1 x2 x3 x4 q59 hq59) mt_X6_reason mw_922 ⟨rfl, rfl, Nat.le_of_ble_eq_true rfl, Nat.le_of_ble_eq_true rfl⟩ hP hD hS 0 rfl rfl rfl [0, 1] rfl rfl [some 0, some 1] rfl rfl (w2 := (wX6_why k h0 h1 z0 z1 z2 z3 z4 z5 z6 z7 z8 z9 z10 z11 z12 z13 z14 z15 z16 z17 z18 v_page)) rfl rfl rfl hl.1 (rest := []) (Nat.le_of_ble_eq_true rfl) rfl dX6_why_59 ⟨Nat.zero_le _, Nat.zero_le _⟩ (fun H locs hP hD hS => ?_)
              refine lv_istore (lv' := [(5, .int q59), (0, .ref h0), (1, .int x1), (2, .int x2), (3, .int x3), (4, .int x4)]) hx hb dX6_why_62 hl (by decide) rfl (fun ls hl => ?_)
              refine lv_iload hx hb dX6_why_64 (lv_at hl 0 rfl) ?_
              refine lv_iconst (v := (4 : Int32)) hx hb dX6_why_66 (by decide) ?_
              refine lv_icmp_ne (tgt := 84) hx hb dX6_why_67 (by decide) (fun hc => ?_) (fun hc => ?_)
              · rw [if_neg hc] at hf
                refine lv_iload hx hb dX6_why_84 (lv_at hl 0 rfl) ?_
                obtain rfl := Option.some.inj hf
                exact hret _ _ _ _ dX6_why_86 hP hS
              · rw [if_pos hc] at hf
                refine lv_aload_n hx hb dX6_why_70 rfl (lv_at hl 1 rfl) ?_
                refine lv_iload_n hx hb dX6_why_71 rfl (lv_at hl 3 rfl) ?_
                refine lv_aload_n hx hb dX6_why_72 rfl (lv_at hl 1 rfl) ?_
                refine lv_iload_n hx hb dX6_why_73 rfl (lv_at hl 4 rfl) ?_
                refine lv_iconst (v := (3 : Int32)) hx hb dX6_why_74 (by decide) ?_
                obtain ⟨q75, hq75, hf⟩ := bd_some hf
                refine kcVi C (kX6_ofLetter (l := l) (D := D) (k := k) h0 h1 z0 z1 z2 z3 z4 z5 z6 z7 z8 z9 z10 z11 z12 z13 z14 z15 z16 z17 z18 v_page x3 (3 : Int32) q75 hq75) mt_X6_ofLetter mw_839 ⟨rfl, rfl, Nat.le_of_ble_eq_true rfl, Nat.le_of_ble_eq_true rfl⟩ hP hD hS 0 rfl rfl rfl [0, 1] rfl rfl [some 0, some 1] rfl rfl (w2 := (wX6_why k h0 h1 z0 z1 z2 z3 z4 z5 z6 z7 z8 z9 z10 z11 z12 z13 z14 z15 z16 z17 z18 v_page)) rfl rfl rfl hl.1 (rest := [.int x2, .ref h0]) (Nat.le_of_ble_eq_true rfl) rfl dX6_why_75 ⟨Nat.zero_le _, Nat.zero_le _⟩ (fun H locs hP hD hS => ?_)
                obtain ⟨q78, hq78, hf⟩ := bd_some hf
                refine kcVi C (kX6_roomless (l := l) (D := D) (k := k) h0 h1 z0 z1 z2 z3 z4 z5 z6 z7 z8 z9 z10 z11 z12 z13 z14 z15 z16 z17 z18 v_page x2 q75 q78 hq78) mt_X6_roomless mw_930 ⟨rfl, rfl, Nat.le_of_ble_eq_true rfl, Nat.le_of_ble_eq_true rfl⟩ hP hD hS 0 rfl rfl rfl [0, 1] rfl rfl [some 0, some 1] rfl rfl (w2 := (wX6_why k h0 h1 z0 z1 z2 z3 z4 z5 z6 z7 z8 z9 z10 z11 z12 z13 z14 z15 z16 z17 z18 v_page)) rfl rfl rfl hl.1 (rest := []) (Nat.le_of_ble_eq_true rfl) rfl dX6_why_78 ⟨Nat.zero_le _, Nat.zero_le _⟩ (fun H locs hP hD hS => ?_)
                refine lv_goto (tgt := 86) hx hb dX6_why_81 (by decide) ?_
                obtain rfl := Option.some.inj hf
                exact hret _ _ _ _ dX6_why_86 hP hS
            · rw [if_pos hc] at hf
              refine lv_iconst (v := (-1 : Int32)) hx hb dX6_why_51 (by decide) ?_
              obtain rfl := Option.some.inj hf
              exact hret _ _ _ _ dX6_why_52 hP hS
set_option maxHeartbeats 4000000 in
set_option maxRecDepth 100000 in
theorem kX6_refusal {l : Launch} {D : va_G} {k : Nat → ClassId} (h0 h1 : Nat) (z0 z1 z2 z3 z4 z5 z6 z7 z8 z9 z10 z11 z12 z13 z14 z15 z16 z17 z18 : Value) (v_page : Nat → Int32) (x1 : Int32) (q : Int32) (hf : fX6_refusal v_page x1 = some q) : KMi l yX6_refusal cX6_refusal 2 (some .int) ({ frames := 1, cells := 0, slots := 0, locals := 25 } : Room) D k [.ref h0, .int x1] (wX6_refusal k h0 h1 z0 z1 z2 z3 z4 z5 z6 z7 z8 z9 z10 z11 z12 z13 z14 z15 z16 z17 z18 v_page) q (wX6_refusal k h0 h1 z0 z1 z2 z3 z4 z5 z6 z7 z8 z9 z10 z11 z12 z13 z14 z15 z16 z17 z18 v_page) := by
  refine kent_i (by decide) (Nat.le_of_ble_eq_true rfl) ?_
  intro p e s m below meth c A Q ls C hP hD hS hl hret
  obtain ⟨hx, hb, -⟩ := id C
  have hl : lv_has ls 2 [(0, .ref h0), (1, .int x1)] := hl
  unfold fX6_refusal at hf
  generalize ([.ref h0, .int x1] : List Value).toArray = args at *
  refine lv_iload_n hx hb dX6_refusal_0 rfl (lv_at hl 1 rfl) ?_
  refine lv_i2l (v := (x1.toInt64)) hx hb dX6_refusal_1 rfl ?_
  refine lv_lconst (v := (0 : Int64)) hx hb dX6_refusal_2 (by decide) ?_
  refine lv_ldc2 (v := (5 : Int64)) hx hb C.2.2.2.1 (C.2.2.2.2.1 _ mw_938) dX6_refusal_3 ?_
  obtain ⟨q6, hq6, hf⟩ := bd_some hf
  refine kcSi C (kX6_in (l := l) (D := D) (k := k) (x1.toInt64) (0 : Int64) (5 : Int64) q6 hq6) mt_X6_in mw_753 ⟨rfl, rfl, Nat.le_of_ble_eq_true rfl, Nat.le_of_ble_eq_true rfl⟩ hP hD hS [] rfl rfl [none, none] rfl rfl (w2 := (wX6_refusal k h0 h1 z0 z1 z2 z3 z4 z5 z6 z7 z8 z9 z10 z11 z12 z13 z14 z15 z16 z17 z18 v_page)) rfl rfl rfl hl.1 (rest := []) (Nat.le_of_ble_eq_true rfl) rfl dX6_refusal_6 ⟨Nat.zero_le _, Nat.zero_le _⟩ (fun H locs hP hD hS => ?_)
  refine lv_if_ne (tgt := 14) hx hb dX6_refusal_9 (by decide) (fun hc => ?_) (fun hc => ?_)
  · rw [if_neg hc] at hf
    refine lv_aload_n hx hb dX6_refusal_14 rfl (lv_at hl 0 rfl) ?_
    refine kget C inX6 hP 0 rfl rfl 0 (by decide) mw_687 rfl dX6_refusal_15 ?_
    refine lv_bipush (v := (22 : Int32)) hx hb dX6_refusal_18 (by decide) ?_
    refine kiald C hP 1 rfl (by unfold vp_in; decide) dX6_refusal_20 (j := 22) (by decide) ?_
    refine lv_iconst (v := (1 : Int32)) hx hb dX6_refusal_21 (by decide) ?_
    refine lv_icmp_ne (tgt := 37) hx hb dX6_refusal_22 (by decide) (fun hc => ?_) (fun hc => ?_)
    · rw [if_neg hc] at hf
      refine lv_bipush (v := (-2 : Int32)) hx hb dX6_refusal_37 (by decide) ?_
      obtain rfl := Option.some.inj hf
      exact hret _ _ _ _ dX6_refusal_39 hP hS
    · rw [if_pos hc] at hf
      refine lv_aload_n hx hb dX6_refusal_25 rfl (lv_at hl 0 rfl) ?_
      refine kget C inX6 hP 0 rfl rfl 0 (by decide) mw_687 rfl dX6_refusal_26 ?_
      refine lv_bipush (v := (16 : Int32)) hx hb dX6_refusal_29 (by decide) ?_
      refine lv_iload_n hx hb dX6_refusal_31 rfl (lv_at hl 1 rfl) ?_
      refine lv_iadd hx hb dX6_refusal_32 ?_
      obtain ⟨hin, hf⟩ := gd_some hf
      refine kiald C hP 1 rfl hin dX6_refusal_33 (j := ((16 : Int32) + x1).toNatClampNeg) rfl ?_
      refine lv_goto (tgt := 39) hx hb dX6_refusal_34 (by decide) ?_
      obtain rfl := Option.some.inj hf
      exact hret _ _ _ _ dX6_refusal_39 hP hS
  · rw [if_pos hc] at hf
    refine lv_iconst (v := (-1 : Int32)) hx hb dX6_refusal_12 (by decide) ?_
    obtain rfl := Option.some.inj hf
    exact hret _ _ _ _ dX6_refusal_13 hP hS
set_option maxHeartbeats 4000000 in
set_option maxRecDepth 100000 in
theorem wX6_tick_24 {p : Program} {l : Launch} {e : Env} {s : State} {m : MethodId} {args : Array Value} {below : List Frame} {meth : Method} {c : Code} {A : Nat → Prop} {Q : State → Prop} {D : va_G} {k : Nat → ClassId} (C : Cx p s m args c cX6_tick 4 RX6 A D k) (h0 h1 h2 : Nat) (z0 z1 z2 z3 z4 z5 z6 z7 z8 z9 z10 z11 z12 z13 z14 z15 : Value) (y1 : Int32) (y2 : Int32) : ∀ (f : Nat) (v_left : Int32) (v_isRefused : Int32) (v_page : Nat → Int32) (v_isLeft : Nat → Int32) (y3 : Int32) (ex : (Int32 × Int32 × (Nat → Int32) × (Nat → Int32))) (H : Heap) (locs : List Loc) (ls : Array Slot), fX6_tick_24 y1 y2 f v_left v_isRefused v_page v_isLeft y3 = some ex → va_P D vwCl (wX6_tick k h0 h1 h2 z0 z1 z2 z3 z4 z5 z6 z7 z8 z9 z10 z11 z12 z13 z14 z15 v_left v_isRefused v_page v_isLeft) H → va_D A (wX6_tick k h0 h1 h2 z0 z1 z2 z3 z4 z5 z6 z7 z8 z9 z10 z11 z12 z13 z14 z15 v_left v_isRefused v_page v_isLeft) → va_S A s.heap H locs → lv_has ls 4 [(0, .ref h0), (1, .int y1), (2, .int y2), (3, .int y3)] → (∀ (H : Heap) (locs : List Loc) (ls : Array Slot), va_P D vwCl (wX6_tick k h0 h1 h2 z0 z1 z2 z3 z4 z5 z6 z7 z8 z9 z10 z11 z12 z13 z14 z15 ex.1 ex.2.1 ex.2.2.1 ex.2.2.2) H → va_D A (wX6_tick k h0 h1 h2 z0 z1 z2 z3 z4 z5 z6 z7 z8 z9 z10 z11 z12 z13 z14 z15 ex.1 ex.2.1 ex.2.2.1 ex.2.2.2) → va_S A s.heap H locs → lv_has ls 4 [(0, .ref h0), (2, .int y2)] → W p l e ({ frames := 8, cells := 0, slots := 0, locals := 187 } : Room) s m args below meth c H locs 0 0 Q (F0 m 39 ls [])) → W p l e ({ frames := 8, cells := 0, slots := 0, locals := 187 } : Room) s m args below meth c H locs 0 0 Q (F0 m 24 ls []) := by
  obtain ⟨hx, hb, -⟩ := id C
  intro f
  induction f with
  | zero =>
    intro v_left v_isRefused v_page v_isLeft y3 ex H locs ls hf hP hD hS hl hk
    cases hf
  | succ f ih =>
    intro v_left v_isRefused v_page v_isLeft y3 ex H locs ls hf hP hD hS hl hk
    rw [fX6_tick_24] at hf
    refine lv_iload_n hx hb dX6_tick_24 rfl (lv_at hl 3 rfl) ?_
    refine lv_iload_n hx hb dX6_tick_25 rfl (lv_at hl 1 rfl) ?_
    refine lv_icmp_ge (tgt := 39) hx hb dX6_tick_26 (by decide) (fun hc => ?_) (fun hc => ?_)
    · rw [if_pos hc] at hf
      obtain rfl := Option.some.inj hf
      exact hk _ _ _ hP hD hS (lv_sub hl [0, 2] rfl)
    · rw [if_neg hc] at hf
      refine lv_aload_n hx hb dX6_tick_29 rfl (lv_at hl 0 rfl) ?_
      obtain ⟨q30, hq30, hf⟩ := bd_some hf
      refine kcVv C (kX6_minute (l := l) (D := D) (k := k) h0 h1 h2 z0 z1 z2 z3 z4 z5 z6 z7 z8 z9 z10 z11 z12 z13 z14 z15 v_left v_isRefused v_page v_isLeft q30 hq30) mt_X6_minute mw_944 ⟨rfl, rfl, Nat.le_of_ble_eq_true rfl, Nat.le_of_ble_eq_true rfl⟩ hP hD hS 0 rfl rfl rfl [0, 1, 2] rfl rfl [some 0, some 1, some 2] rfl rfl (w2 := (wX6_tick k h0 h1 h2 z0 z1 z2 z3 z4 z5 z6 z7 z8 z9 z10 z11 z12 z13 z14 z15 q30.1 q30.2.1 q30.2.2.1 q30.2.2.2)) rfl rfl rfl hl.1 (rest := []) (Nat.le_of_ble_eq_true rfl) rfl dX6_tick_30 ⟨Nat.zero_le _, Nat.zero_le _⟩ (fun H locs hP hD hS => ?_)
      refine lv_iinc (v := (y3 + (1 : Int32))) (lv' := [(3, .int (y3 + (1 : Int32))), (0, .ref h0), (1, .int y1), (2, .int y2)]) hx hb dX6_tick_33 hl (k := 3) rfl rfl (by decide) rfl (fun ls hl => ?_)
      refine lv_goto (tgt := 24) hx hb dX6_tick_36 (by decide) ?_
      exact ih q30.1 q30.2.1 q30.2.2.1 q30.2.2.2 (y3 + (1 : Int32)) _ _ _ _ hf hP hD hS (lv_sub hl [1, 2, 3, 0] rfl) hk
set_option maxHeartbeats 4000000 in
set_option maxRecDepth 100000 in
theorem kX6_tick {l : Launch} {D : va_G} {k : Nat → ClassId} (h0 h1 h2 : Nat) (z0 z1 z2 z3 z4 z5 z6 z7 z8 z9 z10 z11 z12 z13 z14 z15 : Value) (v_left : Int32) (v_isRefused : Int32) (v_page : Nat → Int32) (v_isLeft : Nat → Int32) (x1 : Int32) (q : Int32 × Int32 × Int32 × (Nat → Int32) × (Nat → Int32)) (hf : fX6_tick v_left v_isRefused v_page v_isLeft x1 = some q) : KMi l yX6_tick cX6_tick 4 (some .int) ({ frames := 8, cells := 0, slots := 0, locals := 187 } : Room) D k [.ref h0, .int x1] (wX6_tick k h0 h1 h2 z0 z1 z2 z3 z4 z5 z6 z7 z8 z9 z10 z11 z12 z13 z14 z15 v_left v_isRefused v_page v_isLeft) q.1 (wX6_tick k h0 h1 h2 z0 z1 z2 z3 z4 z5 z6 z7 z8 z9 z10 z11 z12 z13 z14 z15 q.2.1 q.2.2.1 q.2.2.2.1 q.2.2.2.2) := by
  refine kent_i (by decide) (Nat.le_of_ble_eq_true rfl) ?_
  intro p e s m below meth c A Q ls C hP hD hS hl hret
  obtain ⟨hx, hb, -⟩ := id C
  have hl : lv_has ls 4 [(0, .ref h0), (1, .int x1)] := hl
  unfold fX6_tick at hf
  generalize ([.ref h0, .int x1] : List Value).toArray = args at *
  refine lv_iload_n hx hb dX6_tick_0 rfl (lv_at hl 1 rfl) ?_
  refine lv_i2l (v := (x1.toInt64)) hx hb dX6_tick_1 rfl ?_
  refine lv_lconst (v := (1 : Int64)) hx hb dX6_tick_2 (by decide) ?_
  refine lv_ldc2 (v := (50 : Int64)) hx hb C.2.2.2.1 (C.2.2.2.2.1 _ mw_943) dX6_tick_3 ?_
  obtain ⟨q6, hq6, hf⟩ := bd_some hf
  refine kcSi C (kX6_in (l := l) (D := D) (k := k) (x1.toInt64) (1 : Int64) (50 : Int64) q6 hq6) mt_X6_in mw_753 ⟨rfl, rfl, Nat.le_of_ble_eq_true rfl, Nat.le_of_ble_eq_true rfl⟩ hP hD hS [] rfl rfl [none, none, none] rfl rfl (w2 := (wX6_tick k h0 h1 h2 z0 z1 z2 z3 z4 z5 z6 z7 z8 z9 z10 z11 z12 z13 z14 z15 v_left v_isRefused v_page v_isLeft)) rfl rfl rfl hl.1 (rest := []) (Nat.le_of_ble_eq_true rfl) rfl dX6_tick_6 ⟨Nat.zero_le _, Nat.zero_le _⟩ (fun H locs hP hD hS => ?_)
  refine lv_if_ne (tgt := 14) hx hb dX6_tick_9 (by decide) (fun hc => ?_) (fun hc => ?_)
  · rw [if_neg hc] at hf
    refine lv_aload_n hx hb dX6_tick_14 rfl (lv_at hl 0 rfl) ?_
    refine kget C inX6 hP 0 rfl rfl 0 (by decide) mw_687 rfl dX6_tick_15 ?_
    refine lv_bipush (v := (8 : Int32)) hx hb dX6_tick_18 (by decide) ?_
    refine kiald C hP 1 rfl (by unfold vp_in; decide) dX6_tick_20 (j := 8) (by decide) ?_
    refine lv_istore_n (lv' := [(2, .int (v_page 8)), (0, .ref h0), (1, .int x1)]) hx hb dX6_tick_21 rfl hl (by decide) rfl (fun ls hl => ?_)
    refine lv_iconst (v := (0 : Int32)) hx hb dX6_tick_22 (by decide) ?_
    refine lv_istore_n (lv' := [(3, .int (0 : Int32)), (2, .int (v_page 8)), (0, .ref h0), (1, .int x1)]) hx hb dX6_tick_23 rfl hl (by decide) rfl (fun ls hl => ?_)
    obtain ⟨ex24, hv, hf⟩ := bd_some hf
    refine wX6_tick_24 C h0 h1 h2 z0 z1 z2 z3 z4 z5 z6 z7 z8 z9 z10 z11 z12 z13 z14 z15 x1 (v_page 8) FU v_left v_isRefused v_page v_isLeft (0 : Int32) ex24 _ _ _ hv hP hD hS (lv_sub hl [2, 3, 1, 0] rfl) (fun H locs ls hP hD hS hl => ?_)
    refine lv_aload_n hx hb dX6_tick_39 rfl (lv_at hl 0 rfl) ?_
    refine kget C inX6 hP 0 rfl rfl 0 (by decide) mw_687 rfl dX6_tick_40 ?_
    refine lv_bipush (v := (8 : Int32)) hx hb dX6_tick_43 (by decide) ?_
    refine kiald C hP 1 rfl (by unfold vp_in; decide) dX6_tick_45 (j := 8) (by decide) ?_
    refine lv_iload_n hx hb dX6_tick_46 rfl (lv_at hl 1 rfl) ?_
    refine lv_isub hx hb dX6_tick_47 ?_
    obtain rfl := Option.some.inj hf
    exact hret _ _ _ _ dX6_tick_48 hP hS
  · rw [if_pos hc] at hf
    refine lv_iconst (v := (-1 : Int32)) hx hb dX6_tick_12 (by decide) ?_
    obtain rfl := Option.some.inj hf
    exact hret _ _ _ _ dX6_tick_13 hP hS
set_option maxHeartbeats 4000000 in
set_option maxRecDepth 100000 in
theorem kX6_meet {l : Launch} {D : va_G} {k : Nat → ClassId} (h0 h1 h2 : Nat) (z0 z1 z2 z3 z4 z5 z6 z7 z8 z9 z10 z11 z12 z13 z14 z15 : Value) (v_left : Int32) (v_isRefused : Int32) (v_page : Nat → Int32) (v_isLeft : Nat → Int32) (x1 : Int32) (x2 : Int32) (x3 : Int32) (q : Int32 × Int32 × Int32 × (Nat → Int32) × (Nat → Int32)) (hf : fX6_meet v_left v_isRefused v_page v_isLeft x1 x2 x3 = some q) : KMi l yX6_meet cX6_meet 5 (some .int) ({ frames := 7, cells := 0, slots := 0, locals := 165 } : Room) D k [.ref h0, .int x1, .int x2, .int x3] (wX6_meet k h0 h1 h2 z0 z1 z2 z3 z4 z5 z6 z7 z8 z9 z10 z11 z12 z13 z14 z15 v_left v_isRefused v_page v_isLeft) q.1 (wX6_meet k h0 h1 h2 z0 z1 z2 z3 z4 z5 z6 z7 z8 z9 z10 z11 z12 z13 z14 z15 q.2.1 q.2.2.1 q.2.2.2.1 q.2.2.2.2) := by
  refine kent_i (by decide) (Nat.le_of_ble_eq_true rfl) ?_
  intro p e s m below meth c A Q ls C hP hD hS hl hret
  obtain ⟨hx, hb, -⟩ := id C
  have hl : lv_has ls 5 [(0, .ref h0), (1, .int x1), (2, .int x2), (3, .int x3)] := hl
  unfold fX6_meet at hf
  generalize ([.ref h0, .int x1, .int x2, .int x3] : List Value).toArray = args at *
  refine lv_aload_n hx hb dX6_meet_0 rfl (lv_at hl 0 rfl) ?_
  refine lv_iload_n hx hb dX6_meet_1 rfl (lv_at hl 1 rfl) ?_
  obtain ⟨q2, hq2, hf⟩ := bd_some hf
  refine kcVi C (kX6_isNode (l := l) (D := D) (k := k) h0 h1 z0 z1 z2 z3 z4 z5 z6 z7 z8 z9 z10 z11 z12 z13 (.ref h2) (.int v_left) (.int v_isRefused) z14 z15 v_page x1 q2 hq2) mt_X6_isNode mw_831 ⟨rfl, rfl, Nat.le_of_ble_eq_true rfl, Nat.le_of_ble_eq_true rfl⟩ hP hD hS 0 rfl rfl rfl [0, 1] rfl rfl [some 0, some 1, none] rfl rfl (w2 := (wX6_meet k h0 h1 h2 z0 z1 z2 z3 z4 z5 z6 z7 z8 z9 z10 z11 z12 z13 z14 z15 v_left v_isRefused v_page v_isLeft)) rfl rfl rfl hl.1 (rest := []) (Nat.le_of_ble_eq_true rfl) rfl dX6_meet_2 ⟨Nat.zero_le _, Nat.zero_le _⟩ (fun H locs hP hD hS => ?_)
  refine lv_if_eq (tgt := 33) hx hb dX6_meet_5 (by decide) (fun hc => ?_) (fun hc => ?_)
  · rw [if_pos hc] at hf
    refine lv_iconst (v := (-1 : Int32)) hx hb dX6_meet_33 (by decide) ?_
    obtain rfl := Option.some.inj hf
    exact hret _ _ _ _ dX6_meet_34 hP hS
  · rw [if_neg hc] at hf
    refine lv_aload_n hx hb dX6_meet_8 rfl (lv_at hl 0 rfl) ?_
    refine lv_iload_n hx hb dX6_meet_9 rfl (lv_at hl 2 rfl) ?_
    obtain ⟨q10, hq10, hf⟩ := bd_some hf
    refine kcVi C (kX6_isNode (l := l) (D := D) (k := k) h0 h1 z0 z1 z2 z3 z4 z5 z6 z7 z8 z9 z10 z11 z12 z13 (.ref h2) (.int v_left) (.int v_isRefused) z14 z15 v_page x2 q10 hq10) mt_X6_isNode mw_831 ⟨rfl, rfl, Nat.le_of_ble_eq_true rfl, Nat.le_of_ble_eq_true rfl⟩ hP hD hS 0 rfl rfl rfl [0, 1] rfl rfl [some 0, some 1, none] rfl rfl (w2 := (wX6_meet k h0 h1 h2 z0 z1 z2 z3 z4 z5 z6 z7 z8 z9 z10 z11 z12 z13 z14 z15 v_left v_isRefused v_page v_isLeft)) rfl rfl rfl hl.1 (rest := []) (Nat.le_of_ble_eq_true rfl) rfl dX6_meet_10 ⟨Nat.zero_le _, Nat.zero_le _⟩ (fun H locs hP hD hS => ?_)
    refine lv_if_eq (tgt := 33) hx hb dX6_meet_13 (by decide) (fun hc => ?_) (fun hc => ?_)
    · rw [if_pos hc] at hf
      refine lv_iconst (v := (-1 : Int32)) hx hb dX6_meet_33 (by decide) ?_
      obtain rfl := Option.some.inj hf
      exact hret _ _ _ _ dX6_meet_34 hP hS
    · rw [if_neg hc] at hf
      refine lv_iload_n hx hb dX6_meet_16 rfl (lv_at hl 1 rfl) ?_
      refine lv_iload_n hx hb dX6_meet_17 rfl (lv_at hl 2 rfl) ?_
      refine lv_icmp_eq (tgt := 33) hx hb dX6_meet_18 (by decide) (fun hc => ?_) (fun hc => ?_)
      · rw [if_pos hc] at hf
        refine lv_iconst (v := (-1 : Int32)) hx hb dX6_meet_33 (by decide) ?_
        obtain rfl := Option.some.inj hf
        exact hret _ _ _ _ dX6_meet_34 hP hS
      · rw [if_neg hc] at hf
        refine lv_iload_n hx hb dX6_meet_21 rfl (lv_at hl 3 rfl) ?_
        refine lv_i2l (v := (x3.toInt64)) hx hb dX6_meet_22 rfl ?_
        refine lv_lconst (v := (0 : Int64)) hx hb dX6_meet_23 (by decide) ?_
        refine lv_ldc2 (v := (99 : Int64)) hx hb C.2.2.2.1 (C.2.2.2.2.1 _ mw_921) dX6_meet_24 ?_
        obtain ⟨q27, hq27, hf⟩ := bd_some hf
        refine kcSi C (kX6_in (l := l) (D := D) (k := k) (x3.toInt64) (0 : Int64) (99 : Int64) q27 hq27) mt_X6_in mw_753 ⟨rfl, rfl, Nat.le_of_ble_eq_true rfl, Nat.le_of_ble_eq_true rfl⟩ hP hD hS [] rfl rfl [none, none, none] rfl rfl (w2 := (wX6_meet k h0 h1 h2 z0 z1 z2 z3 z4 z5 z6 z7 z8 z9 z10 z11 z12 z13 z14 z15 v_left v_isRefused v_page v_isLeft)) rfl rfl rfl hl.1 (rest := []) (Nat.le_of_ble_eq_true rfl) rfl dX6_meet_27 ⟨Nat.zero_le _, Nat.zero_le _⟩ (fun H locs hP hD hS => ?_)
        refine lv_if_ne (tgt := 35) hx hb dX6_meet_30 (by decide) (fun hc => ?_) (fun hc => ?_)
        · rw [if_neg hc] at hf
          refine lv_aload_n hx hb dX6_meet_35 rfl (lv_at hl 0 rfl) ?_
          refine kget C inX6 hP 0 rfl rfl 0 (by decide) mw_687 rfl dX6_meet_36 ?_
          refine lv_bipush (v := (8 : Int32)) hx hb dX6_meet_39 (by decide) ?_
          refine kiald C hP 1 rfl (by unfold vp_in; decide) dX6_meet_41 (j := 8) (by decide) ?_
          refine lv_istore (lv' := [(4, .int (v_page 8)), (0, .ref h0), (1, .int x1), (2, .int x2), (3, .int x3)]) hx hb dX6_meet_42 hl (by decide) rfl (fun ls hl => ?_)
          refine lv_aload_n hx hb dX6_meet_44 rfl (lv_at hl 1 rfl) ?_
          refine lv_iload_n hx hb dX6_meet_45 rfl (lv_at hl 2 rfl) ?_
          refine lv_iload_n hx hb dX6_meet_46 rfl (lv_at hl 3 rfl) ?_
          refine lv_iload_n hx hb dX6_meet_47 rfl (lv_at hl 4 rfl) ?_
          obtain ⟨q48, hq48, hf⟩ := bd_some hf
          refine kcVv C (kX6_meets (l := l) (D := D) (k := k) h0 h1 h2 z0 z1 z2 z3 z4 z5 z6 z7 z8 z9 z10 z11 z12 z13 z14 z15 v_left v_isRefused v_page v_isLeft x1 x2 x3 q48 hq48) mt_X6_meets mw_972 ⟨rfl, rfl, Nat.le_of_ble_eq_true rfl, Nat.le_of_ble_eq_true rfl⟩ hP hD hS 0 rfl rfl rfl [0, 1, 2] rfl rfl [some 0, some 1, some 2] rfl rfl (w2 := (wX6_meet k h0 h1 h2 z0 z1 z2 z3 z4 z5 z6 z7 z8 z9 z10 z11 z12 z13 z14 z15 q48.1 q48.2.1 q48.2.2.1 q48.2.2.2)) rfl rfl rfl hl.1 (rest := []) (Nat.le_of_ble_eq_true rfl) rfl dX6_meet_48 ⟨Nat.zero_le _, Nat.zero_le _⟩ (fun H locs hP hD hS => ?_)
          refine lv_aload_n hx hb dX6_meet_51 rfl (lv_at hl 1 rfl) ?_
          refine kget C inX6 hP 0 rfl rfl 0 (by decide) mw_687 rfl dX6_meet_52 ?_
          refine lv_bipush (v := (8 : Int32)) hx hb dX6_meet_55 (by decide) ?_
          refine kiald C hP 1 rfl (by unfold vp_in; decide) dX6_meet_57 (j := 8) (by decide) ?_
          refine lv_iload hx hb dX6_meet_58 (lv_at hl 0 rfl) ?_
          refine lv_isub hx hb dX6_meet_60 ?_
          obtain rfl := Option.some.inj hf
          exact hret _ _ _ _ dX6_meet_61 hP hS
        · rw [if_pos hc] at hf
          refine lv_iconst (v := (-1 : Int32)) hx hb dX6_meet_33 (by decide) ?_
          obtain rfl := Option.some.inj hf
          exact hret _ _ _ _ dX6_meet_34 hP hS
set_option maxHeartbeats 4000000 in
set_option maxRecDepth 100000 in
theorem kX6_send {l : Launch} {D : va_G} {k : Nat → ClassId} (h0 h1 : Nat) (z0 z1 z2 z3 z4 z5 z6 z7 z8 z9 z10 z11 z12 z13 z14 z15 z16 z17 z18 : Value) (v_page : Nat → Int32) (x1 : Int32) (x2 : Int32) (x3 : Int32) (x4 : Int32) (x5 : Int32) (q : Int32 × (Nat → Int32)) (hf : fX6_send v_page x1 x2 x3 x4 x5 = some q) : KMi l yX6_send cX6_send 8 (some .int) ({ frames := 5, cells := 0, slots := 0, locals := 114 } : Room) D k [.ref h0, .int x1, .int x2, .int x3, .int x4, .int x5] (wX6_send k h0 h1 z0 z1 z2 z3 z4 z5 z6 z7 z8 z9 z10 z11 z12 z13 z14 z15 z16 z17 z18 v_page) q.1 (wX6_send k h0 h1 z0 z1 z2 z3 z4 z5 z6 z7 z8 z9 z10 z11 z12 z13 z14 z15 z16 z17 z18 q.2) := by
  refine kent_i (by decide) (Nat.le_of_ble_eq_true rfl) ?_
  intro p e s m below meth c A Q ls C hP hD hS hl hret
  obtain ⟨hx, hb, -⟩ := id C
  have hl : lv_has ls 8 [(0, .ref h0), (1, .int x1), (2, .int x2), (3, .int x3), (4, .int x4), (5, .int x5)] := hl
  unfold fX6_send at hf
  generalize ([.ref h0, .int x1, .int x2, .int x3, .int x4, .int x5] : List Value).toArray = args at *
  refine lv_aload_n hx hb dX6_send_0 rfl (lv_at hl 0 rfl) ?_
  refine lv_iload_n hx hb dX6_send_1 rfl (lv_at hl 1 rfl) ?_
  obtain ⟨q2, hq2, hf⟩ := bd_some hf
  refine kcVi C (kX6_isNode (l := l) (D := D) (k := k) h0 h1 z0 z1 z2 z3 z4 z5 z6 z7 z8 z9 z10 z11 z12 z13 z14 z15 z16 z17 z18 v_page x1 q2 hq2) mt_X6_isNode mw_831 ⟨rfl, rfl, Nat.le_of_ble_eq_true rfl, Nat.le_of_ble_eq_true rfl⟩ hP hD hS 0 rfl rfl rfl [0, 1] rfl rfl [some 0, some 1] rfl rfl (w2 := (wX6_send k h0 h1 z0 z1 z2 z3 z4 z5 z6 z7 z8 z9 z10 z11 z12 z13 z14 z15 z16 z17 z18 v_page)) rfl rfl rfl hl.1 (rest := []) (Nat.le_of_ble_eq_true rfl) rfl dX6_send_2 ⟨Nat.zero_le _, Nat.zero_le _⟩ (fun H locs hP hD hS => ?_)
  refine lv_if_eq (tgt := 59) hx hb dX6_send_5 (by decide) (fun hc => ?_) (fun hc => ?_)
  · rw [if_pos hc] at hf
    refine lv_iconst (v := (-1 : Int32)) hx hb dX6_send_59 (by decide) ?_
    obtain rfl := Option.some.inj hf
    exact hret _ _ _ _ dX6_send_60 hP hS
  · rw [if_neg hc] at hf
    refine lv_aload_n hx hb dX6_send_8 rfl (lv_at hl 0 rfl) ?_
    refine lv_iload_n hx hb dX6_send_9 rfl (lv_at hl 2 rfl) ?_
    obtain ⟨q10, hq10, hf⟩ := bd_some hf
    refine kcVi C (kX6_isNode (l := l) (D := D) (k := k) h0 h1 z0 z1 z2 z3 z4 z5 z6 z7 z8 z9 z10 z11 z12 z13 z14 z15 z16 z17 z18 v_page x2 q10 hq10) mt_X6_isNode mw_831 ⟨rfl, rfl, Nat.le_of_ble_eq_true rfl, Nat.le_of_ble_eq_true rfl⟩ hP hD hS 0 rfl rfl rfl [0, 1] rfl rfl [some 0, some 1] rfl rfl (w2 := (wX6_send k h0 h1 z0 z1 z2 z3 z4 z5 z6 z7 z8 z9 z10 z11 z12 z13 z14 z15 z16 z17 z18 v_page)) rfl rfl rfl hl.1 (rest := []) (Nat.le_of_ble_eq_true rfl) rfl dX6_send_10 ⟨Nat.zero_le _, Nat.zero_le _⟩ (fun H locs hP hD hS => ?_)
    refine lv_if_eq (tgt := 59) hx hb dX6_send_13 (by decide) (fun hc => ?_) (fun hc => ?_)
    · rw [if_pos hc] at hf
      refine lv_iconst (v := (-1 : Int32)) hx hb dX6_send_59 (by decide) ?_
      obtain rfl := Option.some.inj hf
      exact hret _ _ _ _ dX6_send_60 hP hS
    · rw [if_neg hc] at hf
      refine lv_iload_n hx hb dX6_send_16 rfl (lv_at hl 1 rfl) ?_
      refine lv_iload_n hx hb dX6_send_17 rfl (lv_at hl 2 rfl) ?_
      refine lv_icmp_eq (tgt := 59) hx hb dX6_send_18 (by decide) (fun hc => ?_) (fun hc => ?_)
      · rw [if_pos hc] at hf
        refine lv_iconst (v := (-1 : Int32)) hx hb dX6_send_59 (by decide) ?_
        obtain rfl := Option.some.inj hf
        exact hret _ _ _ _ dX6_send_60 hP hS
      · rw [if_neg hc] at hf
        refine lv_iload_n hx hb dX6_send_21 rfl (lv_at hl 3 rfl) ?_
        refine lv_i2l (v := (x3.toInt64)) hx hb dX6_send_22 rfl ?_
        refine lv_lconst (v := (1 : Int64)) hx hb dX6_send_23 (by decide) ?_
        refine lv_ldc2 (v := (99 : Int64)) hx hb C.2.2.2.1 (C.2.2.2.2.1 _ mw_921) dX6_send_24 ?_
        obtain ⟨q27, hq27, hf⟩ := bd_some hf
        refine kcSi C (kX6_in (l := l) (D := D) (k := k) (x3.toInt64) (1 : Int64) (99 : Int64) q27 hq27) mt_X6_in mw_753 ⟨rfl, rfl, Nat.le_of_ble_eq_true rfl, Nat.le_of_ble_eq_true rfl⟩ hP hD hS [] rfl rfl [none, none] rfl rfl (w2 := (wX6_send k h0 h1 z0 z1 z2 z3 z4 z5 z6 z7 z8 z9 z10 z11 z12 z13 z14 z15 z16 z17 z18 v_page)) rfl rfl rfl hl.1 (rest := []) (Nat.le_of_ble_eq_true rfl) rfl dX6_send_27 ⟨Nat.zero_le _, Nat.zero_le _⟩ (fun H locs hP hD hS => ?_)
        refine lv_if_eq (tgt := 59) hx hb dX6_send_30 (by decide) (fun hc => ?_) (fun hc => ?_)
        · rw [if_pos hc] at hf
          refine lv_iconst (v := (-1 : Int32)) hx hb dX6_send_59 (by decide) ?_
          obtain rfl := Option.some.inj hf
          exact hret _ _ _ _ dX6_send_60 hP hS
        · rw [if_neg hc] at hf
          refine lv_iload hx hb dX6_send_33 (lv_at hl 4 rfl) ?_
          refine lv_i2l (v := (x4.toInt64)) hx hb dX6_send_35 rfl ?_
          refine lv_lconst (v := (1 : Int64)) hx hb dX6_send_36 (by decide) ?_
          refine lv_ldc2 (v := (64 : Int64)) hx hb C.2.2.2.1 (C.2.2.2.2.1 _ mw_1012) dX6_send_37 ?_
          obtain ⟨q40, hq40, hf⟩ := bd_some hf
          refine kcSi C (kX6_in (l := l) (D := D) (k := k) (x4.toInt64) (1 : Int64) (64 : Int64) q40 hq40) mt_X6_in mw_753 ⟨rfl, rfl, Nat.le_of_ble_eq_true rfl, Nat.le_of_ble_eq_true rfl⟩ hP hD hS [] rfl rfl [none, none] rfl rfl (w2 := (wX6_send k h0 h1 z0 z1 z2 z3 z4 z5 z6 z7 z8 z9 z10 z11 z12 z13 z14 z15 z16 z17 z18 v_page)) rfl rfl rfl hl.1 (rest := []) (Nat.le_of_ble_eq_true rfl) rfl dX6_send_40 ⟨Nat.zero_le _, Nat.zero_le _⟩ (fun H locs hP hD hS => ?_)
          refine lv_if_eq (tgt := 59) hx hb dX6_send_43 (by decide) (fun hc => ?_) (fun hc => ?_)
          · rw [if_pos hc] at hf
            refine lv_iconst (v := (-1 : Int32)) hx hb dX6_send_59 (by decide) ?_
            obtain rfl := Option.some.inj hf
            exact hret _ _ _ _ dX6_send_60 hP hS
          · rw [if_neg hc] at hf
            refine lv_iload hx hb dX6_send_46 (lv_at hl 5 rfl) ?_
            refine lv_i2l (v := (x5.toInt64)) hx hb dX6_send_48 rfl ?_
            refine lv_lconst (v := (1 : Int64)) hx hb dX6_send_49 (by decide) ?_
            refine lv_ldc2 (v := (99 : Int64)) hx hb C.2.2.2.1 (C.2.2.2.2.1 _ mw_921) dX6_send_50 ?_
            obtain ⟨q53, hq53, hf⟩ := bd_some hf
            refine kcSi C (kX6_in (l := l) (D := D) (k := k) (x5.toInt64) (1 : Int64) (99 : Int64) q53 hq53) mt_X6_in mw_753 ⟨rfl, rfl, Nat.le_of_ble_eq_true rfl, Nat.le_of_ble_eq_true rfl⟩ hP hD hS [] rfl rfl [none, none] rfl rfl (w2 := (wX6_send k h0 h1 z0 z1 z2 z3 z4 z5 z6 z7 z8 z9 z10 z11 z12 z13 z14 z15 z16 z17 z18 v_page)) rfl rfl rfl hl.1 (rest := []) (Nat.le_of_ble_eq_true rfl) rfl dX6_send_53 ⟨Nat.zero_le _, Nat.zero_le _⟩ (fun H locs hP hD hS => ?_)
            refine lv_if_ne (tgt := 61) hx hb dX6_send_56 (by decide) (fun hc => ?_) (fun hc => ?_)
            · rw [if_neg hc] at hf
              refine lv_aload_n hx hb dX6_send_61 rfl (lv_at hl 0 rfl) ?_
              refine kget C inX6 hP 0 rfl rfl 0 (by decide) mw_687 rfl dX6_send_62 ?_
              refine lv_iconst (v := (2 : Int32)) hx hb dX6_send_65 (by decide) ?_
              refine kiald C hP 1 rfl (by unfold vp_in; decide) dX6_send_66 (j := 2) (by decide) ?_
              refine lv_bipush (v := (16 : Int32)) hx hb dX6_send_67 (by decide) ?_
              refine lv_icmp_ne (tgt := 75) hx hb dX6_send_69 (by decide) (fun hc => ?_) (fun hc => ?_)
              · rw [if_neg hc] at hf
                refine lv_aload_n hx hb dX6_send_75 rfl (lv_at hl 0 rfl) ?_
                refine kget C inX6 hP 0 rfl rfl 0 (by decide) mw_687 rfl dX6_send_76 ?_
                refine lv_iconst (v := (2 : Int32)) hx hb dX6_send_79 (by decide) ?_
                refine kiald C hP 1 rfl (by unfold vp_in; decide) dX6_send_80 (j := 2) (by decide) ?_
                refine lv_istore (lv' := [(6, .int (v_page 2)), (0, .ref h0), (1, .int x1), (2, .int x2), (3, .int x3), (4, .int x4), (5, .int x5)]) hx hb dX6_send_81 hl (by decide) rfl (fun ls hl => ?_)
                refine lv_bipush (v := (127 : Int32)) hx hb dX6_send_83 (by decide) ?_
                refine lv_bipush (v := (8 : Int32)) hx hb dX6_send_85 (by decide) ?_
                refine lv_iload hx hb dX6_send_87 (lv_at hl 0 rfl) ?_
                refine lv_imul hx hb dX6_send_89 ?_
                refine lv_iadd hx hb dX6_send_90 ?_
                refine lv_istore (lv' := [(7, .int ((127 : Int32) + ((8 : Int32) * (v_page 2)))), (6, .int (v_page 2)), (0, .ref h0), (1, .int x1), (2, .int x2), (3, .int x3), (4, .int x4), (5, .int x5)]) hx hb dX6_send_91 hl (by decide) rfl (fun ls hl => ?_)
                refine lv_aload_n hx hb dX6_send_93 rfl (lv_at hl 2 rfl) ?_
                refine kget C inX6 hP 0 rfl rfl 0 (by decide) mw_687 rfl dX6_send_94 ?_
                refine lv_iload hx hb dX6_send_97 (lv_at hl 0 rfl) ?_
                refine lv_iconst (v := (0 : Int32)) hx hb dX6_send_99 (by decide) ?_
                refine lv_iadd hx hb dX6_send_100 ?_
                refine lv_aload_n hx hb dX6_send_101 rfl (lv_at hl 2 rfl) ?_
                refine kget C inX6 hP 0 rfl rfl 0 (by decide) mw_687 rfl dX6_send_102 ?_
                refine lv_iconst (v := (3 : Int32)) hx hb dX6_send_105 (by decide) ?_
                refine kiald C hP 1 rfl (by unfold vp_in; decide) dX6_send_106 (j := 3) (by decide) ?_
                obtain ⟨hin, hf⟩ := gd_some hf
                obtain ⟨v_page_107, hn107, hf⟩ := nm_some hf
                refine kiast C hP hD hS 1 rfl hin dX6_send_107 (j := (((127 : Int32) + ((8 : Int32) * (v_page 2))) + (0 : Int32)).toNatClampNeg) rfl (g := v_page_107) hn107 (w2 := (wX6_send k h0 h1 z0 z1 z2 z3 z4 z5 z6 z7 z8 z9 z10 z11 z12 z13 z14 z15 z16 z17 z18 v_page_107)) rfl (fun H locs hP hD hS => ?_)
                refine lv_aload_n hx hb dX6_send_108 rfl (lv_at hl 2 rfl) ?_
                refine kget C inX6 hP 0 rfl rfl 0 (by decide) mw_687 rfl dX6_send_109 ?_
                refine lv_iload hx hb dX6_send_112 (lv_at hl 0 rfl) ?_
                refine lv_iconst (v := (1 : Int32)) hx hb dX6_send_114 (by decide) ?_
                refine lv_iadd hx hb dX6_send_115 ?_
                refine lv_iload_n hx hb dX6_send_116 rfl (lv_at hl 3 rfl) ?_
                obtain ⟨hin, hf⟩ := gd_some hf
                obtain ⟨v_page_117, hn117, hf⟩ := nm_some hf
                refine kiast C hP hD hS 1 rfl hin dX6_send_117 (j := (((127 : Int32) + ((8 : Int32) * (v_page 2))) + (1 : Int32)).toNatClampNeg) rfl (g := v_page_117) hn117 (w2 := (wX6_send k h0 h1 z0 z1 z2 z3 z4 z5 z6 z7 z8 z9 z10 z11 z12 z13 z14 z15 z16 z17 z18 v_page_117)) rfl (fun H locs hP hD hS => ?_)
                refine lv_aload_n hx hb dX6_send_118 rfl (lv_at hl 2 rfl) ?_
                refine kget C inX6 hP 0 rfl rfl 0 (by decide) mw_687 rfl dX6_send_119 ?_
                refine lv_iload hx hb dX6_send_122 (lv_at hl 0 rfl) ?_
                refine lv_iconst (v := (2 : Int32)) hx hb dX6_send_124 (by decide) ?_
                refine lv_iadd hx hb dX6_send_125 ?_
                refine lv_iload_n hx hb dX6_send_126 rfl (lv_at hl 4 rfl) ?_
                obtain ⟨hin, hf⟩ := gd_some hf
                obtain ⟨v_page_127, hn127, hf⟩ := nm_some hf
                refine kiast C hP hD hS 1 rfl hin dX6_send_127 (j := (((127 : Int32) + ((8 : Int32) * (v_page 2))) + (2 : Int32)).toNatClampNeg) rfl (g := v_page_127) hn127 (w2 := (wX6_send k h0 h1 z0 z1 z2 z3 z4 z5 z6 z7 z8 z9 z10 z11 z12 z13 z14 z15 z16 z17 z18 v_page_127)) rfl (fun H locs hP hD hS => ?_)
                refine lv_aload_n hx hb dX6_send_128 rfl (lv_at hl 2 rfl) ?_
                refine kget C inX6 hP 0 rfl rfl 0 (by decide) mw_687 rfl dX6_send_129 ?_
                refine lv_iload hx hb dX6_send_132 (lv_at hl 0 rfl) ?_
                refine lv_iconst (v := (3 : Int32)) hx hb dX6_send_134 (by decide) ?_
                refine lv_iadd hx hb dX6_send_135 ?_
                refine lv_iload_n hx hb dX6_send_136 rfl (lv_at hl 5 rfl) ?_
                obtain ⟨hin, hf⟩ := gd_some hf
                obtain ⟨v_page_137, hn137, hf⟩ := nm_some hf
                refine kiast C hP hD hS 1 rfl hin dX6_send_137 (j := (((127 : Int32) + ((8 : Int32) * (v_page 2))) + (3 : Int32)).toNatClampNeg) rfl (g := v_page_137) hn137 (w2 := (wX6_send k h0 h1 z0 z1 z2 z3 z4 z5 z6 z7 z8 z9 z10 z11 z12 z13 z14 z15 z16 z17 z18 v_page_137)) rfl (fun H locs hP hD hS => ?_)
                refine lv_aload_n hx hb dX6_send_138 rfl (lv_at hl 2 rfl) ?_
                refine kget C inX6 hP 0 rfl rfl 0 (by decide) mw_687 rfl dX6_send_139 ?_
                refine lv_iload hx hb dX6_send_142 (lv_at hl 0 rfl) ?_
                refine lv_iconst (v := (4 : Int32)) hx hb dX6_send_144 (by decide) ?_
                refine lv_iadd hx hb dX6_send_145 ?_
                refine lv_iload hx hb dX6_send_146 (lv_at hl 6 rfl) ?_
                obtain ⟨hin, hf⟩ := gd_some hf
                obtain ⟨v_page_148, hn148, hf⟩ := nm_some hf
                refine kiast C hP hD hS 1 rfl hin dX6_send_148 (j := (((127 : Int32) + ((8 : Int32) * (v_page 2))) + (4 : Int32)).toNatClampNeg) rfl (g := v_page_148) hn148 (w2 := (wX6_send k h0 h1 z0 z1 z2 z3 z4 z5 z6 z7 z8 z9 z10 z11 z12 z13 z14 z15 z16 z17 z18 v_page_148)) rfl (fun H locs hP hD hS => ?_)
                refine lv_aload_n hx hb dX6_send_149 rfl (lv_at hl 2 rfl) ?_
                refine kget C inX6 hP 0 rfl rfl 0 (by decide) mw_687 rfl dX6_send_150 ?_
                refine lv_iload hx hb dX6_send_153 (lv_at hl 0 rfl) ?_
                refine lv_iconst (v := (5 : Int32)) hx hb dX6_send_155 (by decide) ?_
                refine lv_iadd hx hb dX6_send_156 ?_
                refine lv_iload hx hb dX6_send_157 (lv_at hl 7 rfl) ?_
                obtain ⟨hin, hf⟩ := gd_some hf
                obtain ⟨v_page_159, hn159, hf⟩ := nm_some hf
                refine kiast C hP hD hS 1 rfl hin dX6_send_159 (j := (((127 : Int32) + ((8 : Int32) * (v_page 2))) + (5 : Int32)).toNatClampNeg) rfl (g := v_page_159) hn159 (w2 := (wX6_send k h0 h1 z0 z1 z2 z3 z4 z5 z6 z7 z8 z9 z10 z11 z12 z13 z14 z15 z16 z17 z18 v_page_159)) rfl (fun H locs hP hD hS => ?_)
                refine lv_aload_n hx hb dX6_send_160 rfl (lv_at hl 2 rfl) ?_
                refine kget C inX6 hP 0 rfl rfl 0 (by decide) mw_687 rfl dX6_send_161 ?_
                refine lv_iload hx hb dX6_send_164 (lv_at hl 0 rfl) ?_
                refine lv_bipush (v := (6 : Int32)) hx hb dX6_send_166 (by decide) ?_
                refine lv_iadd hx hb dX6_send_168 ?_
                refine lv_bipush (v := (-4 : Int32)) hx hb dX6_send_169 (by decide) ?_
                obtain ⟨hin, hf⟩ := gd_some hf
                obtain ⟨v_page_171, hn171, hf⟩ := nm_some hf
                refine kiast C hP hD hS 1 rfl hin dX6_send_171 (j := (((127 : Int32) + ((8 : Int32) * (v_page 2))) + (6 : Int32)).toNatClampNeg) rfl (g := v_page_171) hn171 (w2 := (wX6_send k h0 h1 z0 z1 z2 z3 z4 z5 z6 z7 z8 z9 z10 z11 z12 z13 z14 z15 z16 z17 z18 v_page_171)) rfl (fun H locs hP hD hS => ?_)
                refine lv_aload_n hx hb dX6_send_172 rfl (lv_at hl 2 rfl) ?_
                refine kget C inX6 hP 0 rfl rfl 0 (by decide) mw_687 rfl dX6_send_173 ?_
                refine lv_iload hx hb dX6_send_176 (lv_at hl 0 rfl) ?_
                refine lv_bipush (v := (7 : Int32)) hx hb dX6_send_178 (by decide) ?_
                refine lv_iadd hx hb dX6_send_180 ?_
                refine lv_bipush (v := (-4 : Int32)) hx hb dX6_send_181 (by decide) ?_
                obtain ⟨hin, hf⟩ := gd_some hf
                obtain ⟨v_page_183, hn183, hf⟩ := nm_some hf
                refine kiast C hP hD hS 1 rfl hin dX6_send_183 (j := (((127 : Int32) + ((8 : Int32) * (v_page 2))) + (7 : Int32)).toNatClampNeg) rfl (g := v_page_183) hn183 (w2 := (wX6_send k h0 h1 z0 z1 z2 z3 z4 z5 z6 z7 z8 z9 z10 z11 z12 z13 z14 z15 z16 z17 z18 v_page_183)) rfl (fun H locs hP hD hS => ?_)
                refine lv_aload_n hx hb dX6_send_184 rfl (lv_at hl 2 rfl) ?_
                refine kget C inX6 hP 0 rfl rfl 0 (by decide) mw_687 rfl dX6_send_185 ?_
                refine lv_iconst (v := (2 : Int32)) hx hb dX6_send_188 (by decide) ?_
                refine lv_dup2_11 hx hb dX6_send_189 rfl rfl ?_
                refine kiald C hP 1 rfl (by unfold vp_in; decide) dX6_send_190 (j := 2) (by decide) ?_
                refine lv_iconst (v := (1 : Int32)) hx hb dX6_send_191 (by decide) ?_
                refine lv_iadd hx hb dX6_send_192 ?_
                obtain ⟨v_page_193, hn193, hf⟩ := nm_some hf
                refine kiast C hP hD hS 1 rfl (by unfold vp_in; decide) dX6_send_193 (j := 2) (by decide) (g := v_page_193) hn193 (w2 := (wX6_send k h0 h1 z0 z1 z2 z3 z4 z5 z6 z7 z8 z9 z10 z11 z12 z13 z14 z15 z16 z17 z18 v_page_193)) rfl (fun H locs hP hD hS => ?_)
                refine lv_aload_n hx hb dX6_send_194 rfl (lv_at hl 2 rfl) ?_
                refine lv_iload hx hb dX6_send_195 (lv_at hl 1 rfl) ?_
                obtain ⟨q197, hq197, hf⟩ := bd_some hf
                refine kcVv C (kX6_isBorn (l := l) (D := D) (k := k) h0 h1 z0 z1 z2 z3 z4 z5 z6 z7 z8 z9 z10 z11 z12 z13 z14 z15 z16 z17 z18 v_page_193 (v_page 2) q197 hq197) mt_X6_isBorn mw_952 ⟨rfl, rfl, Nat.le_of_ble_eq_true rfl, Nat.le_of_ble_eq_true rfl⟩ hP hD hS 0 rfl rfl rfl [0, 1] rfl rfl [some 0, some 1] rfl rfl (w2 := (wX6_send k h0 h1 z0 z1 z2 z3 z4 z5 z6 z7 z8 z9 z10 z11 z12 z13 z14 z15 z16 z17 z18 q197)) rfl rfl rfl hl.1 (rest := []) (Nat.le_of_ble_eq_true rfl) rfl dX6_send_197 ⟨Nat.zero_le _, Nat.zero_le _⟩ (fun H locs hP hD hS => ?_)
                refine lv_iload hx hb dX6_send_200 (lv_at hl 1 rfl) ?_
                obtain rfl := Option.some.inj hf
                exact hret _ _ _ _ dX6_send_202 hP hS
              · rw [if_pos hc] at hf
                refine lv_bipush (v := (-3 : Int32)) hx hb dX6_send_72 (by decide) ?_
                obtain rfl := Option.some.inj hf
                exact hret _ _ _ _ dX6_send_74 hP hS
            · rw [if_pos hc] at hf
              refine lv_iconst (v := (-1 : Int32)) hx hb dX6_send_59 (by decide) ?_
              obtain rfl := Option.some.inj hf
              exact hret _ _ _ _ dX6_send_60 hP hS
set_option maxHeartbeats 4000000 in
set_option maxRecDepth 100000 in
theorem kX6_set {l : Launch} {D : va_G} {k : Nat → ClassId} (h0 h1 : Nat) (z0 z1 z2 z3 z4 z5 z6 z7 z8 z9 z10 z11 z12 z13 z14 z15 z16 z17 z18 : Value) (v_page : Nat → Int32) (x1 : Int32) (x2 : Int32) (q : Int32 × (Nat → Int32)) (hf : fX6_set v_page x1 x2 = some q) : KMi l yX6_set cX6_set 4 (some .int) ({ frames := 1, cells := 0, slots := 0, locals := 25 } : Room) D k [.ref h0, .int x1, .int x2] (wX6_set k h0 h1 z0 z1 z2 z3 z4 z5 z6 z7 z8 z9 z10 z11 z12 z13 z14 z15 z16 z17 z18 v_page) q.1 (wX6_set k h0 h1 z0 z1 z2 z3 z4 z5 z6 z7 z8 z9 z10 z11 z12 z13 z14 z15 z16 z17 z18 q.2) := by
  refine kent_i (by decide) (Nat.le_of_ble_eq_true rfl) ?_
  intro p e s m below meth c A Q ls C hP hD hS hl hret
  obtain ⟨hx, hb, -⟩ := id C
  have hl : lv_has ls 4 [(0, .ref h0), (1, .int x1), (2, .int x2)] := hl
  unfold fX6_set at hf
  generalize ([.ref h0, .int x1, .int x2] : List Value).toArray = args at *
  refine lv_iload_n hx hb dX6_set_0 rfl (lv_at hl 1 rfl) ?_
  refine lv_i2l (v := (x1.toInt64)) hx hb dX6_set_1 rfl ?_
  refine lv_lconst (v := (0 : Int64)) hx hb dX6_set_2 (by decide) ?_
  refine lv_ldc2 (v := (3 : Int64)) hx hb C.2.2.2.1 (C.2.2.2.2.1 _ mw_884) dX6_set_3 ?_
  obtain ⟨q6, hq6, hf⟩ := bd_some hf
  refine kcSi C (kX6_in (l := l) (D := D) (k := k) (x1.toInt64) (0 : Int64) (3 : Int64) q6 hq6) mt_X6_in mw_753 ⟨rfl, rfl, Nat.le_of_ble_eq_true rfl, Nat.le_of_ble_eq_true rfl⟩ hP hD hS [] rfl rfl [none, none] rfl rfl (w2 := (wX6_set k h0 h1 z0 z1 z2 z3 z4 z5 z6 z7 z8 z9 z10 z11 z12 z13 z14 z15 z16 z17 z18 v_page)) rfl rfl rfl hl.1 (rest := []) (Nat.le_of_ble_eq_true rfl) rfl dX6_set_6 ⟨Nat.zero_le _, Nat.zero_le _⟩ (fun H locs hP hD hS => ?_)
  refine lv_if_eq (tgt := 45) hx hb dX6_set_9 (by decide) (fun hc => ?_) (fun hc => ?_)
  · rw [if_pos hc] at hf
    refine lv_iconst (v := (-1 : Int32)) hx hb dX6_set_45 (by decide) ?_
    obtain rfl := Option.some.inj hf
    exact hret _ _ _ _ dX6_set_46 hP hS
  · rw [if_neg hc] at hf
    refine lv_iload_n hx hb dX6_set_12 rfl (lv_at hl 2 rfl) ?_
    refine lv_i2l (v := (x2.toInt64)) hx hb dX6_set_13 rfl ?_
    refine lv_lconst (v := (0 : Int64)) hx hb dX6_set_14 (by decide) ?_
    refine lv_iload_n hx hb dX6_set_15 rfl (lv_at hl 1 rfl) ?_
    obtain ⟨v39, hv39, hf⟩ := bd_some hf
    have hj39 : ∀ (H : Heap) (locs : List Loc) (ls : Array Slot), va_P D vwCl (wX6_set k h0 h1 z0 z1 z2 z3 z4 z5 z6 z7 z8 z9 z10 z11 z12 z13 z14 z15 z16 z17 z18 v_page) H → va_D A (wX6_set k h0 h1 z0 z1 z2 z3 z4 z5 z6 z7 z8 z9 z10 z11 z12 z13 z14 z15 z16 z17 z18 v_page) → va_S A s.heap H locs → lv_has ls 4 [(0, .ref h0), (1, .int x1), (2, .int x2)] → W p l e ({ frames := 1, cells := 0, slots := 0, locals := 25 } : Room) s m args below meth c H locs 0 0 Q (F0 m 39 ls [.long v39, .long (0 : Int64), .long (x2.toInt64)]) := by
      intro H locs ls hP hD hS hl
      obtain ⟨q39, hq39, hf⟩ := bd_some hf
      refine kcSi C (kX6_in (l := l) (D := D) (k := k) (x2.toInt64) (0 : Int64) v39 q39 hq39) mt_X6_in mw_753 ⟨rfl, rfl, Nat.le_of_ble_eq_true rfl, Nat.le_of_ble_eq_true rfl⟩ hP hD hS [] rfl rfl [none, none] rfl rfl (w2 := (wX6_set k h0 h1 z0 z1 z2 z3 z4 z5 z6 z7 z8 z9 z10 z11 z12 z13 z14 z15 z16 z17 z18 v_page)) rfl rfl rfl hl.1 (rest := []) (Nat.le_of_ble_eq_true rfl) rfl dX6_set_39 ⟨Nat.zero_le _, Nat.zero_le _⟩ (fun H locs hP hD hS => ?_)
      refine lv_if_ne (tgt := 47) hx hb dX6_set_42 (by decide) (fun hc => ?_) (fun hc => ?_)
      · rw [if_neg hc] at hf
        refine lv_aload_n hx hb dX6_set_47 rfl (lv_at hl 0 rfl) ?_
        refine kget C inX6 hP 0 rfl rfl 0 (by decide) mw_687 rfl dX6_set_48 ?_
        refine lv_iconst (v := (4 : Int32)) hx hb dX6_set_51 (by decide) ?_
        refine lv_iload_n hx hb dX6_set_52 rfl (lv_at hl 1 rfl) ?_
        refine lv_iadd hx hb dX6_set_53 ?_
        obtain ⟨hin, hf⟩ := gd_some hf
        refine kiald C hP 1 rfl hin dX6_set_54 (j := ((4 : Int32) + x1).toNatClampNeg) rfl ?_
        refine lv_istore_n (lv' := [(3, .int (v_page (((4 : Int32) + x1).toNatClampNeg))), (0, .ref h0), (1, .int x1), (2, .int x2)]) hx hb dX6_set_55 rfl hl (by decide) rfl (fun ls hl => ?_)
        refine lv_aload_n hx hb dX6_set_56 rfl (lv_at hl 1 rfl) ?_
        refine kget C inX6 hP 0 rfl rfl 0 (by decide) mw_687 rfl dX6_set_57 ?_
        refine lv_iconst (v := (4 : Int32)) hx hb dX6_set_60 (by decide) ?_
        refine lv_iload_n hx hb dX6_set_61 rfl (lv_at hl 2 rfl) ?_
        refine lv_iadd hx hb dX6_set_62 ?_
        refine lv_iload_n hx hb dX6_set_63 rfl (lv_at hl 3 rfl) ?_
        obtain ⟨hin, hf⟩ := gd_some hf
        obtain ⟨v_page_64, hn64, hf⟩ := nm_some hf
        refine kiast C hP hD hS 1 rfl hin dX6_set_64 (j := ((4 : Int32) + x1).toNatClampNeg) rfl (g := v_page_64) hn64 (w2 := (wX6_set k h0 h1 z0 z1 z2 z3 z4 z5 z6 z7 z8 z9 z10 z11 z12 z13 z14 z15 z16 z17 z18 v_page_64)) rfl (fun H locs hP hD hS => ?_)
        refine lv_iload_n hx hb dX6_set_65 rfl (lv_at hl 0 rfl) ?_
        obtain rfl := Option.some.inj hf
        exact hret _ _ _ _ dX6_set_66 hP hS
      · rw [if_pos hc] at hf
        refine lv_iconst (v := (-1 : Int32)) hx hb dX6_set_45 (by decide) ?_
        obtain rfl := Option.some.inj hf
        exact hret _ _ _ _ dX6_set_46 hP hS
    clear hf
    have hf := hv39
    refine lv_if_ne (tgt := 25) hx hb dX6_set_16 (by decide) (fun hc => ?_) (fun hc => ?_)
    · rw [if_neg hc] at hf
      refine lv_iload_n hx hb dX6_set_25 rfl (lv_at hl 1 rfl) ?_
      refine lv_iconst (v := (3 : Int32)) hx hb dX6_set_26 (by decide) ?_
      refine lv_icmp_ne (tgt := 36) hx hb dX6_set_27 (by decide) (fun hc => ?_) (fun hc => ?_)
      · rw [if_neg hc] at hf
        refine lv_ldc2 (v := (3 : Int64)) hx hb C.2.2.2.1 (C.2.2.2.2.1 _ mw_884) dX6_set_36 ?_
        obtain rfl := Option.some.inj hf
        exact hj39 _ _ _ hP hD hS (lv_sub hl [0, 1, 2] rfl)
      · rw [if_pos hc] at hf
        refine lv_ldc2 (v := (9 : Int64)) hx hb C.2.2.2.1 (C.2.2.2.2.1 _ mw_1017) dX6_set_30 ?_
        refine lv_goto (tgt := 39) hx hb dX6_set_33 (by decide) ?_
        obtain rfl := Option.some.inj hf
        exact hj39 _ _ _ hP hD hS (lv_sub hl [0, 1, 2] rfl)
    · rw [if_pos hc] at hf
      refine lv_ldc2 (v := (99 : Int64)) hx hb C.2.2.2.1 (C.2.2.2.2.1 _ mw_921) dX6_set_19 ?_
      refine lv_goto (tgt := 39) hx hb dX6_set_22 (by decide) ?_
      obtain rfl := Option.some.inj hf
      exact hj39 _ _ _ hP hD hS (lv_sub hl [0, 1, 2] rfl)
set_option maxHeartbeats 4000000 in
set_option maxRecDepth 100000 in
theorem kX6_got {l : Launch} {D : va_G} {k : Nat → ClassId} (h0 : Nat) (z0 z1 z2 z3 z4 z5 z6 z7 z8 z9 z10 z11 z12 z13 z14 z15 z16 z17 z18 : Value) (v_drawn : Int32) (q : Int32 × Int32) (hf : fX6_got v_drawn = some q) : KMi l yX6_got cX6_got 1 (some .int) ({ frames := 0, cells := 0, slots := 0, locals := 0 } : Room) D k [.ref h0] (wX6_got k h0 z0 z1 z2 z3 z4 z5 z6 z7 z8 z9 z10 z11 z12 z13 z14 z15 z16 z17 z18 v_drawn) q.1 (wX6_got k h0 z0 z1 z2 z3 z4 z5 z6 z7 z8 z9 z10 z11 z12 z13 z14 z15 z16 z17 z18 q.2) := by
  refine kent_i (by decide) (Nat.le_of_ble_eq_true rfl) ?_
  intro p e s m below meth c A Q ls C hP hD hS hl hret
  obtain ⟨hx, hb, -⟩ := id C
  have hl : lv_has ls 1 [(0, .ref h0)] := hl
  unfold fX6_got at hf
  generalize ([.ref h0] : List Value).toArray = args at *
  refine lv_aload_n hx hb dX6_got_0 rfl (lv_at hl 0 rfl) ?_
  refine lv_aload_n hx hb dX6_got_1 rfl (lv_at hl 0 rfl) ?_
  refine kget C inX6 hP 0 rfl rfl 19 (by decide) mw_706 rfl dX6_got_2 ?_
  refine lv_ldc (v := (1103515245 : Int32)) hx hb C.2.2.2.1 (C.2.2.2.2.1 _ mw_1027) dX6_got_5 ?_
  refine lv_imul hx hb dX6_got_7 ?_
  refine lv_sipush (v := (12345 : Int32)) hx hb dX6_got_8 (by decide) ?_
  refine lv_iadd hx hb dX6_got_11 ?_
  refine kput C inX6 tyX6_ok nmX6 hP hD hS 0 rfl rfl 19 (by decide) mw_706 rfl rfl rfl (Nat.le_of_ble_eq_true rfl) dX6_got_12 (w2 := (wX6_got k h0 z0 z1 z2 z3 z4 z5 z6 z7 z8 z9 z10 z11 z12 z13 z14 z15 z16 z17 z18 ((v_drawn * (1103515245 : Int32)) + (12345 : Int32)))) rfl (fun H locs hP hD hS => ?_)
  refine lv_aload_n hx hb dX6_got_15 rfl (lv_at hl 0 rfl) ?_
  refine kget C inX6 hP 0 rfl rfl 19 (by decide) mw_706 rfl dX6_got_16 ?_
  refine lv_bipush (v := (16 : Int32)) hx hb dX6_got_19 (by decide) ?_
  refine lv_ishr hx hb dX6_got_21 ?_
  refine lv_sipush (v := (32767 : Int32)) hx hb dX6_got_22 (by decide) ?_
  refine lv_iand hx hb dX6_got_25 ?_
  obtain rfl := Option.some.inj hf
  exact hret _ _ _ _ dX6_got_26 hP hS
set_option maxHeartbeats 4000000 in
set_option maxRecDepth 100000 in
theorem wX6_draw_43 {p : Program} {l : Launch} {e : Env} {s : State} {m : MethodId} {args : Array Value} {below : List Frame} {meth : Method} {c : Code} {A : Nat → Prop} {Q : State → Prop} {D : va_G} {k : Nat → ClassId} (C : Cx p s m args c cX6_draw 7 RX6 A D k) (h0 h1 h2 : Nat) (z0 z1 z2 z3 z4 z5 z6 z7 z8 z9 z10 z11 z12 z13 z14 : Value) (y2 : Int32) (y3 : Int32) : ∀ (f : Nat) (v_left : Int32) (v_isRefused : Int32) (v_drawn : Int32) (v_page : Nat → Int32) (v_isLeft : Nat → Int32) (y4 : Int32) (ex : (Int32 × Int32 × Int32 × (Nat → Int32) × (Nat → Int32))) (H : Heap) (locs : List Loc) (ls : Array Slot), fX6_draw_43 y2 y3 f v_left v_isRefused v_drawn v_page v_isLeft y4 = some ex → va_P D vwCl (wX6_draw k h0 h1 h2 z0 z1 z2 z3 z4 z5 z6 z7 z8 z9 z10 z11 z12 z13 z14 v_left v_isRefused v_drawn v_page v_isLeft) H → va_D A (wX6_draw k h0 h1 h2 z0 z1 z2 z3 z4 z5 z6 z7 z8 z9 z10 z11 z12 z13 z14 v_left v_isRefused v_drawn v_page v_isLeft) → va_S A s.heap H locs → lv_has ls 7 [(0, .ref h0), (2, .int y2), (3, .int y3), (4, .int y4)] → (∀ (H : Heap) (locs : List Loc) (ls : Array Slot), va_P D vwCl (wX6_draw k h0 h1 h2 z0 z1 z2 z3 z4 z5 z6 z7 z8 z9 z10 z11 z12 z13 z14 ex.1 ex.2.1 ex.2.2.1 ex.2.2.2.1 ex.2.2.2.2) H → va_D A (wX6_draw k h0 h1 h2 z0 z1 z2 z3 z4 z5 z6 z7 z8 z9 z10 z11 z12 z13 z14 ex.1 ex.2.1 ex.2.2.1 ex.2.2.2.1 ex.2.2.2.2) → va_S A s.heap H locs → lv_has ls 7 [(0, .ref h0), (3, .int y3)] → W p l e ({ frames := 8, cells := 0, slots := 0, locals := 187 } : Room) s m args below meth c H locs 0 0 Q (F0 m 114 ls [])) → W p l e ({ frames := 8, cells := 0, slots := 0, locals := 187 } : Room) s m args below meth c H locs 0 0 Q (F0 m 43 ls []) := by
  obtain ⟨hx, hb, -⟩ := id C
  intro f
  induction f with
  | zero =>
    intro v_left v_isRefused v_drawn v_page v_isLeft y4 ex H locs ls hf hP hD hS hl hk
    cases hf
  | succ f ih =>
    intro v_left v_isRefused v_drawn v_page v_isLeft y4 ex H locs ls hf hP hD hS hl hk
    rw [fX6_draw_43] at hf
    refine lv_iload hx hb dX6_draw_43 (lv_at hl 3 rfl) ?_
    refine lv_iload_n hx hb dX6_draw_45 rfl (lv_at hl 1 rfl) ?_
    refine lv_icmp_ge (tgt := 114) hx hb dX6_draw_46 (by decide) (fun hc => ?_) (fun hc => ?_)
    · rw [if_pos hc] at hf
      obtain rfl := Option.some.inj hf
      exact hk _ _ _ hP hD hS (lv_sub hl [0, 2] rfl)
    · rw [if_neg hc] at hf
      refine lv_aload_n hx hb dX6_draw_49 rfl (lv_at hl 0 rfl) ?_
      obtain ⟨q50, hq50, hf⟩ := bd_some hf
      refine kcVv C (kX6_minute (l := l) (D := D) (k := k) h0 h1 h2 z0 z1 z2 z3 z4 z5 z6 z7 z8 z9 z10 z11 z12 z13 z14 (.int v_drawn) v_left v_isRefused v_page v_isLeft q50 hq50) mt_X6_minute mw_944 ⟨rfl, rfl, Nat.le_of_ble_eq_true rfl, Nat.le_of_ble_eq_true rfl⟩ hP hD hS 0 rfl rfl rfl [0, 1, 2] rfl rfl [some 0, some 1, some 2] rfl rfl (w2 := (wX6_draw k h0 h1 h2 z0 z1 z2 z3 z4 z5 z6 z7 z8 z9 z10 z11 z12 z13 z14 q50.1 q50.2.1 v_drawn q50.2.2.1 q50.2.2.2)) rfl rfl rfl hl.1 (rest := []) (Nat.le_of_ble_eq_true rfl) rfl dX6_draw_50 ⟨Nat.zero_le _, Nat.zero_le _⟩ (fun H locs hP hD hS => ?_)
      refine lv_aload_n hx hb dX6_draw_53 rfl (lv_at hl 0 rfl) ?_
      obtain ⟨q54, hq54, hf⟩ := bd_some hf
      refine kcVi C (kX6_got (l := l) (D := D) (k := k) h0 (.ref h1) z0 z1 z2 z3 z4 z5 z6 z7 z8 z9 z10 z11 z12 z13 (.ref h2) (.int q50.1) (.int q50.2.1) z14 v_drawn q54 hq54) mt_X6_got mw_1023 ⟨rfl, rfl, Nat.le_of_ble_eq_true rfl, Nat.le_of_ble_eq_true rfl⟩ hP hD hS 0 rfl rfl rfl [0] rfl rfl [some 0, none, none] rfl rfl (w2 := (wX6_draw k h0 h1 h2 z0 z1 z2 z3 z4 z5 z6 z7 z8 z9 z10 z11 z12 z13 z14 q50.1 q50.2.1 q54.2 q50.2.2.1 q50.2.2.2)) rfl rfl rfl hl.1 (rest := []) (Nat.le_of_ble_eq_true rfl) rfl dX6_draw_54 ⟨Nat.zero_le _, Nat.zero_le _⟩ (fun H locs hP hD hS => ?_)
      refine lv_aload_n hx hb dX6_draw_57 rfl (lv_at hl 0 rfl) ?_
      refine kget C inX6 hP 0 rfl rfl 0 (by decide) mw_687 rfl dX6_draw_58 ?_
      refine lv_iconst (v := (0 : Int32)) hx hb dX6_draw_61 (by decide) ?_
      refine kiald C hP 1 rfl (by unfold vp_in; decide) dX6_draw_62 (j := 0) (by decide) ?_
      obtain ⟨hne, hf⟩ := dv_some hf
      refine lv_irem hx hb dX6_draw_63 hne ?_
      refine lv_istore (lv' := [(5, .int (q54.1 - q54.1 / (q50.2.2.1 0) * (q50.2.2.1 0))), (0, .ref h0), (2, .int y2), (3, .int y3), (4, .int y4)]) hx hb dX6_draw_64 hl (by decide) rfl (fun ls hl => ?_)
      refine lv_iload hx hb dX6_draw_66 (lv_at hl 0 rfl) ?_
      refine lv_iconst (v := (1 : Int32)) hx hb dX6_draw_68 (by decide) ?_
      refine lv_iadd hx hb dX6_draw_69 ?_
      refine lv_aload_n hx hb dX6_draw_70 rfl (lv_at hl 1 rfl) ?_
      obtain ⟨q71, hq71, hf⟩ := bd_some hf
      refine kcVi C (kX6_got (l := l) (D := D) (k := k) h0 (.ref h1) z0 z1 z2 z3 z4 z5 z6 z7 z8 z9 z10 z11 z12 z13 (.ref h2) (.int q50.1) (.int q50.2.1) z14 q54.2 q71 hq71) mt_X6_got mw_1023 ⟨rfl, rfl, Nat.le_of_ble_eq_true rfl, Nat.le_of_ble_eq_true rfl⟩ hP hD hS 0 rfl rfl rfl [0] rfl rfl [some 0, none, none] rfl rfl (w2 := (wX6_draw k h0 h1 h2 z0 z1 z2 z3 z4 z5 z6 z7 z8 z9 z10 z11 z12 z13 z14 q50.1 q50.2.1 q71.2 q50.2.2.1 q50.2.2.2)) rfl rfl rfl hl.1 (rest := [.int ((q54.1 - q54.1 / (q50.2.2.1 0) * (q50.2.2.1 0)) + (1 : Int32))]) (Nat.le_of_ble_eq_true rfl) rfl dX6_draw_71 ⟨Nat.zero_le _, Nat.zero_le _⟩ (fun H locs hP hD hS => ?_)
      refine lv_aload_n hx hb dX6_draw_74 rfl (lv_at hl 1 rfl) ?_
      refine kget C inX6 hP 0 rfl rfl 0 (by decide) mw_687 rfl dX6_draw_75 ?_
      refine lv_iconst (v := (0 : Int32)) hx hb dX6_draw_78 (by decide) ?_
      refine kiald C hP 1 rfl (by unfold vp_in; decide) dX6_draw_79 (j := 0) (by decide) ?_
      refine lv_iconst (v := (1 : Int32)) hx hb dX6_draw_80 (by decide) ?_
      refine lv_isub hx hb dX6_draw_81 ?_
      obtain ⟨hne, hf⟩ := dv_some hf
      refine lv_irem hx hb dX6_draw_82 hne ?_
      refine lv_iadd hx hb dX6_draw_83 ?_
      refine lv_aload_n hx hb dX6_draw_84 rfl (lv_at hl 1 rfl) ?_
      refine kget C inX6 hP 0 rfl rfl 0 (by decide) mw_687 rfl dX6_draw_85 ?_
      refine lv_iconst (v := (0 : Int32)) hx hb dX6_draw_88 (by decide) ?_
      refine kiald C hP 1 rfl (by unfold vp_in; decide) dX6_draw_89 (j := 0) (by decide) ?_
      obtain ⟨hne, hf⟩ := dv_some hf
      refine lv_irem hx hb dX6_draw_90 hne ?_
      refine lv_istore (lv' := [(6, .int ((((q54.1 - q54.1 / (q50.2.2.1 0) * (q50.2.2.1 0)) + (1 : Int32)) + (q71.1 - q71.1 / ((q50.2.2.1 0) - (1 : Int32)) * ((q50.2.2.1 0) - (1 : Int32)))) - (((q54.1 - q54.1 / (q50.2.2.1 0) * (q50.2.2.1 0)) + (1 : Int32)) + (q71.1 - q71.1 / ((q50.2.2.1 0) - (1 : Int32)) * ((q50.2.2.1 0) - (1 : Int32)))) / (q50.2.2.1 0) * (q50.2.2.1 0))), (5, .int (q54.1 - q54.1 / (q50.2.2.1 0) * (q50.2.2.1 0))), (0, .ref h0), (2, .int y2), (3, .int y3), (4, .int y4)]) hx hb dX6_draw_91 hl (by decide) rfl (fun ls hl => ?_)
      refine lv_aload_n hx hb dX6_draw_93 rfl (lv_at hl 2 rfl) ?_
      refine lv_iload hx hb dX6_draw_94 (lv_at hl 1 rfl) ?_
      refine lv_iload hx hb dX6_draw_96 (lv_at hl 0 rfl) ?_
      refine lv_aload_n hx hb dX6_draw_98 rfl (lv_at hl 2 rfl) ?_
      obtain ⟨q99, hq99, hf⟩ := bd_some hf
      refine kcVi C (kX6_got (l := l) (D := D) (k := k) h0 (.ref h1) z0 z1 z2 z3 z4 z5 z6 z7 z8 z9 z10 z11 z12 z13 (.ref h2) (.int q50.1) (.int q50.2.1) z14 q71.2 q99 hq99) mt_X6_got mw_1023 ⟨rfl, rfl, Nat.le_of_ble_eq_true rfl, Nat.le_of_ble_eq_true rfl⟩ hP hD hS 0 rfl rfl rfl [0] rfl rfl [some 0, none, none] rfl rfl (w2 := (wX6_draw k h0 h1 h2 z0 z1 z2 z3 z4 z5 z6 z7 z8 z9 z10 z11 z12 z13 z14 q50.1 q50.2.1 q99.2 q50.2.2.1 q50.2.2.2)) rfl rfl rfl hl.1 (rest := [.int ((((q54.1 - q54.1 / (q50.2.2.1 0) * (q50.2.2.1 0)) + (1 : Int32)) + (q71.1 - q71.1 / ((q50.2.2.1 0) - (1 : Int32)) * ((q50.2.2.1 0) - (1 : Int32)))) - (((q54.1 - q54.1 / (q50.2.2.1 0) * (q50.2.2.1 0)) + (1 : Int32)) + (q71.1 - q71.1 / ((q50.2.2.1 0) - (1 : Int32)) * ((q50.2.2.1 0) - (1 : Int32)))) / (q50.2.2.1 0) * (q50.2.2.1 0)), .int (q54.1 - q54.1 / (q50.2.2.1 0) * (q50.2.2.1 0)), .ref h0]) (Nat.le_of_ble_eq_true rfl) rfl dX6_draw_99 ⟨Nat.zero_le _, Nat.zero_le _⟩ (fun H locs hP hD hS => ?_)
      refine lv_bipush (v := (100 : Int32)) hx hb dX6_draw_102 (by decide) ?_
      refine lv_irem hx hb dX6_draw_104 (by decide) ?_
      obtain ⟨q105, hq105, hf⟩ := bd_some hf
      refine kcVv C (kX6_meets (l := l) (D := D) (k := k) h0 h1 h2 z0 z1 z2 z3 z4 z5 z6 z7 z8 z9 z10 z11 z12 z13 z14 (.int q99.2) q50.1 q50.2.1 q50.2.2.1 q50.2.2.2 (q54.1 - q54.1 / (q50.2.2.1 0) * (q50.2.2.1 0)) ((((q54.1 - q54.1 / (q50.2.2.1 0) * (q50.2.2.1 0)) + (1 : Int32)) + (q71.1 - q71.1 / ((q50.2.2.1 0) - (1 : Int32)) * ((q50.2.2.1 0) - (1 : Int32)))) - (((q54.1 - q54.1 / (q50.2.2.1 0) * (q50.2.2.1 0)) + (1 : Int32)) + (q71.1 - q71.1 / ((q50.2.2.1 0) - (1 : Int32)) * ((q50.2.2.1 0) - (1 : Int32)))) / (q50.2.2.1 0) * (q50.2.2.1 0)) (q99.1 - q99.1 / (100 : Int32) * (100 : Int32)) q105 hq105) mt_X6_meets mw_972 ⟨rfl, rfl, Nat.le_of_ble_eq_true rfl, Nat.le_of_ble_eq_true rfl⟩ hP hD hS 0 rfl rfl rfl [0, 1, 2] rfl rfl [some 0, some 1, some 2] rfl rfl (w2 := (wX6_draw k h0 h1 h2 z0 z1 z2 z3 z4 z5 z6 z7 z8 z9 z10 z11 z12 z13 z14 q105.1 q105.2.1 q99.2 q105.2.2.1 q105.2.2.2)) rfl rfl rfl hl.1 (rest := []) (Nat.le_of_ble_eq_true rfl) rfl dX6_draw_105 ⟨Nat.zero_le _, Nat.zero_le _⟩ (fun H locs hP hD hS => ?_)
      refine lv_iinc (v := (y4 + (1 : Int32))) (lv' := [(4, .int (y4 + (1 : Int32))), (6, .int ((((q54.1 - q54.1 / (q50.2.2.1 0) * (q50.2.2.1 0)) + (1 : Int32)) + (q71.1 - q71.1 / ((q50.2.2.1 0) - (1 : Int32)) * ((q50.2.2.1 0) - (1 : Int32)))) - (((q54.1 - q54.1 / (q50.2.2.1 0) * (q50.2.2.1 0)) + (1 : Int32)) + (q71.1 - q71.1 / ((q50.2.2.1 0) - (1 : Int32)) * ((q50.2.2.1 0) - (1 : Int32)))) / (q50.2.2.1 0) * (q50.2.2.1 0))), (5, .int (q54.1 - q54.1 / (q50.2.2.1 0) * (q50.2.2.1 0))), (0, .ref h0), (2, .int y2), (3, .int y3)]) hx hb dX6_draw_108 hl (k := 5) rfl rfl (by decide) rfl (fun ls hl => ?_)
      refine lv_goto (tgt := 43) hx hb dX6_draw_111 (by decide) ?_
      exact ih q105.1 q105.2.1 q99.2 q105.2.2.1 q105.2.2.2 (y4 + (1 : Int32)) _ _ _ _ hf hP hD hS (lv_sub hl [3, 4, 5, 0] rfl) hk
set_option maxHeartbeats 4000000 in
set_option maxRecDepth 100000 in
theorem kX6_draw {l : Launch} {D : va_G} {k : Nat → ClassId} (h0 h1 h2 : Nat) (z0 z1 z2 z3 z4 z5 z6 z7 z8 z9 z10 z11 z12 z13 z14 : Value) (v_left : Int32) (v_isRefused : Int32) (v_drawn : Int32) (v_page : Nat → Int32) (v_isLeft : Nat → Int32) (x1 : Int32) (x2 : Int32) (q : Int32 × Int32 × Int32 × Int32 × (Nat → Int32) × (Nat → Int32)) (hf : fX6_draw v_left v_isRefused v_drawn v_page v_isLeft x1 x2 = some q) : KMi l yX6_draw cX6_draw 7 (some .int) ({ frames := 8, cells := 0, slots := 0, locals := 187 } : Room) D k [.ref h0, .int x1, .int x2] (wX6_draw k h0 h1 h2 z0 z1 z2 z3 z4 z5 z6 z7 z8 z9 z10 z11 z12 z13 z14 v_left v_isRefused v_drawn v_page v_isLeft) q.1 (wX6_draw k h0 h1 h2 z0 z1 z2 z3 z4 z5 z6 z7 z8 z9 z10 z11 z12 z13 z14 q.2.1 q.2.2.1 q.2.2.2.1 q.2.2.2.2.1 q.2.2.2.2.2) := by
  refine kent_i (by decide) (Nat.le_of_ble_eq_true rfl) ?_
  intro p e s m below meth c A Q ls C hP hD hS hl hret
  obtain ⟨hx, hb, -⟩ := id C
  have hl : lv_has ls 7 [(0, .ref h0), (1, .int x1), (2, .int x2)] := hl
  unfold fX6_draw at hf
  generalize ([.ref h0, .int x1, .int x2] : List Value).toArray = args at *
  refine lv_iload_n hx hb dX6_draw_0 rfl (lv_at hl 2 rfl) ?_
  refine lv_i2l (v := (x2.toInt64)) hx hb dX6_draw_1 rfl ?_
  refine lv_lconst (v := (1 : Int64)) hx hb dX6_draw_2 (by decide) ?_
  refine lv_ldc2 (v := (20 : Int64)) hx hb C.2.2.2.1 (C.2.2.2.2.1 _ mw_1022) dX6_draw_3 ?_
  obtain ⟨q6, hq6, hf⟩ := bd_some hf
  refine kcSi C (kX6_in (l := l) (D := D) (k := k) (x2.toInt64) (1 : Int64) (20 : Int64) q6 hq6) mt_X6_in mw_753 ⟨rfl, rfl, Nat.le_of_ble_eq_true rfl, Nat.le_of_ble_eq_true rfl⟩ hP hD hS [] rfl rfl [none, none, none] rfl rfl (w2 := (wX6_draw k h0 h1 h2 z0 z1 z2 z3 z4 z5 z6 z7 z8 z9 z10 z11 z12 z13 z14 v_left v_isRefused v_drawn v_page v_isLeft)) rfl rfl rfl hl.1 (rest := []) (Nat.le_of_ble_eq_true rfl) rfl dX6_draw_6 ⟨Nat.zero_le _, Nat.zero_le _⟩ (fun H locs hP hD hS => ?_)
  refine lv_if_ne (tgt := 14) hx hb dX6_draw_9 (by decide) (fun hc => ?_) (fun hc => ?_)
  · rw [if_neg hc] at hf
    refine lv_aload_n hx hb dX6_draw_14 rfl (lv_at hl 0 rfl) ?_
    refine kget C inX6 hP 0 rfl rfl 0 (by decide) mw_687 rfl dX6_draw_15 ?_
    refine lv_iconst (v := (0 : Int32)) hx hb dX6_draw_18 (by decide) ?_
    refine kiald C hP 1 rfl (by unfold vp_in; decide) dX6_draw_19 (j := 0) (by decide) ?_
    refine lv_iconst (v := (2 : Int32)) hx hb dX6_draw_20 (by decide) ?_
    refine lv_icmp_ge (tgt := 27) hx hb dX6_draw_21 (by decide) (fun hc => ?_) (fun hc => ?_)
    · rw [if_pos hc] at hf
      refine lv_aload_n hx hb dX6_draw_27 rfl (lv_at hl 0 rfl) ?_
      refine lv_iload_n hx hb dX6_draw_28 rfl (lv_at hl 1 rfl) ?_
      refine kput C inX6 tyX6_ok nmX6 hP hD hS 0 rfl rfl 19 (by decide) mw_706 rfl rfl rfl (Nat.le_of_ble_eq_true rfl) dX6_draw_29 (w2 := (wX6_draw k h0 h1 h2 z0 z1 z2 z3 z4 z5 z6 z7 z8 z9 z10 z11 z12 z13 z14 v_left v_isRefused x1 v_page v_isLeft)) rfl (fun H locs hP hD hS => ?_)
      refine lv_aload_n hx hb dX6_draw_32 rfl (lv_at hl 0 rfl) ?_
      refine kget C inX6 hP 0 rfl rfl 0 (by decide) mw_687 rfl dX6_draw_33 ?_
      refine lv_bipush (v := (8 : Int32)) hx hb dX6_draw_36 (by decide) ?_
      refine kiald C hP 1 rfl (by unfold vp_in; decide) dX6_draw_38 (j := 8) (by decide) ?_
      refine lv_istore_n (lv' := [(3, .int (v_page 8)), (0, .ref h0), (1, .int x1), (2, .int x2)]) hx hb dX6_draw_39 rfl hl (by decide) rfl (fun ls hl => ?_)
      refine lv_iconst (v := (0 : Int32)) hx hb dX6_draw_40 (by decide) ?_
      refine lv_istore (lv' := [(4, .int (0 : Int32)), (3, .int (v_page 8)), (0, .ref h0), (1, .int x1), (2, .int x2)]) hx hb dX6_draw_41 hl (by decide) rfl (fun ls hl => ?_)
      obtain ⟨ex43, hv, hf⟩ := bd_some hf
      refine wX6_draw_43 C h0 h1 h2 z0 z1 z2 z3 z4 z5 z6 z7 z8 z9 z10 z11 z12 z13 z14 x2 (v_page 8) FU v_left v_isRefused x1 v_page v_isLeft (0 : Int32) ex43 _ _ _ hv hP hD hS (lv_sub hl [2, 4, 1, 0] rfl) (fun H locs ls hP hD hS hl => ?_)
      refine lv_aload_n hx hb dX6_draw_114 rfl (lv_at hl 0 rfl) ?_
      refine kget C inX6 hP 0 rfl rfl 0 (by decide) mw_687 rfl dX6_draw_115 ?_
      refine lv_bipush (v := (8 : Int32)) hx hb dX6_draw_118 (by decide) ?_
      refine kiald C hP 1 rfl (by unfold vp_in; decide) dX6_draw_120 (j := 8) (by decide) ?_
      refine lv_iload_n hx hb dX6_draw_121 rfl (lv_at hl 1 rfl) ?_
      refine lv_isub hx hb dX6_draw_122 ?_
      obtain rfl := Option.some.inj hf
      exact hret _ _ _ _ dX6_draw_123 hP hS
    · rw [if_neg hc] at hf
      refine lv_bipush (v := (-2 : Int32)) hx hb dX6_draw_24 (by decide) ?_
      obtain rfl := Option.some.inj hf
      exact hret _ _ _ _ dX6_draw_26 hP hS
  · rw [if_pos hc] at hf
    refine lv_iconst (v := (-1 : Int32)) hx hb dX6_draw_12 (by decide) ?_
    obtain rfl := Option.some.inj hf
    exact hret _ _ _ _ dX6_draw_13 hP hS
set_option maxHeartbeats 4000000 in
set_option maxRecDepth 100000 in
theorem wX6_keep_29 {p : Program} {l : Launch} {e : Env} {s : State} {m : MethodId} {args : Array Value} {below : List Frame} {meth : Method} {c : Code} {A : Nat → Prop} {Q : State → Prop} {D : va_G} {k : Nat → ClassId} (C : Cx p s m args c cX6_keep 4 RX6 A D k) (h0 h1 h2 h3 : Nat) (z0 z1 z2 z3 z4 z5 z6 z7 z8 z9 z10 z11 z12 z13 z14 z15 z16 : Value) (v_page : Nat → Int32) (v_isKept : Nat → Int32) (y1 : Int32) (y2 : Int32) : ∀ (f : Nat) (v_kept : Nat → Int32) (y3 : Int32) (ex : ((Nat → Int32))) (H : Heap) (locs : List Loc) (ls : Array Slot), fX6_keep_29 v_page y1 y2 f v_kept y3 = some ex → va_P D vwCl (wX6_keep k h0 h1 h2 h3 z0 z1 z2 z3 z4 z5 z6 z7 z8 z9 z10 z11 z12 z13 z14 z15 z16 v_page v_kept v_isKept) H → va_D A (wX6_keep k h0 h1 h2 h3 z0 z1 z2 z3 z4 z5 z6 z7 z8 z9 z10 z11 z12 z13 z14 z15 z16 v_page v_kept v_isKept) → va_S A s.heap H locs → lv_has ls 4 [(0, .ref h0), (1, .int y1), (2, .int y2), (3, .int y3)] → (∀ (H : Heap) (locs : List Loc) (ls : Array Slot), va_P D vwCl (wX6_keep k h0 h1 h2 h3 z0 z1 z2 z3 z4 z5 z6 z7 z8 z9 z10 z11 z12 z13 z14 z15 z16 v_page ex v_isKept) H → va_D A (wX6_keep k h0 h1 h2 h3 z0 z1 z2 z3 z4 z5 z6 z7 z8 z9 z10 z11 z12 z13 z14 z15 z16 v_page ex v_isKept) → va_S A s.heap H locs → lv_has ls 4 [(0, .ref h0), (1, .int y1), (2, .int y2)] → W p l e ({ frames := 1, cells := 0, slots := 0, locals := 25 } : Room) s m args below meth c H locs 0 0 Q (F0 m 60 ls [])) → W p l e ({ frames := 1, cells := 0, slots := 0, locals := 25 } : Room) s m args below meth c H locs 0 0 Q (F0 m 29 ls []) := by
  obtain ⟨hx, hb, -⟩ := id C
  intro f
  induction f with
  | zero =>
    intro v_kept y3 ex H locs ls hf hP hD hS hl hk
    cases hf
  | succ f ih =>
    intro v_kept y3 ex H locs ls hf hP hD hS hl hk
    rw [fX6_keep_29] at hf
    refine lv_iload_n hx hb dX6_keep_29 rfl (lv_at hl 3 rfl) ?_
    refine lv_sipush (v := (831 : Int32)) hx hb dX6_keep_30 (by decide) ?_
    refine lv_icmp_ge (tgt := 60) hx hb dX6_keep_33 (by decide) (fun hc => ?_) (fun hc => ?_)
    · rw [if_pos hc] at hf
      obtain rfl := Option.some.inj hf
      exact hk _ _ _ hP hD hS (lv_sub hl [0, 1, 2] rfl)
    · rw [if_neg hc] at hf
      refine lv_aload_n hx hb dX6_keep_36 rfl (lv_at hl 0 rfl) ?_
      refine kget C inX6 hP 0 rfl rfl 2 (by decide) mw_689 rfl dX6_keep_37 ?_
      refine lv_sipush (v := (831 : Int32)) hx hb dX6_keep_40 (by decide) ?_
      refine lv_iload_n hx hb dX6_keep_43 rfl (lv_at hl 1 rfl) ?_
      refine lv_imul hx hb dX6_keep_44 ?_
      refine lv_iload_n hx hb dX6_keep_45 rfl (lv_at hl 3 rfl) ?_
      refine lv_iadd hx hb dX6_keep_46 ?_
      refine lv_aload_n hx hb dX6_keep_47 rfl (lv_at hl 0 rfl) ?_
      refine kget C inX6 hP 0 rfl rfl 0 (by decide) mw_687 rfl dX6_keep_48 ?_
      refine lv_iload_n hx hb dX6_keep_51 rfl (lv_at hl 3 rfl) ?_
      obtain ⟨hin, hf⟩ := gd_some hf
      refine kiald C hP 1 rfl hin dX6_keep_52 (j := y3.toNatClampNeg) rfl ?_
      obtain ⟨hin, hf⟩ := gd_some hf
      obtain ⟨v_kept_53, hn53, hf⟩ := nm_some hf
      refine kiast C hP hD hS 2 rfl hin dX6_keep_53 (j := (((831 : Int32) * y1) + y3).toNatClampNeg) rfl (g := v_kept_53) hn53 (w2 := (wX6_keep k h0 h1 h2 h3 z0 z1 z2 z3 z4 z5 z6 z7 z8 z9 z10 z11 z12 z13 z14 z15 z16 v_page v_kept_53 v_isKept)) rfl (fun H locs hP hD hS => ?_)
      refine lv_iinc (v := (y3 + (1 : Int32))) (lv' := [(3, .int (y3 + (1 : Int32))), (0, .ref h0), (1, .int y1), (2, .int y2)]) hx hb dX6_keep_54 hl (k := 3) rfl rfl (by decide) rfl (fun ls hl => ?_)
      refine lv_goto (tgt := 29) hx hb dX6_keep_57 (by decide) ?_
      exact ih v_kept_53 (y3 + (1 : Int32)) _ _ _ _ hf hP hD hS (lv_sub hl [1, 2, 3, 0] rfl) hk
set_option maxHeartbeats 4000000 in
set_option maxRecDepth 100000 in
theorem kX6_keep {l : Launch} {D : va_G} {k : Nat → ClassId} (h0 h1 h2 h3 : Nat) (z0 z1 z2 z3 z4 z5 z6 z7 z8 z9 z10 z11 z12 z13 z14 z15 z16 : Value) (v_page : Nat → Int32) (v_kept : Nat → Int32) (v_isKept : Nat → Int32) (x1 : Int32) (q : Int32 × (Nat → Int32) × (Nat → Int32)) (hf : fX6_keep v_page v_kept v_isKept x1 = some q) : KMi l yX6_keep cX6_keep 4 (some .int) ({ frames := 1, cells := 0, slots := 0, locals := 25 } : Room) D k [.ref h0, .int x1] (wX6_keep k h0 h1 h2 h3 z0 z1 z2 z3 z4 z5 z6 z7 z8 z9 z10 z11 z12 z13 z14 z15 z16 v_page v_kept v_isKept) q.1 (wX6_keep k h0 h1 h2 h3 z0 z1 z2 z3 z4 z5 z6 z7 z8 z9 z10 z11 z12 z13 z14 z15 z16 v_page q.2.1 q.2.2) := by
  refine kent_i (by decide) (Nat.le_of_ble_eq_true rfl) ?_
  intro p e s m below meth c A Q ls C hP hD hS hl hret
  obtain ⟨hx, hb, -⟩ := id C
  have hl : lv_has ls 4 [(0, .ref h0), (1, .int x1)] := hl
  unfold fX6_keep at hf
  generalize ([.ref h0, .int x1] : List Value).toArray = args at *
  refine lv_iload_n hx hb dX6_keep_0 rfl (lv_at hl 1 rfl) ?_
  refine lv_i2l (v := (x1.toInt64)) hx hb dX6_keep_1 rfl ?_
  refine lv_lconst (v := (0 : Int64)) hx hb dX6_keep_2 (by decide) ?_
  refine lv_lconst (v := (1 : Int64)) hx hb dX6_keep_3 (by decide) ?_
  obtain ⟨q4, hq4, hf⟩ := bd_some hf
  refine kcSi C (kX6_in (l := l) (D := D) (k := k) (x1.toInt64) (0 : Int64) (1 : Int64) q4 hq4) mt_X6_in mw_753 ⟨rfl, rfl, Nat.le_of_ble_eq_true rfl, Nat.le_of_ble_eq_true rfl⟩ hP hD hS [] rfl rfl [none, none, none, none] rfl rfl (w2 := (wX6_keep k h0 h1 h2 h3 z0 z1 z2 z3 z4 z5 z6 z7 z8 z9 z10 z11 z12 z13 z14 z15 z16 v_page v_kept v_isKept)) rfl rfl rfl hl.1 (rest := []) (Nat.le_of_ble_eq_true rfl) rfl dX6_keep_4 ⟨Nat.zero_le _, Nat.zero_le _⟩ (fun H locs hP hD hS => ?_)
  refine lv_if_ne (tgt := 12) hx hb dX6_keep_7 (by decide) (fun hc => ?_) (fun hc => ?_)
  · rw [if_neg hc] at hf
    refine lv_aload_n hx hb dX6_keep_12 rfl (lv_at hl 0 rfl) ?_
    refine kget C inX6 hP 0 rfl rfl 3 (by decide) mw_690 rfl dX6_keep_13 ?_
    refine lv_iload_n hx hb dX6_keep_16 rfl (lv_at hl 1 rfl) ?_
    obtain ⟨hin, hf⟩ := gd_some hf
    refine kzald C hP 3 rfl hin dX6_keep_17 (j := x1.toNatClampNeg) rfl ?_
    obtain ⟨v26, hv26, hf⟩ := bd_some hf
    have hj26 : ∀ (H : Heap) (locs : List Loc) (ls : Array Slot), va_P D vwCl (wX6_keep k h0 h1 h2 h3 z0 z1 z2 z3 z4 z5 z6 z7 z8 z9 z10 z11 z12 z13 z14 z15 z16 v_page v_kept v_isKept) H → va_D A (wX6_keep k h0 h1 h2 h3 z0 z1 z2 z3 z4 z5 z6 z7 z8 z9 z10 z11 z12 z13 z14 z15 z16 v_page v_kept v_isKept) → va_S A s.heap H locs → lv_has ls 4 [(0, .ref h0), (1, .int x1)] → W p l e ({ frames := 1, cells := 0, slots := 0, locals := 25 } : Room) s m args below meth c H locs 0 0 Q (F0 m 26 ls [.int v26]) := by
      intro H locs ls hP hD hS hl
      refine lv_istore_n (lv' := [(2, .int v26), (0, .ref h0), (1, .int x1)]) hx hb dX6_keep_26 rfl hl (by decide) rfl (fun ls hl => ?_)
      refine lv_iconst (v := (0 : Int32)) hx hb dX6_keep_27 (by decide) ?_
      refine lv_istore_n (lv' := [(3, .int (0 : Int32)), (2, .int v26), (0, .ref h0), (1, .int x1)]) hx hb dX6_keep_28 rfl hl (by decide) rfl (fun ls hl => ?_)
      obtain ⟨ex29, hv, hf⟩ := bd_some hf
      refine wX6_keep_29 C h0 h1 h2 h3 z0 z1 z2 z3 z4 z5 z6 z7 z8 z9 z10 z11 z12 z13 z14 z15 z16 v_page v_isKept x1 v26 FU v_kept (0 : Int32) ex29 _ _ _ hv hP hD hS (lv_sub hl [2, 3, 1, 0] rfl) (fun H locs ls hP hD hS hl => ?_)
      refine lv_aload_n hx hb dX6_keep_60 rfl (lv_at hl 0 rfl) ?_
      refine kget C inX6 hP 0 rfl rfl 3 (by decide) mw_690 rfl dX6_keep_61 ?_
      refine lv_iload_n hx hb dX6_keep_64 rfl (lv_at hl 1 rfl) ?_
      refine lv_iconst (v := (1 : Int32)) hx hb dX6_keep_65 (by decide) ?_
      obtain ⟨hin, hf⟩ := gd_some hf
      obtain ⟨v_isKept_66, hn66, hf⟩ := nm_some hf
      refine kzast C hP hD hS 3 rfl hin dX6_keep_66 (j := x1.toNatClampNeg) rfl (g := v_isKept_66) hn66 (w2 := (wX6_keep k h0 h1 h2 h3 z0 z1 z2 z3 z4 z5 z6 z7 z8 z9 z10 z11 z12 z13 z14 z15 z16 v_page ex29 v_isKept_66)) rfl (fun H locs hP hD hS => ?_)
      refine lv_iload_n hx hb dX6_keep_67 rfl (lv_at hl 2 rfl) ?_
      obtain rfl := Option.some.inj hf
      exact hret _ _ _ _ dX6_keep_68 hP hS
    clear hf
    have hf := hv26
    refine lv_if_eq (tgt := 25) hx hb dX6_keep_18 (by decide) (fun hc => ?_) (fun hc => ?_)
    · rw [if_pos hc] at hf
      refine lv_iconst (v := (0 : Int32)) hx hb dX6_keep_25 (by decide) ?_
      obtain rfl := Option.some.inj hf
      exact hj26 _ _ _ hP hD hS (lv_sub hl [0, 1] rfl)
    · rw [if_neg hc] at hf
      refine lv_iconst (v := (1 : Int32)) hx hb dX6_keep_21 (by decide) ?_
      refine lv_goto (tgt := 26) hx hb dX6_keep_22 (by decide) ?_
      obtain rfl := Option.some.inj hf
      exact hj26 _ _ _ hP hD hS (lv_sub hl [0, 1] rfl)
  · rw [if_pos hc] at hf
    refine lv_iconst (v := (-1 : Int32)) hx hb dX6_keep_10 (by decide) ?_
    obtain rfl := Option.some.inj hf
    exact hret _ _ _ _ dX6_keep_11 hP hS
set_option maxHeartbeats 4000000 in
set_option maxRecDepth 100000 in
theorem wX6_back_26 {p : Program} {l : Launch} {e : Env} {s : State} {m : MethodId} {args : Array Value} {below : List Frame} {meth : Method} {c : Code} {A : Nat → Prop} {Q : State → Prop} {D : va_G} {k : Nat → ClassId} (C : Cx p s m args c cX6_back 3 RX6 A D k) (h0 h1 h2 h3 : Nat) (z0 z1 z2 z3 z4 z5 z6 z7 z8 z9 z10 z11 z12 z13 z14 z15 z16 : Value) (v_kept : Nat → Int32) (v_isKept : Nat → Int32) (y1 : Int32) : ∀ (f : Nat) (v_page : Nat → Int32) (y2 : Int32) (ex : ((Nat → Int32))) (H : Heap) (locs : List Loc) (ls : Array Slot), fX6_back_26 v_kept y1 f v_page y2 = some ex → va_P D vwCl (wX6_back k h0 h1 h2 h3 z0 z1 z2 z3 z4 z5 z6 z7 z8 z9 z10 z11 z12 z13 z14 z15 z16 v_page v_kept v_isKept) H → va_D A (wX6_back k h0 h1 h2 h3 z0 z1 z2 z3 z4 z5 z6 z7 z8 z9 z10 z11 z12 z13 z14 z15 z16 v_page v_kept v_isKept) → va_S A s.heap H locs → lv_has ls 3 [(0, .ref h0), (1, .int y1), (2, .int y2)] → (∀ (H : Heap) (locs : List Loc) (ls : Array Slot), va_P D vwCl (wX6_back k h0 h1 h2 h3 z0 z1 z2 z3 z4 z5 z6 z7 z8 z9 z10 z11 z12 z13 z14 z15 z16 ex v_kept v_isKept) H → va_D A (wX6_back k h0 h1 h2 h3 z0 z1 z2 z3 z4 z5 z6 z7 z8 z9 z10 z11 z12 z13 z14 z15 z16 ex v_kept v_isKept) → va_S A s.heap H locs → lv_has ls 3 [(0, .ref h0)] → W p l e ({ frames := 1, cells := 0, slots := 0, locals := 25 } : Room) s m args below meth c H locs 0 0 Q (F0 m 57 ls [])) → W p l e ({ frames := 1, cells := 0, slots := 0, locals := 25 } : Room) s m args below meth c H locs 0 0 Q (F0 m 26 ls []) := by
  obtain ⟨hx, hb, -⟩ := id C
  intro f
  induction f with
  | zero =>
    intro v_page y2 ex H locs ls hf hP hD hS hl hk
    cases hf
  | succ f ih =>
    intro v_page y2 ex H locs ls hf hP hD hS hl hk
    rw [fX6_back_26] at hf
    refine lv_iload_n hx hb dX6_back_26 rfl (lv_at hl 2 rfl) ?_
    refine lv_sipush (v := (831 : Int32)) hx hb dX6_back_27 (by decide) ?_
    refine lv_icmp_ge (tgt := 57) hx hb dX6_back_30 (by decide) (fun hc => ?_) (fun hc => ?_)
    · rw [if_pos hc] at hf
      obtain rfl := Option.some.inj hf
      exact hk _ _ _ hP hD hS (lv_sub hl [0] rfl)
    · rw [if_neg hc] at hf
      refine lv_aload_n hx hb dX6_back_33 rfl (lv_at hl 0 rfl) ?_
      refine kget C inX6 hP 0 rfl rfl 0 (by decide) mw_687 rfl dX6_back_34 ?_
      refine lv_iload_n hx hb dX6_back_37 rfl (lv_at hl 2 rfl) ?_
      refine lv_aload_n hx hb dX6_back_38 rfl (lv_at hl 0 rfl) ?_
      refine kget C inX6 hP 0 rfl rfl 2 (by decide) mw_689 rfl dX6_back_39 ?_
      refine lv_sipush (v := (831 : Int32)) hx hb dX6_back_42 (by decide) ?_
      refine lv_iload_n hx hb dX6_back_45 rfl (lv_at hl 1 rfl) ?_
      refine lv_imul hx hb dX6_back_46 ?_
      refine lv_iload_n hx hb dX6_back_47 rfl (lv_at hl 2 rfl) ?_
      refine lv_iadd hx hb dX6_back_48 ?_
      obtain ⟨hin, hf⟩ := gd_some hf
      refine kiald C hP 2 rfl hin dX6_back_49 (j := (((831 : Int32) * y1) + y2).toNatClampNeg) rfl ?_
      obtain ⟨hin, hf⟩ := gd_some hf
      obtain ⟨v_page_50, hn50, hf⟩ := nm_some hf
      refine kiast C hP hD hS 1 rfl hin dX6_back_50 (j := y2.toNatClampNeg) rfl (g := v_page_50) hn50 (w2 := (wX6_back k h0 h1 h2 h3 z0 z1 z2 z3 z4 z5 z6 z7 z8 z9 z10 z11 z12 z13 z14 z15 z16 v_page_50 v_kept v_isKept)) rfl (fun H locs hP hD hS => ?_)
      refine lv_iinc (v := (y2 + (1 : Int32))) (lv' := [(2, .int (y2 + (1 : Int32))), (0, .ref h0), (1, .int y1)]) hx hb dX6_back_51 hl (k := 2) rfl rfl (by decide) rfl (fun ls hl => ?_)
      refine lv_goto (tgt := 26) hx hb dX6_back_54 (by decide) ?_
      exact ih v_page_50 (y2 + (1 : Int32)) _ _ _ _ hf hP hD hS (lv_sub hl [1, 2, 0] rfl) hk
set_option maxHeartbeats 4000000 in
set_option maxRecDepth 100000 in
theorem kX6_back {l : Launch} {D : va_G} {k : Nat → ClassId} (h0 h1 h2 h3 : Nat) (z0 z1 z2 z3 z4 z5 z6 z7 z8 z9 z10 z11 z12 z13 z14 z15 z16 : Value) (v_page : Nat → Int32) (v_kept : Nat → Int32) (v_isKept : Nat → Int32) (x1 : Int32) (q : Int32 × (Nat → Int32)) (hf : fX6_back v_page v_kept v_isKept x1 = some q) : KMi l yX6_back cX6_back 3 (some .int) ({ frames := 1, cells := 0, slots := 0, locals := 25 } : Room) D k [.ref h0, .int x1] (wX6_back k h0 h1 h2 h3 z0 z1 z2 z3 z4 z5 z6 z7 z8 z9 z10 z11 z12 z13 z14 z15 z16 v_page v_kept v_isKept) q.1 (wX6_back k h0 h1 h2 h3 z0 z1 z2 z3 z4 z5 z6 z7 z8 z9 z10 z11 z12 z13 z14 z15 z16 q.2 v_kept v_isKept) := by
  refine kent_i (by decide) (Nat.le_of_ble_eq_true rfl) ?_
  intro p e s m below meth c A Q ls C hP hD hS hl hret
  obtain ⟨hx, hb, -⟩ := id C
  have hl : lv_has ls 3 [(0, .ref h0), (1, .int x1)] := hl
  unfold fX6_back at hf
  generalize ([.ref h0, .int x1] : List Value).toArray = args at *
  refine lv_iload_n hx hb dX6_back_0 rfl (lv_at hl 1 rfl) ?_
  refine lv_i2l (v := (x1.toInt64)) hx hb dX6_back_1 rfl ?_
  refine lv_lconst (v := (0 : Int64)) hx hb dX6_back_2 (by decide) ?_
  refine lv_lconst (v := (1 : Int64)) hx hb dX6_back_3 (by decide) ?_
  obtain ⟨q4, hq4, hf⟩ := bd_some hf
  refine kcSi C (kX6_in (l := l) (D := D) (k := k) (x1.toInt64) (0 : Int64) (1 : Int64) q4 hq4) mt_X6_in mw_753 ⟨rfl, rfl, Nat.le_of_ble_eq_true rfl, Nat.le_of_ble_eq_true rfl⟩ hP hD hS [] rfl rfl [none, none, none, none] rfl rfl (w2 := (wX6_back k h0 h1 h2 h3 z0 z1 z2 z3 z4 z5 z6 z7 z8 z9 z10 z11 z12 z13 z14 z15 z16 v_page v_kept v_isKept)) rfl rfl rfl hl.1 (rest := []) (Nat.le_of_ble_eq_true rfl) rfl dX6_back_4 ⟨Nat.zero_le _, Nat.zero_le _⟩ (fun H locs hP hD hS => ?_)
  refine lv_if_ne (tgt := 12) hx hb dX6_back_7 (by decide) (fun hc => ?_) (fun hc => ?_)
  · rw [if_neg hc] at hf
    refine lv_aload_n hx hb dX6_back_12 rfl (lv_at hl 0 rfl) ?_
    refine kget C inX6 hP 0 rfl rfl 3 (by decide) mw_690 rfl dX6_back_13 ?_
    refine lv_iload_n hx hb dX6_back_16 rfl (lv_at hl 1 rfl) ?_
    obtain ⟨hin, hf⟩ := gd_some hf
    refine kzald C hP 3 rfl hin dX6_back_17 (j := x1.toNatClampNeg) rfl ?_
    refine lv_if_ne (tgt := 24) hx hb dX6_back_18 (by decide) (fun hc => ?_) (fun hc => ?_)
    · rw [if_neg hc] at hf
      refine lv_iconst (v := (0 : Int32)) hx hb dX6_back_24 (by decide) ?_
      refine lv_istore_n (lv' := [(2, .int (0 : Int32)), (0, .ref h0), (1, .int x1)]) hx hb dX6_back_25 rfl hl (by decide) rfl (fun ls hl => ?_)
      obtain ⟨ex26, hv, hf⟩ := bd_some hf
      refine wX6_back_26 C h0 h1 h2 h3 z0 z1 z2 z3 z4 z5 z6 z7 z8 z9 z10 z11 z12 z13 z14 z15 z16 v_kept v_isKept x1 FU v_page (0 : Int32) ex26 _ _ _ hv hP hD hS (lv_sub hl [1, 2, 0] rfl) (fun H locs ls hP hD hS hl => ?_)
      refine lv_aload_n hx hb dX6_back_57 rfl (lv_at hl 0 rfl) ?_
      refine kget C inX6 hP 0 rfl rfl 0 (by decide) mw_687 rfl dX6_back_58 ?_
      refine lv_iconst (v := (3 : Int32)) hx hb dX6_back_61 (by decide) ?_
      refine kiald C hP 1 rfl (by unfold vp_in; decide) dX6_back_62 (j := 3) (by decide) ?_
      obtain rfl := Option.some.inj hf
      exact hret _ _ _ _ dX6_back_63 hP hS
    · rw [if_pos hc] at hf
      refine lv_bipush (v := (-2 : Int32)) hx hb dX6_back_21 (by decide) ?_
      obtain rfl := Option.some.inj hf
      exact hret _ _ _ _ dX6_back_23 hP hS
  · rw [if_pos hc] at hf
    refine lv_iconst (v := (-1 : Int32)) hx hb dX6_back_10 (by decide) ?_
    obtain rfl := Option.some.inj hf
    exact hret _ _ _ _ dX6_back_11 hP hS
