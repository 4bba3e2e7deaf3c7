theorem str_recv {a : Nat} {A : Nat → Prop} {s : State} {H : Heap} {locs : List Loc} (h : va_O "java/lang/String" a A s s.heap) (hS : va_S A s.heap H locs) : ∃ cellB : Cell, H[a]? = some cellB ∧ cellB.vm.isStatics = false ∧ s.vm.findClass RJ0 = some cellB.cls := by
  obtain ⟨cell, h1, h2, h3, -⟩ := h.kept hS.2.1
  exact ⟨cell, h1, h2, h3⟩
theorem shr0 (x : Int32) : x >>> ((0 : Int32) &&& 31) = x := by
  have h : ((0 : Int32) &&& 31) = 0 := by decide
  rw [h]
  apply Int32.toBitVec_inj.mp
  simp
/-- a text that stands: its object a, its bytes at v, n of them, f -/
def XStr (a v n : Nat) (f : Nat → Int32) : (Nat → Prop) → State → Prop := fun A U => va_O "java/lang/String" a A U U.heap ∧ va_OF "java/lang/String" "coder" "B" (.int 0) a A U U.heap ∧ va_OF "java/lang/String" "value" "[B" (.ref v) a A U U.heap ∧ va_T .byte v n (fun j => .int (f j)) A U U.heap ∧ va_Z "java/lang/String" "COMPACT_STRINGS" "Z" (.int 1) A U U.heap ∧ va_Zq "jdk/internal/util/Preconditions" "SIOOBE_FORMATTER" "Ljava/util/function/BiFunction;" A U U.heap
theorem XStr_S (a v n : Nat) (f : Nat → Int32) : XS (XStr a v n f) := fun A B s U h hW hAB hq => by
  obtain ⟨h1, h2, h3, h4, h5, h6⟩ := h
  exact ⟨((h1.kept hq).narrow hAB).moved hW.alike, ((h2.kept hq).narrow hAB).moved hW.alike, ((h3.kept hq).narrow hAB).moved hW.alike, ((h4.kept hq).narrow hAB).moved hW.alike, ((h5.kept hq).narrow hAB).moved hW.alike, ((h6.kept hq).narrow hAB).moved hW.alike⟩
/-- a sign of a text, as charAt gives it: itself, if it is one of ASCII -/
theorem chr_ok : ∀ n : Nat, n < 128 → (((nI n &&& 255).toUInt32 % 65536).toInt32 = nI n ∧ narrow .char (.int (nI n)) = .int (nI n)) := by decide +kernel
set_option maxHeartbeats 4000000 in
set_option maxRecDepth 100000 in
theorem kJ3_checkIndex {l : Launch} {D : va_G} {k : Nat → ClassId} (i n : Int32) (h1 : ¬ i < 0) (h2 : i < n) (v : Value) (hv : v = .null ∨ ∃ t, v = .ref t) : KMi l yJ3_checkIndex_8e157 cJ3_checkIndex_8e157 3 (some .int) ({ frames := 0, cells := 0, slots := 0, locals := 0 } : Room) D k [.int i, .int n, v] [] i [] := by
  have hl0 : (lg_sl [.int i, .int n, v]).length ≤ 3 := by rcases hv with rfl | ⟨t, rfl⟩ <;> exact Nat.le_of_ble_eq_true rfl
  refine kent_i (by decide) hl0 ?_
  intro p e s m below meth c A Q ls C hP hD hS hl hret
  obtain ⟨hx, hb, -⟩ := id C
  have hl : lv_has ls 3 [(0, .int i), (1, .int n), (2, v)] := hl
  generalize ([.int i, .int n, v] : List Value).toArray = args at *
  refine lv_iload_n hx hb dJ3_checkIndex_8e157_0 rfl (lv_at hl 0 rfl) ?_
  refine lv_if_lt (tgt := 9) hx hb dJ3_checkIndex_8e157_1 (by decide) (fun hc => absurd hc h1) (fun hc => ?_)
  refine lv_iload_n hx hb dJ3_checkIndex_8e157_4 rfl (lv_at hl 0 rfl) ?_
  refine lv_iload_n hx hb dJ3_checkIndex_8e157_5 rfl (lv_at hl 1 rfl) ?_
  refine lv_icmp_lt (tgt := 16) hx hb dJ3_checkIndex_8e157_6 (by decide) (fun hc => ?_) (fun hc => absurd h2 hc)
  refine lv_iload_n hx hb dJ3_checkIndex_8e157_16 rfl (lv_at hl 0 rfl) ?_
  exact hret _ _ _ _ dJ3_checkIndex_8e157_17 hP hS
set_option maxHeartbeats 4000000 in
set_option maxRecDepth 100000 in
theorem kJ0_checkIndex {l : Launch} {D : va_G} {k : Nat → ClassId} (a v nn : Nat) (f : Nat → Int32) (i n : Int32) (h1 : ¬ i < 0) (h2 : i < n) : KMvX (XStr a v nn f) l yJ0_checkIndex_df160 cJ0_checkIndex_df160 2 ({ frames := 1, cells := 0, slots := 0, locals := 22 } : Room) D k [.int i, .int n] [] [] := by
  refine kent_vX (by decide) (Nat.le_of_ble_eq_true rfl) ?_
  intro p e s m below meth c A Q ls C hX hP hD hS hl hret
  obtain ⟨hx, hb, -⟩ := id C
  have hl : lv_has ls 2 [(0, .int i), (1, .int n)] := hl
  generalize ([.int i, .int n] : List Value).toArray = args at *
  refine lv_iload_n hx hb dJ0_checkIndex_df160_0 rfl (lv_at hl 0 rfl) ?_
  refine lv_iload_n hx hb dJ0_checkIndex_df160_1 rfl (lv_at hl 1 rfl) ?_
  have key : ∀ v : Value, (v = .null ∨ ∃ t, v = .ref t) → va_Z "jdk/internal/util/Preconditions" "SIOOBE_FORMATTER" "Ljava/util/function/BiFunction;" v A s s.heap → W p l e ({ frames := 1, cells := 0, slots := 0, locals := 22 } : Room) s m args below meth c s.heap [] 0 0 Q (F0 m 2 ls [.int n, .int i]) := by
    intro v hv hZ
    refine va_gets hx hb hZ hS C.2.2.2.1 (C.2.2.2.2.1 _ mw_306) (fun _ h => h) dJ0_checkIndex_df160_2 ?_
    refine kcSi C (kJ3_checkIndex (l := l) (D := D) (k := k) i n h1 h2 v hv) mt_J3_checkIndex_8e157 mw_308 ⟨rfl, rfl, Nat.le_of_ble_eq_true rfl, Nat.le_of_ble_eq_true rfl⟩ hP hD hS [] rfl rfl [] rfl rfl (w2 := []) rfl rfl rfl hl.1 (rest := []) (Nat.le_of_ble_eq_true rfl) rfl dJ0_checkIndex_df160_5 ⟨Nat.zero_le _, Nat.zero_le _⟩ (fun H locs hP hD hS => ?_)
    refine lv_pop hx hb dJ0_checkIndex_df160_8 rfl ?_
    exact hret _ _ _ _ dJ0_checkIndex_df160_9 hP hS
  rcases hX.2.2.2.2.2 with hZ | ⟨t, hZ⟩
  · exact key _ (Or.inl rfl) hZ
  · exact key _ (Or.inr ⟨t, rfl⟩) hZ
set_option maxHeartbeats 4000000 in
set_option maxRecDepth 100000 in
theorem kJ1_charAt {l : Launch} {D : va_G} {k : Nat → ClassId} (a v n : Nat) (f : Nat → Int32) (i : Int32) (hn : n < 2 ^ 31) (hin : vp_in i n) (c0 : Nat) (hc0 : c0 < 128) (hf : f i.toNatClampNeg = nI c0) : KMiX (XStr a v n f) l yJ1_charAt_3b067 cJ1_charAt_3b067 2 (some .char) ({ frames := 2, cells := 0, slots := 0, locals := 43 } : Room) D k [.ref v, .int i] [] (nI c0) [] := by
  refine kent_tX (by decide) (Nat.le_of_ble_eq_true rfl) ?_
  intro p e s m below meth c A Q ls C hX hP hD hS hl hret
  obtain ⟨hx, hb, -⟩ := id C
  have hl : lv_has ls 2 [(0, .ref v), (1, .int i)] := hl
  generalize ([.ref v, .int i] : List Value).toArray = args at *
  have h1 : ¬ i < 0 := fun h => hin (Or.inl h)
  have h2 : i < Int32.ofNat n := by
    obtain ⟨j, hj, rfl⟩ := nI_of h1
    have h3 : j < n := by
      rw [← nI_clamp hj]
      exact Nat.not_le.mp fun h => hin (Or.inr h)
    exact nI_lt h3 hn
  refine lv_iload_n hx hb dJ1_charAt_3b067_0 rfl (lv_at hl 1 rfl) ?_
  refine lv_aload_n hx hb dJ1_charAt_3b067_1 rfl (lv_at hl 0 rfl) ?_
  refine va_tlen hx hb hX.2.2.2.1 hS (v := Int32.ofNat n) rfl dJ1_charAt_3b067_2 ?_
  refine kcSvX C (XStr_S a v n f) hX (kJ0_checkIndex (l := l) (D := D) (k := k) a v n f i (Int32.ofNat n) h1 h2) mt_J0_checkIndex_df160 mw_303 ⟨rfl, rfl, Nat.le_of_ble_eq_true rfl, Nat.le_of_ble_eq_true rfl⟩ hP hD hS [] rfl rfl [] rfl rfl (w2 := []) rfl rfl rfl hl.1 (rest := []) (Nat.le_of_ble_eq_true rfl) rfl dJ1_charAt_3b067_3 ⟨Nat.zero_le _, Nat.zero_le _⟩ (fun H locs hP hD hS => ?_)
  refine lv_aload_n hx hb dJ1_charAt_3b067_6 rfl (lv_at hl 0 rfl) ?_
  refine lv_iload_n hx hb dJ1_charAt_3b067_7 rfl (lv_at hl 1 rfl) ?_
  refine va_tb hx hb hX.2.2.2.1 hS hin (v := .int (nI c0)) (by show Value.int (f i.toNatClampNeg) = _; rw [hf]) dJ1_charAt_3b067_8 ?_
  refine lv_sipush (v := (255 : Int32)) hx hb dJ1_charAt_3b067_9 (by decide) ?_
  refine lv_iand hx hb dJ1_charAt_3b067_12 ?_
  refine lv_i2c (v := nI c0) hx hb dJ1_charAt_3b067_13 (chr_ok c0 hc0).1 ?_
  exact hret _ _ _ _ dJ1_charAt_3b067_14 (chr_ok c0 hc0).2 hP hS
set_option maxHeartbeats 4000000 in
set_option maxRecDepth 100000 in
theorem kJ0_isLatin1 {l : Launch} {D : va_G} {k : Nat → ClassId} (a v n : Nat) (f : Nat → Int32) : KMiX (XStr a v n f) l yJ0_isLatin1_aae02 cJ0_isLatin1_aae02 1 (some .boolean) ({ frames := 0, cells := 0, slots := 0, locals := 0 } : Room) D k [.ref a] [] 1 [] := by
  refine kent_zX (by decide) (Nat.le_of_ble_eq_true rfl) ?_
  intro p e s m below meth c A Q ls C hX hP hD hS hl hret
  obtain ⟨hx, hb, -⟩ := id C
  have hl : lv_has ls 1 [(0, .ref a)] := hl
  generalize ([.ref a] : List Value).toArray = args at *
  refine va_gets hx hb hX.2.2.2.2.1 hS C.2.2.2.1 (C.2.2.2.2.1 _ mw_290) (fun _ h => h) dJ0_isLatin1_aae02_0 ?_
  refine lv_if_eq (tgt := 17) hx hb dJ0_isLatin1_aae02_3 (by decide) (fun hc => absurd hc (by decide)) (fun hc => ?_)
  refine lv_aload_n hx hb dJ0_isLatin1_aae02_6 rfl (lv_at hl 0 rfl) ?_
  refine vk_getf hx hb hX.2.1 hS C.2.2.2.1 (C.2.2.2.2.1 _ mw_1037) (fun _ h => h) dJ0_isLatin1_aae02_7 ?_
  refine lv_if_ne (tgt := 17) hx hb dJ0_isLatin1_aae02_10 (by decide) (fun hc => absurd rfl hc) (fun hc => ?_)
  refine lv_iconst (v := (1 : Int32)) hx hb dJ0_isLatin1_aae02_13 (by decide) ?_
  refine lv_goto (tgt := 18) hx hb dJ0_isLatin1_aae02_14 (by decide) ?_
  exact hret _ _ _ _ dJ0_isLatin1_aae02_18 (Or.inr rfl) hP hS
set_option maxHeartbeats 4000000 in
set_option maxRecDepth 100000 in
theorem kJ0_coder {l : Launch} {D : va_G} {k : Nat → ClassId} (a v n : Nat) (f : Nat → Int32) : KMiX (XStr a v n f) l yJ0_coder_7d493 cJ0_coder_7d493 1 (some .byte) ({ frames := 0, cells := 0, slots := 0, locals := 0 } : Room) D k [.ref a] [] 0 [] := by
  refine kent_tX (by decide) (Nat.le_of_ble_eq_true rfl) ?_
  intro p e s m below meth c A Q ls C hX hP hD hS hl hret
  obtain ⟨hx, hb, -⟩ := id C
  have hl : lv_has ls 1 [(0, .ref a)] := hl
  generalize ([.ref a] : List Value).toArray = args at *
  refine va_gets hx hb hX.2.2.2.2.1 hS C.2.2.2.1 (C.2.2.2.2.1 _ mw_290) (fun _ h => h) dJ0_coder_7d493_0 ?_
  refine lv_if_eq (tgt := 13) hx hb dJ0_coder_7d493_3 (by decide) (fun hc => absurd hc (by decide)) (fun hc => ?_)
  refine lv_aload_n hx hb dJ0_coder_7d493_6 rfl (lv_at hl 0 rfl) ?_
  refine vk_getf hx hb hX.2.1 hS C.2.2.2.1 (C.2.2.2.2.1 _ mw_1037) (fun _ h => h) dJ0_coder_7d493_7 ?_
  refine lv_goto (tgt := 14) hx hb dJ0_coder_7d493_10 (by decide) ?_
  exact hret _ _ _ _ dJ0_coder_7d493_14 rfl hP hS
set_option maxHeartbeats 4000000 in
set_option maxRecDepth 100000 in
theorem kJ0_length {l : Launch} {D : va_G} {k : Nat → ClassId} (a v n : Nat) (f : Nat → Int32) : KMiX (XStr a v n f) l yJ0_length_8abf5 cJ0_length_8abf5 1 (some .int) ({ frames := 1, cells := 0, slots := 0, locals := 20 } : Room) D k [.ref a] [] (Int32.ofNat n) [] := by
  refine kent_iX (by decide) (Nat.le_of_ble_eq_true rfl) ?_
  intro p e s m below meth c A Q ls C hX hP hD hS hl hret
  obtain ⟨hx, hb, -⟩ := id C
  have hl : lv_has ls 1 [(0, .ref a)] := hl
  generalize ([.ref a] : List Value).toArray = args at *
  refine lv_aload_n hx hb dJ0_length_8abf5_0 rfl (lv_at hl 0 rfl) ?_
  refine vk_getf hx hb hX.2.2.1 hS C.2.2.2.1 (C.2.2.2.2.1 _ mw_1036) (fun _ h => h) dJ0_length_8abf5_1 ?_
  refine va_tlen hx hb hX.2.2.2.1 hS (v := Int32.ofNat n) rfl dJ0_length_8abf5_4 ?_
  refine lv_aload_n hx hb dJ0_length_8abf5_5 rfl (lv_at hl 0 rfl) ?_
  refine kcViX C (XStr_S a v n f) hX (kJ0_coder (l := l) (D := D) (k := k) a v n f) mt_J0_coder_7d493 mw_286 ⟨rfl, rfl, Nat.le_of_ble_eq_true rfl, Nat.le_of_ble_eq_true rfl⟩ hP hD hS (str_recv hX.1 hS) [] rfl rfl [] rfl rfl (w2 := []) rfl rfl rfl hl.1 (rest := [.int (Int32.ofNat n)]) (Nat.le_of_ble_eq_true rfl) rfl dJ0_length_8abf5_6 ⟨Nat.zero_le _, Nat.zero_le _⟩ (fun H locs hP hD hS => ?_)
  refine lv_ishr hx hb dJ0_length_8abf5_9 ?_
  have e0 : Int32.ofNat n >>> ((0 : Int32) &&& 31) = Int32.ofNat n := shr0 _
  rw [e0]
  exact hret _ _ _ _ dJ0_length_8abf5_10 hP hS
set_option maxHeartbeats 4000000 in
set_option maxRecDepth 100000 in
theorem kJ0_charAt {l : Launch} {D : va_G} {k : Nat → ClassId} (a v n : Nat) (f : Nat → Int32) (i : Int32) (hn : n < 2 ^ 31) (hin : vp_in i n) (c0 : Nat) (hc0 : c0 < 128) (hf : f i.toNatClampNeg = nI c0) : KMiX (XStr a v n f) l yJ0_charAt_5068e cJ0_charAt_5068e 2 (some .char) ({ frames := 3, cells := 0, slots := 0, locals := 64 } : Room) D k [.ref a, .int i] [] (nI c0) [] := by
  refine kent_tX (by decide) (Nat.le_of_ble_eq_true rfl) ?_
  intro p e s m below meth c A Q ls C hX hP hD hS hl hret
  obtain ⟨hx, hb, -⟩ := id C
  have hl : lv_has ls 2 [(0, .ref a), (1, .int i)] := hl
  generalize ([.ref a, .int i] : List Value).toArray = args at *
  refine lv_aload_n hx hb dJ0_charAt_5068e_0 rfl (lv_at hl 0 rfl) ?_
  refine kcViX C (XStr_S a v n f) hX (kJ0_isLatin1 (l := l) (D := D) (k := k) a v n f) mt_J0_isLatin1_aae02 mw_296 ⟨rfl, rfl, Nat.le_of_ble_eq_true rfl, Nat.le_of_ble_eq_true rfl⟩ hP hD hS (str_recv hX.1 hS) [] rfl rfl [] rfl rfl (w2 := []) rfl rfl rfl hl.1 (rest := []) (Nat.le_of_ble_eq_true rfl) rfl dJ0_charAt_5068e_1 ⟨Nat.zero_le _, Nat.zero_le _⟩ (fun H locs hP hD hS => ?_)
  refine lv_if_eq (tgt := 16) hx hb dJ0_charAt_5068e_4 (by decide) (fun hc => absurd hc (by decide)) (fun hc => ?_)
  refine lv_aload_n hx hb dJ0_charAt_5068e_7 rfl (lv_at hl 0 rfl) ?_
  refine vk_getf hx hb hX.2.2.1 hS C.2.2.2.1 (C.2.2.2.2.1 _ mw_1036) (fun _ h => h) dJ0_charAt_5068e_8 ?_
  refine lv_iload_n hx hb dJ0_charAt_5068e_11 rfl (lv_at hl 1 rfl) ?_
  refine kcSiX C (XStr_S a v n f) hX (kJ1_charAt (l := l) (D := D) (k := k) a v n f i hn hin c0 hc0 hf) mt_J1_charAt_3b067 mw_300 ⟨rfl, rfl, Nat.le_of_ble_eq_true rfl, Nat.le_of_ble_eq_true rfl⟩ hP hD hS [] rfl rfl [] rfl rfl (w2 := []) rfl rfl rfl hl.1 (rest := []) (Nat.le_of_ble_eq_true rfl) rfl dJ0_charAt_5068e_12 ⟨Nat.zero_le _, Nat.zero_le _⟩ (fun H locs hP hD hS => ?_)
  exact hret _ _ _ _ dJ0_charAt_5068e_15 (chr_ok c0 hc0).2 hP hS
