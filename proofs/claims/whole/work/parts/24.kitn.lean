/-! rows for constructors -/
def XN : (Nat → Prop) → State → Prop := fun _ U => va_AO RX4 U ∧ va_Nw (.methodLinkNest "SprayedLetters" 9 yX3_init "SprayedLetters") U ∧ va_Nw (.methodLinkNest "SprayedLetters$Reader" 11 yX0_init "SprayedLetters") U ∧ va_Nw (.methodLinkNest "SprayedLetters$World" 11 yX0_init "SprayedLetters") U
theorem XN_S : XS XN := fun A B s U h hW hAB hq => by
  obtain ⟨h0, h1, h2, h3⟩ := h
  exact ⟨h0.moved hW.alike, h1.warmM hW, h2.warmM hW, h3.warmM hW⟩
/-- a constructor's contract: the cells that it makes come at addresses a -/
def KMn (l : Launch) (y : MethodName) (bytes : ByteArray) (maxL : Nat) (rm : Room) (D : va_G) (k : Nat → ClassId) (av : List Value) (ws : va_W) (wf : (Nat → Nat) → va_W) (mc ms : Nat) : Prop :=
  ∀ sz, Met l y (WY y bytes maxL none) rm (KPcX XN D k av ws sz) (va_Qv (fun (_ : Nat → Nat) => True) (fun (a : Nat → Nat) (t : State) => va_P D vwCl (wf a) t.heap ∧ va_D (va_A ws sz) (wf a)) (va_A ws sz)) mc ms (va_A ws sz)
section KNE
variable {l : Launch} {D : va_G} {k : Nat → ClassId} {y : MethodName} {bytes : ByteArray} {maxL mc ms : Nat} {rm : Room} {av : List Value} {ws : va_W} {wf : (Nat → Nat) → va_W}
theorem kent_n (hy : plainName y.cls = true) (hi : y.name = "<init>") (hav : (lg_sl av).length ≤ maxL)
    (body : ∀ (p : Program) (e : Env) (s : State) (m : MethodId) (below : List Frame) (meth : Method) (c : Code) (A : Nat → Prop) (Q : State → Prop) (ls : Array Slot), Cx p s m av.toArray c bytes maxL y.cls A D k → XN A s → meth.name = "<init>" → va_P D vwCl ws s.heap → va_D A ws → va_S A s.heap s.heap [] → lv_has ls maxL (lv_args 0 av) →
      (∀ (a : Nat → Nat) (H : Heap) (locs : List Loc) (ls : Array Slot) (pc : Nat), decode bytes pc = .ok (.return_, 1) → va_P D vwCl (wf a) H → va_D A (wf a) → va_S A s.heap H locs → W p l e rm s m av.toArray below meth c H locs mc ms Q (F0 m pc ls [])) → W p l e rm s m av.toArray below meth c s.heap [] 0 0 Q (F0 m 0 ls [])) :
    KMn l y bytes maxL rm D k av ws wf mc ms := by
  intro sz
  refine Met.ofW (cc := bytes) (maxL := maxL) (ret := none) hy rfl ?_
  intro p e s m args below meth c s₁ B hml hv
  obtain ⟨rfl, ⟨hsz, hP, hK, hD0⟩, hX⟩ := hv
  subst hsz
  have hts := atoms_spec (ws := WY y bytes maxL none) B.pre
  have hown : s.vm.findClass y.cls = some m.cls := findClass_of_methodNamed B.named
  have hlocks := B.notSynchronized
  have hr := B.returns
  have hin : meth.name = "<init>" := ((name_of_methodNamed B.named B.method).1).trans hi
  have hl := lv_entry av (n := maxL) hav
  rw [lg_entry_eq]
  exact body p e s m below meth c (va_A ws s.heap.size) _ _ ⟨B.exec, B.bytes, hml, hown, fun w h => hts w (List.mem_cons_of_mem _ h), fun q h => Or.inr h, hK⟩ hX hin hP (hD0.self (sz := s.heap.size)) va_S.rf hl (fun a H locs ls pc hdg hP9 hD9 hS9 => W.vret B.exec B.bytes hr (fun t ht hW => ⟨⟨a, rfl, trivial, by show va_P D vwCl (wf a) t.heap; rw [ht]; exact hP9, hD9⟩, hS9.F ht⟩) hS9.2.2 hdg)
end KNE
section KN
variable {p : Program} {l : Launch} {e : Env} {R : Room} {s : State} {m : MethodId} {args : Array Value} {below : List Frame} {meth : Method} {c : Code} {H : Heap} {locs : List Loc} {cells slots : Nat} {Q : State → Prop}
variable {cc : ByteArray} {nL pc : Nat} {own : String} {A : Nat → Prop} {D : va_G} {k : Nat → ClassId} {ws : va_W} {ls : Array Slot} {rest : List Value} {a : Nat}
theorem knewI (C : Cx p s m args c cc nL own A D k) (hP : va_P D vwCl ws H) (hD : va_D A ws) (hS : va_S A s.heap H locs) {n : Int32} {N' : Nat} (hn : ¬ n < 0) (hN : n.toNatClampNeg = N') (hbytes : N' * componentBytes .int ≤ 536870912) (hcells : cells + 1 ≤ R.cells) (hslots : slots + N' ≤ R.slots) (hdg : decode cc pc = .ok (.newarray .int, 2))
    (kk : ∀ (q : Nat) (H1 : Heap), va_P D vwCl (ws ++ [(q, .inl (k 0, N', .inl (fun _ => 0)))]) H1 → va_D A (ws ++ [(q, .inl (k 0, N', .inl (fun _ => 0)))]) → va_S A s.heap H1 locs → W p l e R s m args below meth c H1 locs (cells + 1) (slots + N') Q (F0 m (pc + 2) ls (.ref q :: rest))) : W p l e R s m args below meth c H locs cells slots Q (F0 m pc ls (.int n :: rest)) := by
  obtain ⟨hx, hb, hml, hown, hts, hA, hK⟩ := id C
  refine va_newa (atype := .int) hx hb (hts _ mw_85) rfl hK hP hD hS hA (a0 := (N', .inl (fun _ => 0))) (fun cA => rfl) hn hN hbytes hcells hslots hdg (fun q cA H1 hK1 hP1 hD1 hS1 => ?_)
  have e : cA = k 0 := Option.some.inj ((hK1.2 4 _ rfl).2.symm.trans (hK.2 0 _ rfl).2)
  subst e
  exact kk q H1 hP1 hD1 hS1
theorem knewZ (C : Cx p s m args c cc nL own A D k) (hP : va_P D vwCl ws H) (hD : va_D A ws) (hS : va_S A s.heap H locs) {n : Int32} {N' : Nat} (hn : ¬ n < 0) (hN : n.toNatClampNeg = N') (hbytes : N' * componentBytes .boolean ≤ 536870912) (hcells : cells + 1 ≤ R.cells) (hslots : slots + N' ≤ R.slots) (hdg : decode cc pc = .ok (.newarray .boolean, 2))
    (kk : ∀ (q : Nat) (H1 : Heap), va_P D vwCl (ws ++ [(q, .inl (k 1, N', .inl (fun _ => 0)))]) H1 → va_D A (ws ++ [(q, .inl (k 1, N', .inl (fun _ => 0)))]) → va_S A s.heap H1 locs → W p l e R s m args below meth c H1 locs (cells + 1) (slots + N') Q (F0 m (pc + 2) ls (.ref q :: rest))) : W p l e R s m args below meth c H locs cells slots Q (F0 m pc ls (.int n :: rest)) := by
  obtain ⟨hx, hb, hml, hown, hts, hA, hK⟩ := id C
  refine va_newa (atype := .boolean) hx hb (hts _ mw_213) rfl hK hP hD hS hA (a0 := (N', .inl (fun _ => 0))) (fun cA => rfl) hn hN hbytes hcells hslots hdg (fun q cA H1 hK1 hP1 hD1 hS1 => ?_)
  have e : cA = k 1 := Option.some.inj ((hK1.2 4 _ rfl).2.symm.trans (hK.2 1 _ rfl).2)
  subst e
  exact kk q H1 hP1 hD1 hS1
theorem knewB (C : Cx p s m args c cc nL own A D k) (hP : va_P D vwCl ws H) (hD : va_D A ws) (hS : va_S A s.heap H locs) {n : Int32} {N' : Nat} (hn : ¬ n < 0) (hN : n.toNatClampNeg = N') (hbytes : N' * componentBytes .byte ≤ 536870912) (hcells : cells + 1 ≤ R.cells) (hslots : slots + N' ≤ R.slots) (hdg : decode cc pc = .ok (.newarray .byte, 2))
    (kk : ∀ (q : Nat) (H1 : Heap), va_P D vwCl (ws ++ [(q, .inl (k 2, N', .inl (fun _ => 0)))]) H1 → va_D A (ws ++ [(q, .inl (k 2, N', .inl (fun _ => 0)))]) → va_S A s.heap H1 locs → W p l e R s m args below meth c H1 locs (cells + 1) (slots + N') Q (F0 m (pc + 2) ls (.ref q :: rest))) : W p l e R s m args below meth c H locs cells slots Q (F0 m pc ls (.int n :: rest)) := by
  obtain ⟨hx, hb, hml, hown, hts, hA, hK⟩ := id C
  refine va_newa (atype := .byte) hx hb (hts _ mw_39) rfl hK hP hD hS hA (a0 := (N', .inl (fun _ => 0))) (fun cA => rfl) hn hN hbytes hcells hslots hdg (fun q cA H1 hK1 hP1 hD1 hS1 => ?_)
  have e : cA = k 2 := Option.some.inj ((hK1.2 4 _ rfl).2.symm.trans (hK.2 2 _ rfl).2)
  subst e
  exact kk q H1 hP1 hD1 hS1
theorem knewQ (C : Cx p s m args c cc nL own A D k) (hX : XN A s) {index : Nat} (hcl : Cond.classLink own index RX4 ∈ TB) (hP : va_P D vwCl ws H) (hD : va_D A ws) (hS : va_S A s.heap H locs) {n : Int32} {N' : Nat} (hn : ¬ n < 0) (hN : n.toNatClampNeg = N') (hbytes : N' * 4 ≤ 536870912) (hcells : cells + 1 ≤ R.cells) (hslots : slots + N' ≤ R.slots) (hdg : decode cc pc = .ok (.anewarray index, 3))
    (kk : ∀ (q : Nat) (H1 : Heap), va_P D vwCl (ws ++ [(q, .inl (k 3, N', .inr (.inr (.inr (.inr (fun _ => none))))))]) H1 → va_D A (ws ++ [(q, .inl (k 3, N', .inr (.inr (.inr (.inr (fun _ => none))))))]) → va_S A s.heap H1 locs → W p l e R s m args below meth c H1 locs (cells + 1) (slots + N') Q (F0 m (pc + 3) ls (.ref q :: rest))) : W p l e R s m args below meth c H locs cells slots Q (F0 m pc ls (.int n :: rest)) := by
  obtain ⟨hx, hb, hml, hown, hts, hA, hK⟩ := id C
  refine va_newq hx hb hown (hts _ hcl) hX.1 hK hP hD hS hA hn hN hbytes hcells hslots hdg (fun q cA H1 hK1 hP1 hD1 hS1 => ?_)
  obtain ⟨_, _, _, _, _, f1⟩ := (hK1.2 4 _ rfl).2
  obtain ⟨_, _, _, _, _, f2⟩ := (hK.2 3 _ rfl).2
  have e : cA = k 3 := Option.some.inj (f1.symm.trans f2)
  subst e
  exact kk q H1 hP1 hD1 hS1
theorem knew (C : Cx p s m args c cc nL own A D k) {Cn : String} {T : u_T} {N ci index : Nat} (hin : ∀ w ∈ u_ws Cn T N, w ∈ TB) {ty0 : Nat → FieldType} (hty : ∀ k, k < N → parseFieldDescriptor (T k).2.2.1 = some (ty0 k)) (w1 : Cond.classLink own index Cn ∈ TB) (w2 : Cond.instantiable Cn N ∈ TB) (w3 : Cond.initialized Cn ∈ TB) (hP : va_P D vwCl ws H) (hD : va_D A ws) (hS : va_S A s.heap H locs) (hc : vwCl[ci]? = some (Cn, T, N)) {fs : List Value} (hfs : ∀ j, j < N → defaultValue (ty0 j) = vp_V fs j) (hcells : cells + 1 ≤ R.cells) (hslots : slots + N ≤ R.slots) (hdg : decode cc pc = .ok (.new index, 3))
    (kk : ∀ (q : Nat) (H1 : Heap), va_P D vwCl (ws ++ [(q, .inr (ci, fs))]) H1 → va_D A (ws ++ [(q, .inr (ci, fs))]) → va_S A s.heap H1 locs → W p l e R s m args below meth c H1 locs (cells + 1) (slots + N) Q (F0 m (pc + 3) ls (.ref q :: rest))) : W p l e R s m args below meth c H locs cells slots Q (F0 m pc ls rest) := by
  obtain ⟨hx, hb, hml, hown, hts, hA, hK⟩ := id C
  exact va_new hx hb hts hin ty0 hty hown (hts _ w1) (hts _ w2) (hts _ w3) hK hP hD hS hA hc hfs hcells hslots hdg kk
theorem kputF (C : Cx p s m args c cc nL own A D k) (hi : meth.name = "<init>") {Cn : String} {T : u_T} {N ci index : Nat} (hin : ∀ w ∈ u_ws Cn T N, w ∈ TB) {ty0 : Nat → FieldType} (hty : ∀ k, k < N → parseFieldDescriptor (T k).2.2.1 = some (ty0 k)) (hnm : ∀ a, a < N → ∀ b, b < N → a ≠ b → (T a).2.1 ≠ (T b).2.1) (hP : va_P D vwCl ws H) (hD : va_D A ws) (hS : va_S A s.heap H locs) (q0 : Nat) {fs : List Value} (he : ws[q0]? = some (a, .inr (ci, fs))) (hc : vwCl[ci]? = some (Cn, T, N)) (j : Nat) (hj : j < N) (hlink : Cond.fieldLink own index (T j).1 (T j).2.1 (T j).2.2.1 ∈ TB) (hfin : (T j).2.2.2 = true) (hdecl : (T j).1 = own) {v : Value} (hn : narrow (ty0 j) v = v) (hfit : fits (ty0 j) v = true) (hl : j < fs.length) (hdg : decode cc pc = .ok (.putfield index, 3)) {w2 : va_W} (hw2 : ws.set q0 (a, .inr (ci, fs.set j v)) = w2)
    (kk : ∀ (H1 : Heap) (locs1 : List Loc), va_P D vwCl w2 H1 → va_D A w2 → va_S A s.heap H1 locs1 → W p l e R s m args below meth c H1 locs1 cells slots Q (F0 m (pc + 3) ls rest)) : W p l e R s m args below meth c H locs cells slots Q (F0 m pc ls (v :: .ref a :: rest)) := by
  subst hw2
  exact va_putF C.1 C.2.1 C.2.2.2.2.1 hin ty0 hty hnm C.2.2.2.1 C.2.2.2.2.2.2 hP hD hS q0 he hc j hj (C.2.2.2.2.1 _ hlink) (fun _ h => h) hfin hi hdecl (hty j hj) hn hfit hl hdg kk
theorem kcN (C : Cx p s m args c cc nL own A D k) (hX : XN A s) {y : MethodName} {bytes : ByteArray} {maxL n mc ms : Nat} {rm : Room} {b : Nat} {As : List Value} {wc : va_W} {wf : (Nat → Nat) → va_W} (hM : KMn l y bytes maxL rm D k (.ref b :: As) wc wf mc ms) {index : Nat} (m2 : Cond.instanceMethod y ∈ TB) (m4 : Cond.initialized y.cls ∈ TB) (m5 : Cond.code y bytes maxL none ∈ TB) (m1 : Cond.methodLink own index y ∈ TB) (hy1 : y.name = "<init>") (hd : y.cls ≠ "java/lang/invoke/MethodHandle" ∧ y.cls ≠ "java/lang/invoke/VarHandle" ∧ (parseMethodDescriptor y.desc).map (fun d => d.parameters.length) = some n) (hrm : rm.cells = mc ∧ rm.slots = ms ∧ rm.frames + 1 ≤ R.frames ∧ 8 + (maxL + 11) + rm.locals ≤ R.locals)
    (hP : va_P D vwCl ws H) (hD : va_D A ws) (hS : va_S A s.heap H locs) (is : List Nat) (hC : is.map (fun i => ws[i]?) = wc.map some) (hnd : va_nd is = true) (isR : List Nat) {wr : va_W} (hR : isR.map (fun i => ws[i]?) = wr.map some) (hnR : va_nd isR = true) (hdis : ∀ i ∈ isR, i ∉ is)
    (hn : As.length = n) (hls : ls.size = nL) (hroom : (rest.map fun v => v.category).sum ≤ 8) {st : List Value} (hst : st = As.reverse ++ .ref b :: rest) (hdg : decode cc pc = .ok (.invokespecial index, 3)) (hcs : cells + mc ≤ R.cells ∧ slots + ms ≤ R.slots)
    (kk : ∀ (a : Nat → Nat) (H1 : Heap) (locs1 : List Loc), va_P D vwCl (wr ++ wf a) H1 → va_D A (wr ++ wf a) → va_S A s.heap H1 locs1 → W p l e R s m args below meth c H1 locs1 (cells + mc) (slots + ms) Q (F0 m (pc + 3) ls rest)) : W p l e R s m args below meth c H locs cells slots Q (F0 m pc ls st) := by
  obtain ⟨hx, hb, hml, hown, hts, hA, hK⟩ := id C
  subst hst
  have hDc : va_D A wc := hD.sub is hnd hC
  have hPc : va_P D vwCl wc H := P_of hP hC
  have hFc := va_free (wc := wc) hD hS hA is hC
  refine va_callv (va_runI (As := As) (rest := rest) ⟨hx, hb, hml, hown, hts⟩ (hM H.size) ⟨callB_of n hts (good_wy m5) rfl hrm.1 hrm.2.1 (hts _ m4) (hts _ m1) hd hrm.2.2, hy1, hts _ m2⟩ ⟨kblindX XN_S, fun U hU hW => ⟨rfl, ⟨by rw [hU], by rw [hU]; exact hPc, va_K.moved hW.alike hK, hDc.weaken (fun _ _ _ _ => trivial)⟩, XN_S A _ s U hX hW hFc (fun q h1 h2 => by rw [hU]; exact hS.2.1 q h1 h2)⟩⟩ rfl hn hls rfl (lv_room hroom) hdg hcs) hS (fun q _ h => hFc q h) hFc (fun u t H1 locs1 ht hvm hw hB hz1 hk1 hS1 => ?_)
  obtain ⟨hP1, hD1⟩ := hB
  rw [ht] at hP1
  obtain ⟨hP2, hD2⟩ := va_join (wr := wr) (w1 := wf u) hP hD is isR hC hR hnR hdis hk1 hFc hP1 hD1
  exact kk u H1 locs1 hP2 hD2 hS1
theorem kcNN (C : Cx p s m args c cc nL own A D k) (hX : XN A s) {y : MethodName} {bytes : ByteArray} {maxL n mc ms : Nat} {rm : Room} {b : Nat} {As : List Value} {wc : va_W} {wf : (Nat → Nat) → va_W} (hM : KMn l y bytes maxL rm D k (.ref b :: As) wc wf mc ms) {index : Nat} (m2 : Cond.instanceMethod y ∈ TB) (m4 : Cond.initialized y.cls ∈ TB) (m5 : Cond.code y bytes maxL none ∈ TB) {host : String} (m1 : va_Nw (.methodLinkNest own index y host) s) (hy1 : y.name = "<init>") (hd : y.cls ≠ "java/lang/invoke/MethodHandle" ∧ y.cls ≠ "java/lang/invoke/VarHandle" ∧ (parseMethodDescriptor y.desc).map (fun d => d.parameters.length) = some n) (hrm : rm.cells = mc ∧ rm.slots = ms ∧ rm.frames + 1 ≤ R.frames ∧ 8 + (maxL + 11) + rm.locals ≤ R.locals)
    (hP : va_P D vwCl ws H) (hD : va_D A ws) (hS : va_S A s.heap H locs) (is : List Nat) (hC : is.map (fun i => ws[i]?) = wc.map some) (hnd : va_nd is = true) (isR : List Nat) {wr : va_W} (hR : isR.map (fun i => ws[i]?) = wr.map some) (hnR : va_nd isR = true) (hdis : ∀ i ∈ isR, i ∉ is)
    (hn : As.length = n) (hls : ls.size = nL) (hroom : (rest.map fun v => v.category).sum ≤ 8) {st : List Value} (hst : st = As.reverse ++ .ref b :: rest) (hdg : decode cc pc = .ok (.invokespecial index, 3)) (hcs : cells + mc ≤ R.cells ∧ slots + ms ≤ R.slots)
    (kk : ∀ (a : Nat → Nat) (H1 : Heap) (locs1 : List Loc), va_P D vwCl (wr ++ wf a) H1 → va_D A (wr ++ wf a) → va_S A s.heap H1 locs1 → W p l e R s m args below meth c H1 locs1 (cells + mc) (slots + ms) Q (F0 m (pc + 3) ls rest)) : W p l e R s m args below meth c H locs cells slots Q (F0 m pc ls st) := by
  obtain ⟨hx, hb, hml, hown, hts, hA, hK⟩ := id C
  subst hst
  have hDc : va_D A wc := hD.sub is hnd hC
  have hPc : va_P D vwCl wc H := P_of hP hC
  have hFc := va_free (wc := wc) hD hS hA is hC
  refine va_callv (va_runIN (As := As) (rest := rest) ⟨hx, hb, hml, hown, hts⟩ (hM H.size) ⟨va_cnB n hts (good_wy m5) rfl hrm.1 hrm.2.1 m1 (hts _ m4) hd hrm.2.2, hy1, hts _ m2⟩ ⟨kblindX XN_S, fun U hU hW => ⟨rfl, ⟨by rw [hU], by rw [hU]; exact hPc, va_K.moved hW.alike hK, hDc.weaken (fun _ _ _ _ => trivial)⟩, XN_S A _ s U hX hW hFc (fun q h1 h2 => by rw [hU]; exact hS.2.1 q h1 h2)⟩⟩ rfl hn hls rfl (lv_room hroom) hdg hcs) hS (fun q _ h => hFc q h) hFc (fun u t H1 locs1 ht hvm hw hB hz1 hk1 hS1 => ?_)
  obtain ⟨hP1, hD1⟩ := hB
  rw [ht] at hP1
  obtain ⟨hP2, hD2⟩ := va_join (wr := wr) (w1 := wf u) hP hD is isR hC hR hnR hdis hk1 hFc hP1 hD1
  exact kk u H1 locs1 hP2 hD2 hS1
end KN
theorem dfX0 : ∀ j, j < 6 → defaultValue (tyX0 j) = vp_V [.null, .null, .null, .int 0, .int 0, .int 0] j := by
  intro j hj
  rcases (show j = 0 ∨ j = 1 ∨ j = 2 ∨ j = 3 ∨ j = 4 ∨ j = 5 by omega) with rfl | rfl | rfl | rfl | rfl | rfl <;> rfl
theorem dfX1 : ∀ j, j < 6 → defaultValue (tyX1 j) = vp_V [.null, .null, .null, .null, .int 0, .int 0] j := by
  intro j hj
  rcases (show j = 0 ∨ j = 1 ∨ j = 2 ∨ j = 3 ∨ j = 4 ∨ j = 5 by omega) with rfl | rfl | rfl | rfl | rfl | rfl <;> rfl
theorem dfX2 : ∀ j, j < 8 → defaultValue (tyX2 j) = vp_V [.null, .int 0, .int 0, .null, .null, .int 0, .int 0, .int 0] j := by
  intro j hj
  rcases (show j = 0 ∨ j = 1 ∨ j = 2 ∨ j = 3 ∨ j = 4 ∨ j = 5 ∨ j = 6 ∨ j = 7 by omega) with rfl | rfl | rfl | rfl | rfl | rfl | rfl | rfl <;> rfl
theorem dfX3 : ∀ j, j < 2 → defaultValue (tyX3 j) = vp_V [.null, .int 0] j := by
  intro j hj
  rcases (show j = 0 ∨ j = 1 by omega) with rfl | rfl <;> rfl
theorem dfX4 : ∀ j, j < 12 → defaultValue (tyX4 j) = vp_V [.null, .null, .null, .null, .null, .null, .null, .null, .null, .null, .null, .int 0] j := by
  intro j hj
  rcases (show j = 0 ∨ j = 1 ∨ j = 2 ∨ j = 3 ∨ j = 4 ∨ j = 5 ∨ j = 6 ∨ j = 7 ∨ j = 8 ∨ j = 9 ∨ j = 10 ∨ j = 11 by omega) with rfl | rfl | rfl | rfl | rfl | rfl | rfl | rfl | rfl | rfl | rfl | rfl <;> rfl
theorem dfX5 : ∀ j, j < 6 → defaultValue (tyX5 j) = vp_V [.null, .null, .null, .null, .null, .null] j := by
  intro j hj
  rcases (show j = 0 ∨ j = 1 ∨ j = 2 ∨ j = 3 ∨ j = 4 ∨ j = 5 by omega) with rfl | rfl | rfl | rfl | rfl | rfl <;> rfl
theorem dfX6 : ∀ j, j < 20 → defaultValue (tyX6 j) = vp_V [.null, .null, .null, .null, .null, .int 0, .int 0, .int 0, .int 0, .int 0, .int 0, .int 0, .null, .null, .int 0, .null, .int 0, .int 0, .null, .int 0] j := by
  intro j hj
  rcases (show j = 0 ∨ j = 1 ∨ j = 2 ∨ j = 3 ∨ j = 4 ∨ j = 5 ∨ j = 6 ∨ j = 7 ∨ j = 8 ∨ j = 9 ∨ j = 10 ∨ j = 11 ∨ j = 12 ∨ j = 13 ∨ j = 14 ∨ j = 15 ∨ j = 16 ∨ j = 17 ∨ j = 18 ∨ j = 19 by omega) with rfl | rfl | rfl | rfl | rfl | rfl | rfl | rfl | rfl | rfl | rfl | rfl | rfl | rfl | rfl | rfl | rfl | rfl | rfl | rfl <;> rfl
