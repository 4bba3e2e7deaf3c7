/-! contracts that lean on what stands in the heap from the start and is never written: X -/
/-- what X says lasts: another state with the same tables (warmed), the cells outside A as they were, a smaller A -/
def XS (X : (Nat → Prop) → State → Prop) : Prop := ∀ (A B : Nat → Prop) (s U : State), X A s → s.WarmedH U.vm → (∀ q, B q → A q) → (∀ q : Nat, q < s.heap.size → ¬ A q → U.heap[q]? = s.heap[q]?) → X B U
def KPcX (X : (Nat → Prop) → State → Prop) (D : va_G) (k : Nat → ClassId) (av : List Value) (ws : va_W) (sz : Nat) : Array Value → State → Prop := va_Pc av (fun U => (U.heap.size = sz ∧ va_P D vwCl ws U.heap ∧ va_K D vwCl (tyK k) U ∧ va_D (fun _ => True) ws) ∧ X (va_A ws sz) U)
def KMiX (X : (Nat → Prop) → State → Prop) (l : Launch) (y : MethodName) (bytes : ByteArray) (maxL : Nat) (ret : Option FieldType) (rm : Room) (D : va_G) (k : Nat → ClassId) (av : List Value) (ws : va_W) (r : Int32) (ws' : va_W) : Prop :=
  ∀ sz, Met l y (WY y bytes maxL ret) rm (KPcX X D k av ws sz) (KQi D r ws ws' sz) 0 0 (va_A ws sz)
def KMvX (X : (Nat → Prop) → State → Prop) (l : Launch) (y : MethodName) (bytes : ByteArray) (maxL : Nat) (rm : Room) (D : va_G) (k : Nat → ClassId) (av : List Value) (ws : va_W) (ws' : va_W) : Prop :=
  ∀ sz, Met l y (WY y bytes maxL none) rm (KPcX X D k av ws sz) (KQv D ws ws' sz) 0 0 (va_A ws sz)
theorem kblindX {X : (Nat → Prop) → State → Prop} (hXS : XS X) {D : va_G} {k : Nat → ClassId} {av : List Value} {ws : va_W} {sz : Nat} : FrameBlind (KPcX X D k av ws sz) := fun a U g mk q => by
  obtain ⟨q0, ⟨q1, qP, qK, qD⟩, qX⟩ := q
  exact ⟨q0, ⟨q1, qP, va_K.moved (u := U) (U := U.calling g mk a) (Vm.Alike.refl U.vm) qK, qD⟩, hXS _ _ U (U.calling g mk a) qX (State.WarmedH.refl U) (fun _ h => h) (fun _ _ _ => rfl)⟩
section KRX
variable {p : Program} {l : Launch} {e : Env} {R : Room} {s : State} {m : MethodId} {args : Array Value} {below : List Frame} {meth : Method} {c : Code} {H : Heap} {locs : List Loc} {cells slots : Nat} {Q : State → Prop}
variable {cc : ByteArray} {nL pc : Nat} {own : String} {A : Nat → Prop} {D : va_G} {k : Nat → ClassId} {ws : va_W} {ls : Array Slot} {rest : List Value} {a : Nat}
theorem kcViX (C : Cx p s m args c cc nL own A D k) {X : (Nat → Prop) → State → Prop} (hXS : XS X) (hX : X A s) {y : MethodName} {bytes : ByteArray} {maxL n : Nat} {ret : Option FieldType} {rm : Room} {b : Nat} {As : List Value} {wc w1 : va_W} {r : Int32} (hM : KMiX X l y bytes maxL ret rm D k (.ref b :: As) wc r w1) {index : Nat} (mw : MWv y bytes maxL ret n) (m1 : Cond.methodLink own index y ∈ TB) (hrm : rm.cells = 0 ∧ rm.slots = 0 ∧ rm.frames + 1 ≤ R.frames ∧ 8 + (maxL + 11) + rm.locals ≤ R.locals)
    (hP : va_P D vwCl ws H) (hD : va_D A ws) (hS : va_S A s.heap H locs) (hrec : ∃ cellB : Cell, H[b]? = some cellB ∧ cellB.vm.isStatics = false ∧ s.vm.findClass y.cls = some cellB.cls) (is : List Nat) (hC : is.map (fun i => ws[i]?) = wc.map some) (hnd : va_nd is = true) (ps : List (Option Nat)) (hpa : ps.all (fun o => o.all (fun n => decide (n < w1.length))) = true) (hpi : is.all (fun i => (ps[i]?).join.isSome) = true) {w2 : va_W} (hw2 : mrg w1 ps ws = w2) (had : w2.map Prod.fst = ws.map Prod.fst)
    (hn : As.length = n) (hls : ls.size = nL) (hroom : (rest.map fun v => v.category).sum ≤ 8) {st : List Value} (hst : st = As.reverse ++ .ref b :: rest) (hdg : decode cc pc = .ok (.invokevirtual index, 3)) (hcs : cells ≤ R.cells ∧ slots ≤ R.slots)
    (kk : ∀ (H1 : Heap) (locs1 : List Loc), va_P D vwCl w2 H1 → va_D A w2 → va_S A s.heap H1 locs1 → W p l e R s m args below meth c H1 locs1 cells slots Q (F0 m (pc + 3) ls (.int r :: rest))) : W p l e R s m args below meth c H locs cells slots Q (F0 m pc ls st) := by
  obtain ⟨hx, hb, hml, hown, hts, hA, hK⟩ := id C
  obtain ⟨m2, m3, m4, m5, hd⟩ := mw
  subst hst; subst hw2
  have hDc : va_D A wc := hD.sub is hnd hC
  have hPc : va_P D vwCl wc H := P_of hP hC
  have hFc := va_free (wc := wc) hD hS hA is hC
  refine va_calli (va_runV (As := As) (rest := rest) ⟨hx, hb, hml, hown, hts⟩ (hM H.size) ⟨callB_of n hts (good_wy m5) rfl hrm.1 hrm.2.1 (hts _ m4) (hts _ m1) hd hrm.2.2, hts _ m2, hts _ m3⟩ ⟨kblindX hXS, hrec, fun U hU hW => ⟨rfl, ⟨by rw [hU], by rw [hU]; exact hPc, va_K.moved hW.alike hK, hDc.weaken (fun _ _ _ _ => trivial)⟩, hXS A _ s U hX hW hFc (fun q h1 h2 => by rw [hU]; exact hS.2.1 q h1 h2)⟩⟩ rfl hn hls rfl (lv_room hroom) hdg ⟨hcs.1, hcs.2⟩) hS (fun q _ h => hFc q h) hFc (fun r' u t H1 locs1 ht hvm hw hB hz1 hk1 hS1 => ?_)
  rw [ht] at hB
  have hw : r' = r := hw
  rw [hw]
  exact kk H1 locs1 (mrg_P hP hD is hC ps hpa hpi hk1 hB) (D_same hD had) hS1
theorem kcVvX (C : Cx p s m args c cc nL own A D k) {X : (Nat → Prop) → State → Prop} (hXS : XS X) (hX : X A s) {y : MethodName} {bytes : ByteArray} {maxL n : Nat} {rm : Room} {b : Nat} {As : List Value} {wc w1 : va_W} (hM : KMvX X l y bytes maxL rm D k (.ref b :: As) wc w1) {index : Nat} (mw : MWv y bytes maxL none n) (m1 : Cond.methodLink own index y ∈ TB) (hrm : rm.cells = 0 ∧ rm.slots = 0 ∧ rm.frames + 1 ≤ R.frames ∧ 8 + (maxL + 11) + rm.locals ≤ R.locals)
    (hP : va_P D vwCl ws H) (hD : va_D A ws) (hS : va_S A s.heap H locs) (hrec : ∃ cellB : Cell, H[b]? = some cellB ∧ cellB.vm.isStatics = false ∧ s.vm.findClass y.cls = some cellB.cls) (is : List Nat) (hC : is.map (fun i => ws[i]?) = wc.map some) (hnd : va_nd is = true) (ps : List (Option Nat)) (hpa : ps.all (fun o => o.all (fun n => decide (n < w1.length))) = true) (hpi : is.all (fun i => (ps[i]?).join.isSome) = true) {w2 : va_W} (hw2 : mrg w1 ps ws = w2) (had : w2.map Prod.fst = ws.map Prod.fst)
    (hn : As.length = n) (hls : ls.size = nL) (hroom : (rest.map fun v => v.category).sum ≤ 8) {st : List Value} (hst : st = As.reverse ++ .ref b :: rest) (hdg : decode cc pc = .ok (.invokevirtual index, 3)) (hcs : cells ≤ R.cells ∧ slots ≤ R.slots)
    (kk : ∀ (H1 : Heap) (locs1 : List Loc), va_P D vwCl w2 H1 → va_D A w2 → va_S A s.heap H1 locs1 → W p l e R s m args below meth c H1 locs1 cells slots Q (F0 m (pc + 3) ls rest)) : W p l e R s m args below meth c H locs cells slots Q (F0 m pc ls st) := by
  obtain ⟨hx, hb, hml, hown, hts, hA, hK⟩ := id C
  obtain ⟨m2, m3, m4, m5, hd⟩ := mw
  subst hst; subst hw2
  have hDc : va_D A wc := hD.sub is hnd hC
  have hPc : va_P D vwCl wc H := P_of hP hC
  have hFc := va_free (wc := wc) hD hS hA is hC
  refine va_callv (va_runV (As := As) (rest := rest) ⟨hx, hb, hml, hown, hts⟩ (hM H.size) ⟨callB_of n hts (good_wy m5) rfl hrm.1 hrm.2.1 (hts _ m4) (hts _ m1) hd hrm.2.2, hts _ m2, hts _ m3⟩ ⟨kblindX hXS, hrec, fun U hU hW => ⟨rfl, ⟨by rw [hU], by rw [hU]; exact hPc, va_K.moved hW.alike hK, hDc.weaken (fun _ _ _ _ => trivial)⟩, hXS A _ s U hX hW hFc (fun q h1 h2 => by rw [hU]; exact hS.2.1 q h1 h2)⟩⟩ rfl hn hls rfl (lv_room hroom) hdg ⟨hcs.1, hcs.2⟩) hS (fun q _ h => hFc q h) hFc (fun u t H1 locs1 ht hvm hw hB hz1 hk1 hS1 => ?_)
  rw [ht] at hB
  exact kk H1 locs1 (mrg_P hP hD is hC ps hpa hpi hk1 hB) (D_same hD had) hS1
theorem kcSiX (C : Cx p s m args c cc nL own A D k) {X : (Nat → Prop) → State → Prop} (hXS : XS X) (hX : X A s) {y : MethodName} {bytes : ByteArray} {maxL n : Nat} {ret : Option FieldType} {rm : Room} {As : List Value} {wc w1 : va_W} {r : Int32} (hM : KMiX X l y bytes maxL ret rm D k As wc r w1) {index : Nat} (mw : MWs y bytes maxL ret n) (m1 : Cond.methodLink own index y ∈ TB) (hrm : rm.cells = 0 ∧ rm.slots = 0 ∧ rm.frames + 1 ≤ R.frames ∧ 8 + (maxL + 11) + rm.locals ≤ R.locals)
    (hP : va_P D vwCl ws H) (hD : va_D A ws) (hS : va_S A s.heap H locs) (is : List Nat) (hC : is.map (fun i => ws[i]?) = wc.map some) (hnd : va_nd is = true) (ps : List (Option Nat)) (hpa : ps.all (fun o => o.all (fun n => decide (n < w1.length))) = true) (hpi : is.all (fun i => (ps[i]?).join.isSome) = true) {w2 : va_W} (hw2 : mrg w1 ps ws = w2) (had : w2.map Prod.fst = ws.map Prod.fst)
    (hn : As.length = n) (hls : ls.size = nL) (hroom : (rest.map fun v => v.category).sum ≤ 8) {st : List Value} (hst : st = As.reverse ++ rest) (hdg : decode cc pc = .ok (.invokestatic index, 3)) (hcs : cells ≤ R.cells ∧ slots ≤ R.slots)
    (kk : ∀ (H1 : Heap) (locs1 : List Loc), va_P D vwCl w2 H1 → va_D A w2 → va_S A s.heap H1 locs1 → W p l e R s m args below meth c H1 locs1 cells slots Q (F0 m (pc + 3) ls (.int r :: rest))) : W p l e R s m args below meth c H locs cells slots Q (F0 m pc ls st) := by
  obtain ⟨hx, hb, hml, hown, hts, hA, hK⟩ := id C
  obtain ⟨m2, m4, m5, hd⟩ := mw
  subst hst; subst hw2
  have hDc : va_D A wc := hD.sub is hnd hC
  have hPc : va_P D vwCl wc H := P_of hP hC
  have hFc := va_free (wc := wc) hD hS hA is hC
  refine va_calli (va_runS (As := As) (rest := rest) ⟨hx, hb, hml, hown, hts⟩ (hM H.size) ⟨callB_of n hts (good_wy m5) rfl hrm.1 hrm.2.1 (hts _ m4) (hts _ m1) hd hrm.2.2, hts _ m2⟩ ⟨kblindX hXS, fun U hU hW => ⟨rfl, ⟨by rw [hU], by rw [hU]; exact hPc, va_K.moved hW.alike hK, hDc.weaken (fun _ _ _ _ => trivial)⟩, hXS A _ s U hX hW hFc (fun q h1 h2 => by rw [hU]; exact hS.2.1 q h1 h2)⟩⟩ rfl hn hls rfl (lv_room hroom) hdg ⟨hcs.1, hcs.2⟩) hS (fun q _ h => hFc q h) hFc (fun r' u t H1 locs1 ht hvm hw hB hz1 hk1 hS1 => ?_)
  rw [ht] at hB
  have hw : r' = r := hw
  rw [hw]
  exact kk H1 locs1 (mrg_P hP hD is hC ps hpa hpi hk1 hB) (D_same hD had) hS1
theorem kcSvX (C : Cx p s m args c cc nL own A D k) {X : (Nat → Prop) → State → Prop} (hXS : XS X) (hX : X A s) {y : MethodName} {bytes : ByteArray} {maxL n : Nat} {rm : Room} {As : List Value} {wc w1 : va_W} (hM : KMvX X l y bytes maxL rm D k As wc w1) {index : Nat} (mw : MWs y bytes maxL none n) (m1 : Cond.methodLink own index y ∈ TB) (hrm : rm.cells = 0 ∧ rm.slots = 0 ∧ rm.frames + 1 ≤ R.frames ∧ 8 + (maxL + 11) + rm.locals ≤ R.locals)
    (hP : va_P D vwCl ws H) (hD : va_D A ws) (hS : va_S A s.heap H locs) (is : List Nat) (hC : is.map (fun i => ws[i]?) = wc.map some) (hnd : va_nd is = true) (ps : List (Option Nat)) (hpa : ps.all (fun o => o.all (fun n => decide (n < w1.length))) = true) (hpi : is.all (fun i => (ps[i]?).join.isSome) = true) {w2 : va_W} (hw2 : mrg w1 ps ws = w2) (had : w2.map Prod.fst = ws.map Prod.fst)
    (hn : As.length = n) (hls : ls.size = nL) (hroom : (rest.map fun v => v.category).sum ≤ 8) {st : List Value} (hst : st = As.reverse ++ rest) (hdg : decode cc pc = .ok (.invokestatic index, 3)) (hcs : cells ≤ R.cells ∧ slots ≤ R.slots)
    (kk : ∀ (H1 : Heap) (locs1 : List Loc), va_P D vwCl w2 H1 → va_D A w2 → va_S A s.heap H1 locs1 → W p l e R s m args below meth c H1 locs1 cells slots Q (F0 m (pc + 3) ls rest)) : W p l e R s m args below meth c H locs cells slots Q (F0 m pc ls st) := by
  obtain ⟨hx, hb, hml, hown, hts, hA, hK⟩ := id C
  obtain ⟨m2, m4, m5, hd⟩ := mw
  subst hst; subst hw2
  have hDc : va_D A wc := hD.sub is hnd hC
  have hPc : va_P D vwCl wc H := P_of hP hC
  have hFc := va_free (wc := wc) hD hS hA is hC
  refine va_callv (va_runS (As := As) (rest := rest) ⟨hx, hb, hml, hown, hts⟩ (hM H.size) ⟨callB_of n hts (good_wy m5) rfl hrm.1 hrm.2.1 (hts _ m4) (hts _ m1) hd hrm.2.2, hts _ m2⟩ ⟨kblindX hXS, fun U hU hW => ⟨rfl, ⟨by rw [hU], by rw [hU]; exact hPc, va_K.moved hW.alike hK, hDc.weaken (fun _ _ _ _ => trivial)⟩, hXS A _ s U hX hW hFc (fun q h1 h2 => by rw [hU]; exact hS.2.1 q h1 h2)⟩⟩ rfl hn hls rfl (lv_room hroom) hdg ⟨hcs.1, hcs.2⟩) hS (fun q _ h => hFc q h) hFc (fun u t H1 locs1 ht hvm hw hB hz1 hk1 hS1 => ?_)
  rw [ht] at hB
  exact kk H1 locs1 (mrg_P hP hD is hC ps hpa hpi hk1 hB) (D_same hD had) hS1
end KRX
section KEX
variable {l : Launch} {D : va_G} {k : Nat → ClassId} {y : MethodName} {bytes : ByteArray} {maxL : Nat} {rm : Room} {av : List Value} {ws ws' : va_W} {r : Int32}
theorem kent_iX {X : (Nat → Prop) → State → Prop} (hy : plainName y.cls = true) (hav : (lg_sl av).length ≤ maxL)
    (body : ∀ (p : Program) (e : Env) (s : State) (m : MethodId) (below : List Frame) (meth : Method) (c : Code) (A : Nat → Prop) (Q : State → Prop) (ls : Array Slot), Cx p s m av.toArray c bytes maxL y.cls A D k → X A s → va_P D vwCl ws s.heap → va_D A ws → va_S A s.heap s.heap [] → lv_has ls maxL (lv_args 0 av) →
      (∀ (H : Heap) (locs : List Loc) (ls : Array Slot) (pc : Nat), decode bytes pc = .ok (.ireturn, 1) → va_P D vwCl ws' H → va_S A s.heap H locs → W p l e rm s m av.toArray below meth c H locs 0 0 Q (F0 m pc ls [.int r])) → W p l e rm s m av.toArray below meth c s.heap [] 0 0 Q (F0 m 0 ls [])) :
    KMiX X l y bytes maxL (some .int) rm D k av ws r ws' := by
  intro sz
  refine Met.ofW (cc := bytes) (maxL := maxL) (ret := (some .int)) hy rfl ?_
  intro p e s m args below meth c s₁ B hml hv
  obtain ⟨rfl, ⟨hsz, hP, hK, hD0⟩, hX⟩ := hv
  subst hsz
  have hts := atoms_spec (ws := WY y bytes maxL (some .int)) B.pre
  have hown : s.vm.findClass y.cls = some m.cls := findClass_of_methodNamed B.named
  have hlocks := B.notSynchronized
  have hr := B.returns
  have hl := lv_entry av (n := maxL) hav
  rw [lg_entry_eq]
  exact body p e s m below meth c (va_A ws s.heap.size) _ _ ⟨B.exec, B.bytes, hml, hown, fun w h => hts w (List.mem_cons_of_mem _ h), fun q h => Or.inr h, hK⟩ hX hP (hD0.self (sz := s.heap.size)) va_S.rf hl (fun H locs ls pc hdg hP9 hS9 => W.iret (v := r) B.exec B.bytes hr (fun t ht hW => ⟨⟨r, (), rfl, rfl, by show va_P D vwCl ws' t.heap; rw [ht]; exact hP9⟩, hS9.F ht⟩) hS9.2.2 hdg)
theorem kent_zX {X : (Nat → Prop) → State → Prop} (hy : plainName y.cls = true) (hav : (lg_sl av).length ≤ maxL)
    (body : ∀ (p : Program) (e : Env) (s : State) (m : MethodId) (below : List Frame) (meth : Method) (c : Code) (A : Nat → Prop) (Q : State → Prop) (ls : Array Slot), Cx p s m av.toArray c bytes maxL y.cls A D k → X A s → va_P D vwCl ws s.heap → va_D A ws → va_S A s.heap s.heap [] → lv_has ls maxL (lv_args 0 av) →
      (∀ (H : Heap) (locs : List Loc) (ls : Array Slot) (pc : Nat), decode bytes pc = .ok (.ireturn, 1) → r = 0 ∨ r = 1 → va_P D vwCl ws' H → va_S A s.heap H locs → W p l e rm s m av.toArray below meth c H locs 0 0 Q (F0 m pc ls [.int r])) → W p l e rm s m av.toArray below meth c s.heap [] 0 0 Q (F0 m 0 ls [])) :
    KMiX X l y bytes maxL (some .boolean) rm D k av ws r ws' := by
  intro sz
  refine Met.ofW (cc := bytes) (maxL := maxL) (ret := (some .boolean)) hy rfl ?_
  intro p e s m args below meth c s₁ B hml hv
  obtain ⟨rfl, ⟨hsz, hP, hK, hD0⟩, hX⟩ := hv
  subst hsz
  have hts := atoms_spec (ws := WY y bytes maxL (some .boolean)) B.pre
  have hown : s.vm.findClass y.cls = some m.cls := findClass_of_methodNamed B.named
  have hlocks := B.notSynchronized
  have hr := B.returns
  have hl := lv_entry av (n := maxL) hav
  rw [lg_entry_eq]
  exact body p e s m below meth c (va_A ws s.heap.size) _ _ ⟨B.exec, B.bytes, hml, hown, fun w h => hts w (List.mem_cons_of_mem _ h), fun q h => Or.inr h, hK⟩ hX hP (hD0.self (sz := s.heap.size)) va_S.rf hl (fun H locs ls pc hdg h01 hP9 hS9 => W.zret (v := r) (ty := .boolean) B.exec B.bytes hr (by rcases h01 with h | h <;> (rw [h]; rfl)) (fun t ht hW => ⟨⟨r, (), rfl, rfl, by show va_P D vwCl ws' t.heap; rw [ht]; exact hP9⟩, hS9.F ht⟩) hS9.2.2 hdg)
theorem kent_tX {X : (Nat → Prop) → State → Prop} {ty : FieldType} (hy : plainName y.cls = true) (hav : (lg_sl av).length ≤ maxL)
    (body : ∀ (p : Program) (e : Env) (s : State) (m : MethodId) (below : List Frame) (meth : Method) (c : Code) (A : Nat → Prop) (Q : State → Prop) (ls : Array Slot), Cx p s m av.toArray c bytes maxL y.cls A D k → X A s → va_P D vwCl ws s.heap → va_D A ws → va_S A s.heap s.heap [] → lv_has ls maxL (lv_args 0 av) →
      (∀ (H : Heap) (locs : List Loc) (ls : Array Slot) (pc : Nat), decode bytes pc = .ok (.ireturn, 1) → narrow ty (.int r) = .int r → va_P D vwCl ws' H → va_S A s.heap H locs → W p l e rm s m av.toArray below meth c H locs 0 0 Q (F0 m pc ls [.int r])) → W p l e rm s m av.toArray below meth c s.heap [] 0 0 Q (F0 m 0 ls [])) :
    KMiX X l y bytes maxL (some ty) rm D k av ws r ws' := by
  intro sz
  refine Met.ofW (cc := bytes) (maxL := maxL) (ret := (some ty)) hy rfl ?_
  intro p e s m args below meth c s₁ B hml hv
  obtain ⟨rfl, ⟨hsz, hP, hK, hD0⟩, hX⟩ := hv
  subst hsz
  have hts := atoms_spec (ws := WY y bytes maxL (some ty)) B.pre
  have hown : s.vm.findClass y.cls = some m.cls := findClass_of_methodNamed B.named
  have hlocks := B.notSynchronized
  have hr := B.returns
  have hl := lv_entry av (n := maxL) hav
  rw [lg_entry_eq]
  exact body p e s m below meth c (va_A ws s.heap.size) _ _ ⟨B.exec, B.bytes, hml, hown, fun w h => hts w (List.mem_cons_of_mem _ h), fun q h => Or.inr h, hK⟩ hX hP (hD0.self (sz := s.heap.size)) va_S.rf hl (fun H locs ls pc hdg hn hP9 hS9 => W.zret (v := r) (ty := ty) B.exec B.bytes hr hn (fun t ht hW => ⟨⟨r, (), rfl, rfl, by show va_P D vwCl ws' t.heap; rw [ht]; exact hP9⟩, hS9.F ht⟩) hS9.2.2 hdg)
theorem kent_vX {X : (Nat → Prop) → State → Prop} (hy : plainName y.cls = true) (hav : (lg_sl av).length ≤ maxL)
    (body : ∀ (p : Program) (e : Env) (s : State) (m : MethodId) (below : List Frame) (meth : Method) (c : Code) (A : Nat → Prop) (Q : State → Prop) (ls : Array Slot), Cx p s m av.toArray c bytes maxL y.cls A D k → X A s → va_P D vwCl ws s.heap → va_D A ws → va_S A s.heap s.heap [] → lv_has ls maxL (lv_args 0 av) →
      (∀ (H : Heap) (locs : List Loc) (ls : Array Slot) (pc : Nat), decode bytes pc = .ok (.return_, 1) → va_P D vwCl ws' H → va_S A s.heap H locs → W p l e rm s m av.toArray below meth c H locs 0 0 Q (F0 m pc ls [])) → W p l e rm s m av.toArray below meth c s.heap [] 0 0 Q (F0 m 0 ls [])) :
    KMvX X l y bytes maxL rm D k av ws ws' := by
  intro sz
  refine Met.ofW (cc := bytes) (maxL := maxL) (ret := none) hy rfl ?_
  intro p e s m args below meth c s₁ B hml hv
  obtain ⟨rfl, ⟨hsz, hP, hK, hD0⟩, hX⟩ := hv
  subst hsz
  have hts := atoms_spec (ws := WY y bytes maxL none) B.pre
  have hown : s.vm.findClass y.cls = some m.cls := findClass_of_methodNamed B.named
  have hlocks := B.notSynchronized
  have hr := B.returns
  have hl := lv_entry av (n := maxL) hav
  rw [lg_entry_eq]
  exact body p e s m below meth c (va_A ws s.heap.size) _ _ ⟨B.exec, B.bytes, hml, hown, fun w h => hts w (List.mem_cons_of_mem _ h), fun q h => Or.inr h, hK⟩ hX hP (hD0.self (sz := s.heap.size)) va_S.rf hl (fun H locs ls pc hdg hP9 hS9 => W.vret B.exec B.bytes hr (fun t ht hW => ⟨⟨(), rfl, trivial, by show va_P D vwCl ws' t.heap; rw [ht]; exact hP9⟩, hS9.F ht⟩) hS9.2.2 hdg)
end KEX
