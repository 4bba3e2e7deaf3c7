/-! my own layer over the rows of the kit: one context, one form of contract, one row a call -/
theorem inX_of {ws : List Cond} (ps : List Nat) (hp : ws = ps.filterMap (fun i => lw_tbl[i]?)) (h : ws.all goodWord = true) : ∀ w ∈ ws, w ∈ TB := by
  intro w hw
  have h1 := List.all_eq_true.mp h w hw
  rw [hp] at hw
  obtain ⟨i, -, hi⟩ := List.mem_filterMap.mp hw
  exact tb_at i hi h1
def tyK (k : Nat → ClassId) : List (ClassId × FieldType) := [(k 0, .int), (k 1, .boolean), (k 2, .byte), (k 3, .object RX4)]
def Cx (p : Program) (s : State) (m : MethodId) (args : Array Value) (c : Code) (cc : ByteArray) (nL : Nat) (own : String) (A : Nat → Prop) (D : va_G) (k : Nat → ClassId) : Prop :=
  p.tables.exec = Jvm.exec ∧ c.code = cc ∧ c.maxLocals = nL ∧ s.vm.findClass own = some m.cls ∧ (∀ w ∈ TB, w.before args s = true) ∧ (∀ q, s.heap.size ≤ q → A q) ∧ va_K D vwCl (tyK k) s
def WY (y : MethodName) (bytes : ByteArray) (maxL : Nat) (ret : Option FieldType) : List Cond := Cond.code y bytes maxL ret :: TB
def KPc (D : va_G) (k : Nat → ClassId) (av : List Value) (ws : va_W) (sz : Nat) : Array Value → State → Prop := va_Pc av (fun U => U.heap.size = sz ∧ va_P D vwCl ws U.heap ∧ va_K D vwCl (tyK k) U ∧ va_D (fun _ => True) ws)
def KQi (D : va_G) (r : Int32) (ws ws' : va_W) (sz : Nat) : Array Value → State → Outcome → State → Prop := va_Qi (fun (r' : Int32) (_ : Unit) => r' = r) (fun (_ : Unit) (t : State) => va_P D vwCl ws' t.heap) (va_A ws sz)
def KQv (D : va_G) (ws ws' : va_W) (sz : Nat) : Array Value → State → Outcome → State → Prop := va_Qv (fun (_ : Unit) => True) (fun (_ : Unit) (t : State) => va_P D vwCl ws' t.heap) (va_A ws sz)
def KMi (l : Launch) (y : MethodName) (bytes : ByteArray) (maxL : Nat) (ret : Option FieldType) (rm : Room) (D : va_G) (k : Nat → ClassId) (av : List Value) (ws : va_W) (r : Int32) (ws' : va_W) : Prop :=
  ∀ sz, Met l y (WY y bytes maxL ret) rm (KPc D k av ws sz) (KQi D r ws ws' sz) 0 0 (va_A ws sz)
def KMv (l : Launch) (y : MethodName) (bytes : ByteArray) (maxL : Nat) (rm : Room) (D : va_G) (k : Nat → ClassId) (av : List Value) (ws : va_W) (ws' : va_W) : Prop :=
  ∀ sz, Met l y (WY y bytes maxL none) rm (KPc D k av ws sz) (KQv D ws ws' sz) 0 0 (va_A ws sz)
/-- the words of a method of ours that an object is asked for -/
def MWv (y : MethodName) (bytes : ByteArray) (maxL : Nat) (ret : Option FieldType) (n : Nat) : Prop := Cond.instanceMethod y ∈ TB ∧ Cond.selects y.cls y y ∈ TB ∧ Cond.initialized y.cls ∈ TB ∧ Cond.code y bytes maxL ret ∈ TB ∧ y.cls ≠ "java/lang/invoke/MethodHandle" ∧ y.cls ≠ "java/lang/invoke/VarHandle" ∧ (parseMethodDescriptor y.desc).map (fun d => d.parameters.length) = some n
/-- of a static one -/
def MWs (y : MethodName) (bytes : ByteArray) (maxL : Nat) (ret : Option FieldType) (n : Nat) : Prop := Cond.static y ∈ TB ∧ Cond.initialized y.cls ∈ TB ∧ Cond.code y bytes maxL ret ∈ TB ∧ y.cls ≠ "java/lang/invoke/MethodHandle" ∧ y.cls ≠ "java/lang/invoke/VarHandle" ∧ (parseMethodDescriptor y.desc).map (fun d => d.parameters.length) = some n
theorem good_wy {y : MethodName} {bytes : ByteArray} {maxL : Nat} {ret : Option FieldType} (hc : Cond.code y bytes maxL ret ∈ TB) : GoodIn TB (WY y bytes maxL ret) := fun w hw => by
  have h : w ∈ TB := by
    rcases List.mem_cons.mp hw with h | h
    · rw [h]; exact hc
    · exact h
  exact ⟨h, good_of_word (tb_good h)⟩
theorem kblind {D : va_G} {k : Nat → ClassId} {av : List Value} {ws : va_W} {sz : Nat} : FrameBlind (KPc D k av ws sz) := fun a U g mk q => by
  obtain ⟨q0, q1, qP, qK, qD⟩ := q
  exact ⟨q0, q1, qP, va_K.moved (u := U) (U := U.calling g mk a) (Vm.Alike.refl U.vm) qK, qD⟩
/-- a world with some of its cells put anew -/
def mrg (w1 : va_W) : List (Option Nat) → va_W → va_W
  | none :: ps, e :: ws => e :: mrg w1 ps ws
  | some n :: ps, e :: ws => (w1[n]?.getD e) :: mrg w1 ps ws
  | [], ws => ws
  | _, [] => []
theorem mrg_get {w1 : va_W} : ∀ (ps : List (Option Nat)) (ws : va_W) (j : Nat) (q : Nat × va_E), ps.all (fun o => o.all (fun n => decide (n < w1.length))) = true → (mrg w1 ps ws)[j]? = some q → (∃ i : Nat, w1[i]? = some q) ∨ (ws[j]? = some q ∧ (ps[j]?).join = none) := by
  intro ps
  induction ps with
  | nil =>
    intro ws j q _ h
    refine Or.inr ⟨?_, by simp⟩
    cases ws <;> exact h
  | cons o ps ih =>
    intro ws j q ha h
    simp only [List.all_cons, Bool.and_eq_true] at ha
    cases ws with
    | nil => cases o <;> cases h
    | cons e ws =>
      cases o with
      | none =>
        cases j with
        | zero => exact Or.inr ⟨h, rfl⟩
        | succ j => exact ih ws j q ha.2 h
      | some n =>
        cases j with
        | zero =>
          have hn : n < w1.length := of_decide_eq_true ha.1
          have h1 : some (w1[n]?.getD e) = some q := h
          rw [List.getElem?_eq_getElem hn] at h1
          exact Or.inl ⟨n, by rw [List.getElem?_eq_getElem hn]; exact h1⟩
        | succ j => exact ih ws j q ha.2 h
theorem mrg_P {A0 : Nat → Prop} {D : va_G} {cl : List vw_C} {ws wc w1 : va_W} {H H1 : Heap} (hP : va_P D cl ws H) (hD : va_D A0 ws) (is : List Nat) (hC : is.map (fun i => ws[i]?) = wc.map some) (ps : List (Option Nat)) (ha : ps.all (fun o => o.all (fun n => decide (n < w1.length))) = true) (hi : is.all (fun i => (ps[i]?).join.isSome) = true)
    (hk : ∀ q : Nat, q < H.size → ¬ va_A wc H.size q → H1[q]? = H[q]?) (hP1 : va_P D cl w1 H1) : va_P D cl (mrg w1 ps ws) H1 := by
  intro j q hq
  rcases mrg_get ps ws j q ha hq with ⟨i, h⟩ | ⟨h, hn⟩
  · exact hP1 i q h
  · refine (hP j q h).kept (hk q.1 (hP j q h).lt fun ha => ?_)
    rcases ha with ⟨n, e, h2⟩ | h2
    · have h1 : (is.map (fun i => ws[i]?))[n]? = some (some (q.1, e)) := by rw [hC, List.getElem?_map, h2]; rfl
      rw [List.getElem?_map] at h1
      cases hi2 : is[n]? with
      | none => rw [hi2] at h1; cases h1
      | some i =>
        rw [hi2] at h1
        have h3 : ws[i]? = some (q.1, e) := Option.some.inj h1
        have := hD.1 j i q (q.1, e) h h3 rfl
        subst this
        have h4 := List.all_eq_true.mp hi j (List.mem_of_getElem? hi2)
        rw [hn] at h4
        cases h4
    · exact absurd (hP j q h).lt (Nat.not_lt.mpr h2)
theorem D_same {A : Nat → Prop} {ws ws' : va_W} (h : va_D A ws) (he : ws'.map Prod.fst = ws.map Prod.fst) : va_D A ws' := by
  have key : ∀ (i : Nat) (q : Nat × va_E), ws'[i]? = some q → ∃ q', ws[i]? = some q' ∧ q'.1 = q.1 := by
    intro i q hq
    have h1 : (ws'.map Prod.fst)[i]? = some q.1 := by rw [List.getElem?_map, hq]; rfl
    rw [he, List.getElem?_map] at h1
    cases hi : ws[i]? with
    | none => rw [hi] at h1; cases h1
    | some q' => rw [hi] at h1; exact ⟨q', rfl, Option.some.inj h1⟩
  refine ⟨fun i j p q hp hq hpq => ?_, fun i q hq => ?_⟩
  · obtain ⟨p', a1, a2⟩ := key i p hp
    obtain ⟨q', b1, b2⟩ := key j q hq
    exact h.1 i j p' q' a1 b1 (by rw [a2, b2, hpq])
  · obtain ⟨q', a1, a2⟩ := key i q hq
    rw [← a2]
    exact h.2 i q' a1
theorem P_of {D : va_G} {cl : List vw_C} {ws wc : va_W} {H : Heap} {is : List Nat} (hP : va_P D cl ws H) (hC : is.map (fun i => ws[i]?) = wc.map some) : va_P D cl wc H := by
  intro j q hq
  have h1 : (is.map (fun i => ws[i]?))[j]? = some (some q) := by rw [hC, List.getElem?_map, hq]; rfl
  rw [List.getElem?_map] at h1
  cases hi : is[j]? with
  | none => rw [hi] at h1; cases h1
  | some i => rw [hi] at h1; exact hP i q (Option.some.inj h1)
section KR
variable {p : Program} {l : Launch} {e : Env} {R : Room} {s : State} {m : MethodId} {args : Array Value} {below : List Frame} {meth : Method} {c : Code} {H : Heap} {locs : List Loc} {cells slots : Nat} {Q : State → Prop}
variable {cc : ByteArray} {nL pc : Nat} {own : String} {A : Nat → Prop} {D : va_G} {k : Nat → ClassId} {ws : va_W} {ls : Array Slot} {rest : List Value} {a : Nat}
theorem kget (C : Cx p s m args c cc nL own A D k) {Cn : String} {T : u_T} {N ci index : Nat} (hin : ∀ w ∈ u_ws Cn T N, w ∈ TB) (hP : va_P D vwCl ws H) (q0 : Nat) {fs : List Value} (he : ws[q0]? = some (a, .inr (ci, fs))) (hc : vwCl[ci]? = some (Cn, T, N)) (j : Nat) (hj : j < N) (hlink : Cond.fieldLink own index (T j).1 (T j).2.1 (T j).2.2.1 ∈ TB) {v : Value} (hv : fs[j]? = some v) (hdg : decode cc pc = .ok (.getfield index, 3))
    (kk : W p l e R s m args below meth c H locs cells slots Q (F0 m (pc + 3) ls (v :: rest))) : W p l e R s m args below meth c H locs cells slots Q (F0 m pc ls (.ref a :: rest)) :=
  va_get C.1 C.2.1 C.2.2.2.2.1 hin C.2.2.2.1 C.2.2.2.2.2.2 hP q0 he hc j hj (C.2.2.2.2.1 _ hlink) (fun _ h => h) hv hdg kk
theorem kput (C : Cx p s m args c cc nL own A D k) {Cn : String} {T : u_T} {N ci index : Nat} (hin : ∀ w ∈ u_ws Cn T N, w ∈ TB) {ty0 : Nat → FieldType} (hty : ∀ k, k < N → parseFieldDescriptor (T k).2.2.1 = some (ty0 k)) (hnm : ∀ a, a < N → ∀ b, b < N → a ≠ b → (T a).2.1 ≠ (T b).2.1) (hP : va_P D vwCl ws H) (hD : va_D A ws) (hS : va_S A s.heap H locs) (q0 : Nat) {fs : List Value} (he : ws[q0]? = some (a, .inr (ci, fs))) (hc : vwCl[ci]? = some (Cn, T, N)) (j : Nat) (hj : j < N) (hlink : Cond.fieldLink own index (T j).1 (T j).2.1 (T j).2.2.1 ∈ TB) (hfin : (T j).2.2.2 = false) {v : Value} (hn : narrow (ty0 j) v = v) (hfit : fits (ty0 j) v = true) (hl : j < fs.length) (hdg : decode cc pc = .ok (.putfield index, 3)) {w2 : va_W} (hw2 : ws.set q0 (a, .inr (ci, fs.set j v)) = w2)
    (kk : ∀ (H1 : Heap) (locs1 : List Loc), va_P D vwCl w2 H1 → va_D A w2 → va_S A s.heap H1 locs1 → W p l e R s m args below meth c H1 locs1 cells slots Q (F0 m (pc + 3) ls rest)) : W p l e R s m args below meth c H locs cells slots Q (F0 m pc ls (v :: .ref a :: rest)) := by
  subst hw2
  exact va_put C.1 C.2.1 C.2.2.2.2.1 hin ty0 hty hnm C.2.2.2.1 C.2.2.2.2.2.2 hP hD hS q0 he hc j hj (C.2.2.2.2.1 _ hlink) (fun _ h => h) hfin (hty j hj) hn hfit hl hdg kk
theorem kiald (C : Cx p s m args c cc nL own A D k) (hP : va_P D vwCl ws H) (q0 : Nat) {n : Nat} {f : Nat → Int32} (ha : ws[q0]? = some (a, .inl (k 0, n, .inl f))) {i : Int32} (hin : vp_in i n) (hdg : decode cc pc = .ok (.iaload, 1)) {j : Nat} (hj : i.toNatClampNeg = j)
    (kk : W p l e R s m args below meth c H locs cells slots Q (F0 m (pc + 1) ls (.int (f j) :: rest))) : W p l e R s m args below meth c H locs cells slots Q (F0 m pc ls (.int i :: .ref a :: rest)) := by
  subst hj
  exact va_iald C.1 C.2.1 C.2.2.2.2.2.2 hP q0 0 ha rfl hin hdg kk
theorem kzald (C : Cx p s m args c cc nL own A D k) (hP : va_P D vwCl ws H) (q0 : Nat) {n : Nat} {f : Nat → Int32} (ha : ws[q0]? = some (a, .inl (k 1, n, .inl f))) {i : Int32} (hin : vp_in i n) (hdg : decode cc pc = .ok (.baload, 1)) {j : Nat} (hj : i.toNatClampNeg = j)
    (kk : W p l e R s m args below meth c H locs cells slots Q (F0 m (pc + 1) ls (.int (f j) :: rest))) : W p l e R s m args below meth c H locs cells slots Q (F0 m pc ls (.int i :: .ref a :: rest)) := by
  subst hj
  exact va_zald C.1 C.2.1 C.2.2.2.2.2.2 hP q0 1 ha rfl hin hdg kk
theorem kbald (C : Cx p s m args c cc nL own A D k) (hP : va_P D vwCl ws H) (q0 : Nat) {n : Nat} {f : Nat → Int32} (ha : ws[q0]? = some (a, .inl (k 2, n, .inl f))) {i : Int32} (hin : vp_in i n) (hdg : decode cc pc = .ok (.baload, 1)) {j : Nat} (hj : i.toNatClampNeg = j)
    (kk : W p l e R s m args below meth c H locs cells slots Q (F0 m (pc + 1) ls (.int (f j) :: rest))) : W p l e R s m args below meth c H locs cells slots Q (F0 m pc ls (.int i :: .ref a :: rest)) := by
  subst hj
  exact va_bald C.1 C.2.1 C.2.2.2.2.2.2 hP q0 2 ha rfl hin hdg kk
theorem kiast (C : Cx p s m args c cc nL own A D k) (hP : va_P D vwCl ws H) (hD : va_D A ws) (hS : va_S A s.heap H locs) (q0 : Nat) {n : Nat} {f : Nat → Int32} (ha : ws[q0]? = some (a, .inl (k 0, n, .inl f))) {i x : Int32} (hin : vp_in i n) (hdg : decode cc pc = .ok (.iastore, 1)) {j : Nat} (hj : i.toNatClampNeg = j) {g : Nat → Int32} (hg : g = upd f j x) {w2 : va_W} (hw2 : ws.set q0 (a, .inl (k 0, n, .inl g)) = w2)
    (kk : ∀ (H1 : Heap) (locs1 : List Loc), va_P D vwCl w2 H1 → va_D A w2 → va_S A s.heap H1 locs1 → W p l e R s m args below meth c H1 locs1 cells slots Q (F0 m (pc + 1) ls rest)) : W p l e R s m args below meth c H locs cells slots Q (F0 m pc ls (.int x :: .int i :: .ref a :: rest)) := by
  subst hj
  subst hw2
  subst hg
  exact va_iast C.1 C.2.1 C.2.2.2.2.2.2 hP hD hS q0 0 ha rfl hin hdg kk
theorem kzast (C : Cx p s m args c cc nL own A D k) (hP : va_P D vwCl ws H) (hD : va_D A ws) (hS : va_S A s.heap H locs) (q0 : Nat) {n : Nat} {f : Nat → Int32} (ha : ws[q0]? = some (a, .inl (k 1, n, .inl f))) {i x : Int32} (hin : vp_in i n) (hdg : decode cc pc = .ok (.bastore, 1)) {j : Nat} (hj : i.toNatClampNeg = j) {g : Nat → Int32} (hg : g = upd f j (vp_nar .boolean x)) {w2 : va_W} (hw2 : ws.set q0 (a, .inl (k 1, n, .inl g)) = w2)
    (kk : ∀ (H1 : Heap) (locs1 : List Loc), va_P D vwCl w2 H1 → va_D A w2 → va_S A s.heap H1 locs1 → W p l e R s m args below meth c H1 locs1 cells slots Q (F0 m (pc + 1) ls rest)) : W p l e R s m args below meth c H locs cells slots Q (F0 m pc ls (.int x :: .int i :: .ref a :: rest)) := by
  subst hj
  subst hw2
  subst hg
  exact va_zast C.1 C.2.1 C.2.2.2.2.2.2 hP hD hS q0 1 ha rfl hin hdg kk
theorem kbast (C : Cx p s m args c cc nL own A D k) (hP : va_P D vwCl ws H) (hD : va_D A ws) (hS : va_S A s.heap H locs) (q0 : Nat) {n : Nat} {f : Nat → Int32} (ha : ws[q0]? = some (a, .inl (k 2, n, .inl f))) {i x : Int32} (hin : vp_in i n) (hdg : decode cc pc = .ok (.bastore, 1)) {j : Nat} (hj : i.toNatClampNeg = j) {g : Nat → Int32} (hg : g = upd f j (vp_nar .byte x)) {w2 : va_W} (hw2 : ws.set q0 (a, .inl (k 2, n, .inl g)) = w2)
    (kk : ∀ (H1 : Heap) (locs1 : List Loc), va_P D vwCl w2 H1 → va_D A w2 → va_S A s.heap H1 locs1 → W p l e R s m args below meth c H1 locs1 cells slots Q (F0 m (pc + 1) ls rest)) : W p l e R s m args below meth c H locs cells slots Q (F0 m pc ls (.int x :: .int i :: .ref a :: rest)) := by
  subst hj
  subst hw2
  subst hg
  exact va_bast C.1 C.2.1 C.2.2.2.2.2.2 hP hD hS q0 2 ha rfl hin hdg kk
/-- the run of a method that an object is asked for -/
theorem kcVi (C : Cx p s m args c cc nL own A D k) {y : MethodName} {bytes : ByteArray} {maxL n : Nat} {ret : Option FieldType} {rm : Room} {b : Nat} {As : List Value} {wc w1 : va_W} {r : Int32} (hM : KMi l y bytes maxL ret rm D k (.ref b :: As) wc r w1) {index : Nat} (mw : MWv y bytes maxL ret n) (m1 : Cond.methodLink own index y ∈ TB) (hrm : rm.cells = 0 ∧ rm.slots = 0 ∧ rm.frames + 1 ≤ R.frames ∧ 8 + (maxL + 11) + rm.locals ≤ R.locals)
    (hP : va_P D vwCl ws H) (hD : va_D A ws) (hS : va_S A s.heap H locs) (q0 : Nat) {ci : Nat} {r0 : vw_C} {fs : List Value} (he : ws[q0]? = some (b, .inr (ci, fs))) (hc : vwCl[ci]? = some r0) (hcn : r0.1 = y.cls) (is : List Nat) (hC : is.map (fun i => ws[i]?) = wc.map some) (hnd : va_nd is = true) (ps : List (Option Nat)) (hpa : ps.all (fun o => o.all (fun n => decide (n < w1.length))) = true) (hpi : is.all (fun i => (ps[i]?).join.isSome) = true) {w2 : va_W} (hw2 : mrg w1 ps ws = w2) (had : w2.map Prod.fst = ws.map Prod.fst)
    (hn : As.length = n) (hls : ls.size = nL) (hroom : (rest.map fun v => v.category).sum ≤ 8) {st : List Value} (hst : st = As.reverse ++ .ref b :: rest) (hdg : decode cc pc = .ok (.invokevirtual index, 3)) (hcs : cells ≤ R.cells ∧ slots ≤ R.slots)
    (kk : ∀ (H1 : Heap) (locs1 : List Loc), va_P D vwCl w2 H1 → va_D A w2 → va_S A s.heap H1 locs1 → W p l e R s m args below meth c H1 locs1 cells slots Q (F0 m (pc + 3) ls (.int r :: rest))) : W p l e R s m args below meth c H locs cells slots Q (F0 m pc ls st) := by
  obtain ⟨hx, hb, hml, hown, hts, hA, hK⟩ := id C
  obtain ⟨m2, m3, m4, m5, hd⟩ := mw
  subst hst; subst hw2
  have hDc : va_D A wc := hD.sub is hnd hC
  have hPc : va_P D vwCl wc H := P_of hP hC
  have hFc := va_free (wc := wc) hD hS hA is hC
  refine va_calli (va_runV (As := As) (rest := rest) ⟨hx, hb, hml, hown, hts⟩ (hM H.size) ⟨callB_of n hts (good_wy m5) rfl hrm.1 hrm.2.1 (hts _ m4) (hts _ m1) hd hrm.2.2, hts _ m2, hts _ m3⟩ ⟨kblind, by rw [← hcn]; exact va_recv hK hP (ci := ci) (q0 := q0) hc he, fun U hU hW => ⟨rfl, by rw [hU], by rw [hU]; exact hPc, va_K.moved hW.alike hK, hDc.weaken (fun _ _ _ _ => trivial)⟩⟩ rfl hn hls rfl (lv_room hroom) hdg ⟨hcs.1, hcs.2⟩) hS (fun q _ h => hFc q h) hFc (fun r' u t H1 locs1 ht hvm hw hB hz1 hk1 hS1 => ?_)
  rw [ht] at hB
  have hw : r' = r := hw
  rw [hw]
  exact kk H1 locs1 (mrg_P hP hD is hC ps hpa hpi hk1 hB) (D_same hD had) hS1
theorem kcVv (C : Cx p s m args c cc nL own A D k) {y : MethodName} {bytes : ByteArray} {maxL n : Nat} {rm : Room} {b : Nat} {As : List Value} {wc w1 : va_W} (hM : KMv l y bytes maxL rm D k (.ref b :: As) wc w1) {index : Nat} (mw : MWv y bytes maxL none n) (m1 : Cond.methodLink own index y ∈ TB) (hrm : rm.cells = 0 ∧ rm.slots = 0 ∧ rm.frames + 1 ≤ R.frames ∧ 8 + (maxL + 11) + rm.locals ≤ R.locals)
    (hP : va_P D vwCl ws H) (hD : va_D A ws) (hS : va_S A s.heap H locs) (q0 : Nat) {ci : Nat} {r0 : vw_C} {fs : List Value} (he : ws[q0]? = some (b, .inr (ci, fs))) (hc : vwCl[ci]? = some r0) (hcn : r0.1 = y.cls) (is : List Nat) (hC : is.map (fun i => ws[i]?) = wc.map some) (hnd : va_nd is = true) (ps : List (Option Nat)) (hpa : ps.all (fun o => o.all (fun n => decide (n < w1.length))) = true) (hpi : is.all (fun i => (ps[i]?).join.isSome) = true) {w2 : va_W} (hw2 : mrg w1 ps ws = w2) (had : w2.map Prod.fst = ws.map Prod.fst)
    (hn : As.length = n) (hls : ls.size = nL) (hroom : (rest.map fun v => v.category).sum ≤ 8) {st : List Value} (hst : st = As.reverse ++ .ref b :: rest) (hdg : decode cc pc = .ok (.invokevirtual index, 3)) (hcs : cells ≤ R.cells ∧ slots ≤ R.slots)
    (kk : ∀ (H1 : Heap) (locs1 : List Loc), va_P D vwCl w2 H1 → va_D A w2 → va_S A s.heap H1 locs1 → W p l e R s m args below meth c H1 locs1 cells slots Q (F0 m (pc + 3) ls rest)) : W p l e R s m args below meth c H locs cells slots Q (F0 m pc ls st) := by
  obtain ⟨hx, hb, hml, hown, hts, hA, hK⟩ := id C
  obtain ⟨m2, m3, m4, m5, hd⟩ := mw
  subst hst; subst hw2
  have hDc : va_D A wc := hD.sub is hnd hC
  have hPc : va_P D vwCl wc H := P_of hP hC
  have hFc := va_free (wc := wc) hD hS hA is hC
  refine va_callv (va_runV (As := As) (rest := rest) ⟨hx, hb, hml, hown, hts⟩ (hM H.size) ⟨callB_of n hts (good_wy m5) rfl hrm.1 hrm.2.1 (hts _ m4) (hts _ m1) hd hrm.2.2, hts _ m2, hts _ m3⟩ ⟨kblind, by rw [← hcn]; exact va_recv hK hP (ci := ci) (q0 := q0) hc he, fun U hU hW => ⟨rfl, by rw [hU], by rw [hU]; exact hPc, va_K.moved hW.alike hK, hDc.weaken (fun _ _ _ _ => trivial)⟩⟩ rfl hn hls rfl (lv_room hroom) hdg ⟨hcs.1, hcs.2⟩) hS (fun q _ h => hFc q h) hFc (fun u t H1 locs1 ht hvm hw hB hz1 hk1 hS1 => ?_)
  rw [ht] at hB
  exact kk H1 locs1 (mrg_P hP hD is hC ps hpa hpi hk1 hB) (D_same hD had) hS1
theorem kcSi (C : Cx p s m args c cc nL own A D k) {y : MethodName} {bytes : ByteArray} {maxL n : Nat} {ret : Option FieldType} {rm : Room} {As : List Value} {wc w1 : va_W} {r : Int32} (hM : KMi l y bytes maxL ret rm D k As wc r w1) {index : Nat} (mw : MWs y bytes maxL ret n) (m1 : Cond.methodLink own index y ∈ TB) (hrm : rm.cells = 0 ∧ rm.slots = 0 ∧ rm.frames + 1 ≤ R.frames ∧ 8 + (maxL + 11) + rm.locals ≤ R.locals)
    (hP : va_P D vwCl ws H) (hD : va_D A ws) (hS : va_S A s.heap H locs) (is : List Nat) (hC : is.map (fun i => ws[i]?) = wc.map some) (hnd : va_nd is = true) (ps : List (Option Nat)) (hpa : ps.all (fun o => o.all (fun n => decide (n < w1.length))) = true) (hpi : is.all (fun i => (ps[i]?).join.isSome) = true) {w2 : va_W} (hw2 : mrg w1 ps ws = w2) (had : w2.map Prod.fst = ws.map Prod.fst)
    (hn : As.length = n) (hls : ls.size = nL) (hroom : (rest.map fun v => v.category).sum ≤ 8) {st : List Value} (hst : st = As.reverse ++ rest) (hdg : decode cc pc = .ok (.invokestatic index, 3)) (hcs : cells ≤ R.cells ∧ slots ≤ R.slots)
    (kk : ∀ (H1 : Heap) (locs1 : List Loc), va_P D vwCl w2 H1 → va_D A w2 → va_S A s.heap H1 locs1 → W p l e R s m args below meth c H1 locs1 cells slots Q (F0 m (pc + 3) ls (.int r :: rest))) : W p l e R s m args below meth c H locs cells slots Q (F0 m pc ls st) := by
  obtain ⟨hx, hb, hml, hown, hts, hA, hK⟩ := id C
  obtain ⟨m2, m4, m5, hd⟩ := mw
  subst hst; subst hw2
  have hDc : va_D A wc := hD.sub is hnd hC
  have hPc : va_P D vwCl wc H := P_of hP hC
  have hFc := va_free (wc := wc) hD hS hA is hC
  refine va_calli (va_runS (As := As) (rest := rest) ⟨hx, hb, hml, hown, hts⟩ (hM H.size) ⟨callB_of n hts (good_wy m5) rfl hrm.1 hrm.2.1 (hts _ m4) (hts _ m1) hd hrm.2.2, hts _ m2⟩ ⟨kblind, fun U hU hW => ⟨rfl, by rw [hU], by rw [hU]; exact hPc, va_K.moved hW.alike hK, hDc.weaken (fun _ _ _ _ => trivial)⟩⟩ rfl hn hls rfl (lv_room hroom) hdg ⟨hcs.1, hcs.2⟩) hS (fun q _ h => hFc q h) hFc (fun r' u t H1 locs1 ht hvm hw hB hz1 hk1 hS1 => ?_)
  rw [ht] at hB
  have hw : r' = r := hw
  rw [hw]
  exact kk H1 locs1 (mrg_P hP hD is hC ps hpa hpi hk1 hB) (D_same hD had) hS1
theorem kcSv (C : Cx p s m args c cc nL own A D k) {y : MethodName} {bytes : ByteArray} {maxL n : Nat} {rm : Room} {As : List Value} {wc w1 : va_W} (hM : KMv l y bytes maxL rm D k As wc w1) {index : Nat} (mw : MWs y bytes maxL none n) (m1 : Cond.methodLink own index y ∈ TB) (hrm : rm.cells = 0 ∧ rm.slots = 0 ∧ rm.frames + 1 ≤ R.frames ∧ 8 + (maxL + 11) + rm.locals ≤ R.locals)
    (hP : va_P D vwCl ws H) (hD : va_D A ws) (hS : va_S A s.heap H locs) (is : List Nat) (hC : is.map (fun i => ws[i]?) = wc.map some) (hnd : va_nd is = true) (ps : List (Option Nat)) (hpa : ps.all (fun o => o.all (fun n => decide (n < w1.length))) = true) (hpi : is.all (fun i => (ps[i]?).join.isSome) = true) {w2 : va_W} (hw2 : mrg w1 ps ws = w2) (had : w2.map Prod.fst = ws.map Prod.fst)
    (hn : As.length = n) (hls : ls.size = nL) (hroom : (rest.map fun v => v.category).sum ≤ 8) {st : List Value} (hst : st = As.reverse ++ rest) (hdg : decode cc pc = .ok (.invokestatic index, 3)) (hcs : cells ≤ R.cells ∧ slots ≤ R.slots)
    (kk : ∀ (H1 : Heap) (locs1 : List Loc), va_P D vwCl w2 H1 → va_D A w2 → va_S A s.heap H1 locs1 → W p l e R s m args below meth c H1 locs1 cells slots Q (F0 m (pc + 3) ls rest)) : W p l e R s m args below meth c H locs cells slots Q (F0 m pc ls st) := by
  obtain ⟨hx, hb, hml, hown, hts, hA, hK⟩ := id C
  obtain ⟨m2, m4, m5, hd⟩ := mw
  subst hst; subst hw2
  have hDc : va_D A wc := hD.sub is hnd hC
  have hPc : va_P D vwCl wc H := P_of hP hC
  have hFc := va_free (wc := wc) hD hS hA is hC
  refine va_callv (va_runS (As := As) (rest := rest) ⟨hx, hb, hml, hown, hts⟩ (hM H.size) ⟨callB_of n hts (good_wy m5) rfl hrm.1 hrm.2.1 (hts _ m4) (hts _ m1) hd hrm.2.2, hts _ m2⟩ ⟨kblind, fun U hU hW => ⟨rfl, by rw [hU], by rw [hU]; exact hPc, va_K.moved hW.alike hK, hDc.weaken (fun _ _ _ _ => trivial)⟩⟩ rfl hn hls rfl (lv_room hroom) hdg ⟨hcs.1, hcs.2⟩) hS (fun q _ h => hFc q h) hFc (fun u t H1 locs1 ht hvm hw hB hz1 hk1 hS1 => ?_)
  rw [ht] at hB
  exact kk H1 locs1 (mrg_P hP hD is hC ps hpa hpi hk1 hB) (D_same hD had) hS1
end KR
section KE
variable {l : Launch} {D : va_G} {k : Nat → ClassId} {y : MethodName} {bytes : ByteArray} {maxL : Nat} {rm : Room} {av : List Value} {ws ws' : va_W} {r : Int32}
/-- a contract out of the walk of a body that answers an int -/
theorem kent_i (hy : plainName y.cls = true) (hav : (lg_sl av).length ≤ maxL)
    (body : ∀ (p : Program) (e : Env) (s : State) (m : MethodId) (below : List Frame) (meth : Method) (c : Code) (A : Nat → Prop) (Q : State → Prop) (ls : Array Slot), Cx p s m av.toArray c bytes maxL y.cls A D k → va_P D vwCl ws s.heap → va_D A ws → va_S A s.heap s.heap [] → lv_has ls maxL (lv_args 0 av) →
      (∀ (H : Heap) (locs : List Loc) (ls : Array Slot) (pc : Nat), decode bytes pc = .ok (.ireturn, 1) → va_P D vwCl ws' H → va_S A s.heap H locs → W p l e rm s m av.toArray below meth c H locs 0 0 Q (F0 m pc ls [.int r])) → W p l e rm s m av.toArray below meth c s.heap [] 0 0 Q (F0 m 0 ls [])) :
    KMi l y bytes maxL (some .int) rm D k av ws r ws' := by
  intro sz
  refine Met.ofW (cc := bytes) (maxL := maxL) (ret := some .int) hy rfl ?_
  intro p e s m args below meth c s₁ B hml hv
  obtain ⟨rfl, hsz, hP, hK, hD0⟩ := hv
  subst hsz
  have hts := atoms_spec (ws := WY y bytes maxL (some .int)) B.pre
  have hown : s.vm.findClass y.cls = some m.cls := findClass_of_methodNamed B.named
  have hlocks := B.notSynchronized
  have hr := B.returns
  have hl := lv_entry av (n := maxL) hav
  rw [lg_entry_eq]
  exact body p e s m below meth c (va_A ws s.heap.size) _ _ ⟨B.exec, B.bytes, hml, hown, fun w h => hts w (List.mem_cons_of_mem _ h), fun q h => Or.inr h, hK⟩ hP (hD0.self (sz := s.heap.size)) va_S.rf hl (fun H locs ls pc hdg hP9 hS9 => W.iret (v := r) B.exec B.bytes hr (fun t ht hW => ⟨⟨r, (), rfl, rfl, by show va_P D vwCl ws' t.heap; rw [ht]; exact hP9⟩, hS9.F ht⟩) hS9.2.2 hdg)
/-- .. true or false -/
theorem kent_z (hy : plainName y.cls = true) (hav : (lg_sl av).length ≤ maxL)
    (body : ∀ (p : Program) (e : Env) (s : State) (m : MethodId) (below : List Frame) (meth : Method) (c : Code) (A : Nat → Prop) (Q : State → Prop) (ls : Array Slot), Cx p s m av.toArray c bytes maxL y.cls A D k → va_P D vwCl ws s.heap → va_D A ws → va_S A s.heap s.heap [] → lv_has ls maxL (lv_args 0 av) →
      (∀ (H : Heap) (locs : List Loc) (ls : Array Slot) (pc : Nat), decode bytes pc = .ok (.ireturn, 1) → r = 0 ∨ r = 1 → va_P D vwCl ws' H → va_S A s.heap H locs → W p l e rm s m av.toArray below meth c H locs 0 0 Q (F0 m pc ls [.int r])) → W p l e rm s m av.toArray below meth c s.heap [] 0 0 Q (F0 m 0 ls [])) :
    KMi l y bytes maxL (some .boolean) rm D k av ws r ws' := by
  intro sz
  refine Met.ofW (cc := bytes) (maxL := maxL) (ret := some .boolean) hy rfl ?_
  intro p e s m args below meth c s₁ B hml hv
  obtain ⟨rfl, hsz, hP, hK, hD0⟩ := hv
  subst hsz
  have hts := atoms_spec (ws := WY y bytes maxL (some .boolean)) B.pre
  have hown : s.vm.findClass y.cls = some m.cls := findClass_of_methodNamed B.named
  have hlocks := B.notSynchronized
  have hr := B.returns
  have hl := lv_entry av (n := maxL) hav
  rw [lg_entry_eq]
  exact body p e s m below meth c (va_A ws s.heap.size) _ _ ⟨B.exec, B.bytes, hml, hown, fun w h => hts w (List.mem_cons_of_mem _ h), fun q h => Or.inr h, hK⟩ hP (hD0.self (sz := s.heap.size)) va_S.rf hl (fun H locs ls pc hdg h01 hP9 hS9 => W.zret (v := r) (ty := .boolean) B.exec B.bytes hr (by rcases h01 with h | h <;> (rw [h]; rfl)) (fun t ht hW => ⟨⟨r, (), rfl, rfl, by show va_P D vwCl ws' t.heap; rw [ht]; exact hP9⟩, hS9.F ht⟩) hS9.2.2 hdg)
/-- .. nothing -/
theorem kent_v (hy : plainName y.cls = true) (hav : (lg_sl av).length ≤ maxL)
    (body : ∀ (p : Program) (e : Env) (s : State) (m : MethodId) (below : List Frame) (meth : Method) (c : Code) (A : Nat → Prop) (Q : State → Prop) (ls : Array Slot), Cx p s m av.toArray c bytes maxL y.cls A D k → va_P D vwCl ws s.heap → va_D A ws → va_S A s.heap s.heap [] → lv_has ls maxL (lv_args 0 av) →
      (∀ (H : Heap) (locs : List Loc) (ls : Array Slot) (pc : Nat), decode bytes pc = .ok (.return_, 1) → va_P D vwCl ws' H → va_S A s.heap H locs → W p l e rm s m av.toArray below meth c H locs 0 0 Q (F0 m pc ls [])) → W p l e rm s m av.toArray below meth c s.heap [] 0 0 Q (F0 m 0 ls [])) :
    KMv l y bytes maxL rm D k av ws ws' := by
  intro sz
  refine Met.ofW (cc := bytes) (maxL := maxL) (ret := none) hy rfl ?_
  intro p e s m args below meth c s₁ B hml hv
  obtain ⟨rfl, hsz, hP, hK, hD0⟩ := hv
  subst hsz
  have hts := atoms_spec (ws := WY y bytes maxL none) B.pre
  have hown : s.vm.findClass y.cls = some m.cls := findClass_of_methodNamed B.named
  have hlocks := B.notSynchronized
  have hr := B.returns
  have hl := lv_entry av (n := maxL) hav
  rw [lg_entry_eq]
  exact body p e s m below meth c (va_A ws s.heap.size) _ _ ⟨B.exec, B.bytes, hml, hown, fun w h => hts w (List.mem_cons_of_mem _ h), fun q h => Or.inr h, hK⟩ hP (hD0.self (sz := s.heap.size)) va_S.rf hl (fun H locs ls pc hdg hP9 hS9 => W.vret B.exec B.bytes hr (fun t ht hW => ⟨⟨(), rfl, trivial, by show va_P D vwCl ws' t.heap; rw [ht]; exact hP9⟩, hS9.F ht⟩) hS9.2.2 hdg)
end KE
/-! what the functions are made of that say what a method does: none where the machine would throw, or a loop goes too long -/
def gd {α : Type} (i : Int32) (n : Nat) (x : Option α) : Option α := if i < 0 ∨ n ≤ i.toNatClampNeg then none else x
def bd {α β : Type} (x : Option α) (f : α → Option β) : Option β := match x with
  | none => none
  | some a => f a
def nm {α β : Type} (x : α) (f : α → Option β) : Option β := f x
def dv {α : Type} (y : Int32) (x : Option α) : Option α := if y = 0 then none else x
def tf {α : Type} (v : Int32) (x : Option α) : Option α := if v = 0 ∨ v = 1 then x else none
def lp {α β γ : Type} (x : Option (α ⊕ β)) (h : α → γ) (f : β → Option γ) : Option γ := match x with
  | none => none
  | some (.inl a) => some (h a)
  | some (.inr b) => f b
theorem gd_some {α : Type} {i : Int32} {n : Nat} {x : Option α} {y : α} (h : gd i n x = some y) : vp_in i n ∧ x = some y := by
  unfold gd at h
  split at h
  · cases h
  · rename_i h1
    exact ⟨h1, h⟩
theorem bd_some {α β : Type} {x : Option α} {f : α → Option β} {y : β} (h : bd x f = some y) : ∃ a, x = some a ∧ f a = some y := by
  cases x with
  | none => cases h
  | some a => exact ⟨a, rfl, h⟩
theorem nm_some {α β : Type} {x : α} {f : α → Option β} {y : β} (h : nm x f = some y) : ∃ a, a = x ∧ f a = some y := ⟨x, rfl, h⟩
theorem dv_some {α : Type} {v : Int32} {x : Option α} {y : α} (h : dv v x = some y) : ¬ v = 0 ∧ x = some y := by
  unfold dv at h
  split at h
  · cases h
  · rename_i h1
    exact ⟨h1, h⟩
theorem tf_some {α : Type} {v : Int32} {x : Option α} {y : α} (h : tf v x = some y) : (v = 0 ∨ v = 1) ∧ x = some y := by
  unfold tf at h
  split at h
  · rename_i h1
    exact ⟨h1, h⟩
  · cases h
theorem lp_some {α β γ : Type} {x : Option (α ⊕ β)} {h : α → γ} {f : β → Option γ} {y : γ} (hh : lp x h f = some y) : ∃ u, x = some u ∧ (match u with | .inl a => some (h a) | .inr b => f b) = some y := by
  cases x with
  | none => cases hh
  | some u =>
    cases u with
    | inl a => exact ⟨.inl a, rfl, hh⟩
    | inr b => exact ⟨.inr b, rfl, hh⟩
