/-! CONSTRUCTORS: worlds that grow, and the rows for them -/
/-- links to constructors of a nest mate -/
def qc_nsm : List (String × Nat × MethodName × String) := [("ShadowTheatre", 26, { cls := "ShadowTheatre$Show", name := "<init>", desc := "()V" }, "ShadowTheatre"), ("ShadowTheatre$Show", 11, { cls := "ShadowTheatre$Troupe", name := "<init>", desc := "()V" }, "ShadowTheatre"), ("ShadowTheatre$Show", 20, { cls := "ShadowTheatre$Cues", name := "<init>", desc := "()V" }, "ShadowTheatre"), ("ShadowTheatre$Show", 27, { cls := "ShadowTheatre$Picture", name := "<init>", desc := "()V" }, "ShadowTheatre"), ("ShadowTheatre$Picture", 11, { cls := "ShadowTheatre$Glow", name := "<init>", desc := "()V" }, "ShadowTheatre"), ("ShadowTheatre$Stage", 32, { cls := "ShadowTheatre$Glow", name := "<init>", desc := "()V" }, "ShadowTheatre"), ("ShadowTheatre$Planner", 11, { cls := "ShadowTheatre$Glow", name := "<init>", desc := "()V" }, "ShadowTheatre"), ("ShadowTheatre$Chance", 11, { cls := "ShadowTheatre$Cues", name := "<init>", desc := "()V" }, "ShadowTheatre"), ("ShadowTheatre", 60, { cls := "ShadowTheatre$Sheet", name := "<init>", desc := "()V" }, "ShadowTheatre")]
/-- what of the tables is needed beside the words -/
def nTb (g : qw_Ad) (U : State) : Prop := va_K g.1 qc_cl (qw_ts wC g) U ∧ (∀ q ∈ qc_nst, va_Nw (qw_nl q) U) ∧ va_AO "ShadowTheatre$Sheet" U ∧ ∀ q ∈ qc_nsm, va_Nw (.methodLinkNest q.1 q.2.1 q.2.2.1 q.2.2.2) U
theorem nTb.calling {g : qw_Ad} {U : State} {f : JFrame} {mk : MethodId} {a : Array Value} (h : nTb g U) : nTb g (U.calling f mk a) := ⟨va_K.moved (u := U) (U := U.calling f mk a) (Vm.Alike.refl U.vm) h.1, fun q hq => va_Nw.same (u := U) (U := U.calling f mk a) rfl rfl (h.2.1 q hq), va_AO.moved (u := U) (U := U.calling f mk a) (Vm.Alike.refl U.vm) h.2.2.1, fun q hq => va_Nw.same (u := U) (U := U.calling f mk a) rfl rfl (h.2.2.2 q hq)⟩
theorem nTb.warm {g : qw_Ad} {s U : State} (h : nTb g s) (hW : s.WarmedH U.vm) : nTb g U := ⟨va_K.moved hW.alike h.1, fun q hq => va_Nw.warmF hW (h.2.1 q hq), va_AO.moved hW.alike h.2.2.1, fun q hq => va_Nw.warmM hW (h.2.2.2 q hq)⟩
/-- the world: these cells, apart, at z and beyond -/
def nWd (g : qw_Ad) (z : Nat) (ws : va_W) (H : Heap) : Prop := va_P g.1 qc_cl ws H ∧ va_D (fun q : Nat => z ≤ q) ws
/-- a constructor's contract -/
def nMt (l : Launch) (Y : qw_Y) (g : qw_Ad) (z fr lo mc ms : Nat) (av : List Value) (ws : va_W) (Res : va_W → Prop) : Prop := Met l (qw_yn Y) (qw_yc Y :: qw_tw) ({ frames := fr, cells := mc, slots := ms, locals := lo } : Room) (va_Pc av (fun U => nWd g z ws U.heap ∧ z ≤ U.heap.size ∧ nTb g U)) (fun _ st oc t => (∃ ws', oc = .returned none ∧ Res ws' ∧ nWd g z ws' t.heap) ∧ va_F (fun q : Nat => z ≤ q) st t) mc ms (fun q : Nat => z ≤ q)
theorem nMt_blind {av : List Value} {g : qw_Ad} {z : Nat} {ws : va_W} : FrameBlind (va_Pc av (fun U => nWd g z ws U.heap ∧ z ≤ U.heap.size ∧ nTb g U)) := fun _ _ _ _ h => ⟨h.1, h.2.1, h.2.2.1, h.2.2.2.calling⟩
/-- the machine in a frame that may make objects -/
def nFr (own : String) (cc : ByteArray) (nL : Nat) (g : qw_Ad) (z : Nat) (p : Program) (s : State) (m : MethodId) (args : Array Value) (c : Code) : Prop := p.tables.exec = Jvm.exec ∧ c.code = cc ∧ c.maxLocals = nL ∧ s.vm.findClass own = some m.cls ∧ (∀ x ∈ qw_tw, x.before args s = true) ∧ nTb g s ∧ z ≤ s.heap.size
abbrev nSt (z : Nat) (s : State) (H : Heap) (locs : List Loc) : Prop := va_S (fun q : Nat => z ≤ q) s.heap H locs
theorem nA_of {z : Nat} {s : State} (h : z ≤ s.heap.size) : ∀ q, s.heap.size ≤ q → (fun q : Nat => z ≤ q) q := fun _ hq => Nat.le_trans h hq
section NROW
variable {own : String} {cc : ByteArray} {nL : Nat} {g : qw_Ad} {z : Nat} {p : Program} {l : Launch} {e : Env} {R : Room} {s : State} {m : MethodId} {args : Array Value} {below : List Frame} {meth : Method} {c : Code} {H : Heap} {locs : List Loc} {cells slots : Nat} {Qf : State → Prop} {pc : Nat} {ls : Array Slot} {rest : List Value} {ws : va_W}
theorem n_new (C0 : nFr own cc nL g z p s m args c) (h : nWd g z ws H) (hS : nSt z s H locs) {C : String} {T : u_T} {N ci idx : Nat} {ty : Nat → FieldType} {fs : List Value} (hc : qc_cl[ci]? = some (C, T, N)) (hin : ∀ x ∈ u_ws C T N, x ∈ qw_tw) (hty : ∀ k, k < N → parseFieldDescriptor (T k).2.2.1 = some (ty k)) (hfs : ∀ j, j < N → defaultValue (ty j) = vp_V fs j) (w1 : Cond.classLink own idx C ∈ qw_tw) (w2 : Cond.instantiable C N ∈ qw_tw) (w3 : Cond.initialized C ∈ qw_tw) (hcells : cells + 1 ≤ R.cells) (hslots : slots + N ≤ R.slots) (hdg : decode cc pc = .ok (.new idx, 3))
    (kk : ∀ (q : Nat) (H1 : Heap), nWd g z (ws ++ [(q, .inr (ci, fs))]) H1 → nSt z s H1 locs → W p l e R s m args below meth c H1 locs (cells + 1) (slots + N) Qf (F0 m (pc + 3) ls (.ref q :: rest))) : W p l e R s m args below meth c H locs cells slots Qf (F0 m pc ls rest) := by
  obtain ⟨hx, hb, hml, hown, hts, hT, hz⟩ := C0
  exact va_new hx hb hts hin ty hty hown (hts _ w1) (hts _ w2) (hts _ w3) hT.1 h.1 h.2 hS (nA_of hz) hc hfs hcells hslots hdg (fun q H1 hP hD hS1 => kk q H1 ⟨hP, hD⟩ hS1)
theorem n_newa (C0 : nFr own cc nL g z p s m args c) (h : nWd g z ws H) (hS : nSt z s H locs) (w1 : Cond.arrayClass .int ∈ qw_tw) {x : Int32} {N : Nat} (hn : ¬ x < 0) (hN : x.toNatClampNeg = N) (hb4 : N * 4 ≤ 536870912) (hcells : cells + 1 ≤ R.cells) (hslots : slots + N ≤ R.slots) (hdg : decode cc pc = .ok (.newarray .int, 2))
    (kk : ∀ (q : Nat) (H1 : Heap), nWd g z (ws ++ [(q, .inl (g.2.2 0, N, .inl (fun _ => 0)))]) H1 → nSt z s H1 locs → W p l e R s m args below meth c H1 locs (cells + 1) (slots + N) Qf (F0 m (pc + 2) ls (.ref q :: rest))) : W p l e R s m args below meth c H locs cells slots Qf (F0 m pc ls (.int x :: rest)) := by
  obtain ⟨hx, hb, hml, hown, hts, hT, hz⟩ := C0
  have h0 : (qw_ts wC g)[0]? = some (g.2.2 0, FieldType.int) := rfl
  refine va_newa (atype := .int) (ty := .int) (a0 := (N, .inl (fun _ => 0))) hx hb (hts _ w1) rfl hT.1 h.1 h.2 hS (nA_of hz) (fun cA => ?_) hn hN hb4 hcells hslots hdg (fun q cA H1 hK1 hP hD hS1 => ?_)
  · rfl
  · have e1 : s.vm.findClass ("[" ++ FieldType.int.toString) = some cA := (hK1.2 (qw_ts wC g).length (cA, .int) (by simp)).2
    have e2 : s.vm.findClass ("[" ++ FieldType.int.toString) = some (g.2.2 0) := (hT.1.2 0 _ h0).2
    have e3 : cA = g.2.2 0 := Option.some.inj (e1.symm.trans e2)
    subst e3
    exact kk q H1 ⟨hP, hD⟩ hS1
theorem n_newq (C0 : nFr own cc nL g z p s m args c) (h : nWd g z ws H) (hS : nSt z s H locs) {idx : Nat} (w1 : Cond.classLink own idx "ShadowTheatre$Sheet" ∈ qw_tw) {x : Int32} {N : Nat} (hn : ¬ x < 0) (hN : x.toNatClampNeg = N) (hb4 : N * 4 ≤ 536870912) (hcells : cells + 1 ≤ R.cells) (hslots : slots + N ≤ R.slots) (hdg : decode cc pc = .ok (.anewarray idx, 3))
    (kk : ∀ (q : Nat) (H1 : Heap), nWd g z (ws ++ [(q, .inl (g.2.2 2, N, .inr (.inr (.inr (.inr (fun _ => none))))))]) H1 → nSt z s H1 locs → W p l e R s m args below meth c H1 locs (cells + 1) (slots + N) Qf (F0 m (pc + 3) ls (.ref q :: rest))) : W p l e R s m args below meth c H locs cells slots Qf (F0 m pc ls (.int x :: rest)) := by
  obtain ⟨hx, hb, hml, hown, hts, hT, hz⟩ := C0
  have h0 : (qw_ts wC g)[2]? = some (g.2.2 2, FieldType.object "ShadowTheatre$Sheet") := rfl
  refine va_newq (C := "ShadowTheatre$Sheet") hx hb hown (hts _ w1) hT.2.2.1 hT.1 h.1 h.2 hS (nA_of hz) hn hN hb4 hcells hslots hdg (fun q cA H1 hK1 hP hD hS1 => ?_)
  obtain ⟨_, _, _, _, _, e1⟩ := (hK1.2 (qw_ts wC g).length (cA, .object "ShadowTheatre$Sheet") (by simp)).2
  obtain ⟨_, _, _, _, _, e2⟩ := (hT.1.2 2 _ h0).2
  have e3 : cA = g.2.2 2 := Option.some.inj (e1.symm.trans e2)
  subst e3
  exact kk q H1 ⟨hP, hD⟩ hS1
/-- a field set: what it holds, by its type -/
theorem n_put (C0 : nFr own cc nL g z p s m args c) (hinit : meth.name = "<init>") (h : nWd g z ws H) (hS : nSt z s H locs) (q0 : Nat) {C : String} {T : u_T} {N ci idx a : Nat} {ty0 : Nat → FieldType} {fs : List Value} (he : ws[q0]? = some (a, .inr (ci, fs))) (hc : qc_cl[ci]? = some (C, T, N)) (hin : ∀ x ∈ u_ws C T N, x ∈ qw_tw) (hty : ∀ k, k < N → parseFieldDescriptor (T k).2.2.1 = some (ty0 k)) (hnm : ∀ a, a < N → ∀ b, b < N → a ≠ b → (T a).2.1 ≠ (T b).2.1) (k : Nat) (hk : k < N) (hl : k < fs.length) (w1 : Cond.fieldLink own idx (T k).1 (T k).2.1 (T k).2.2.1 ∈ qw_tw) (hdecl : (T k).1 = own) {v : Value} (hn : narrow (ty0 k) v = v) (hfit : fits (ty0 k) v = true) (hdg : decode cc pc = .ok (.putfield idx, 3))
    (kk : ∀ (H1 : Heap) (locs1 : List Loc), nWd g z (ws.set q0 (a, .inr (ci, fs.set k v))) H1 → nSt z s H1 locs1 → W p l e R s m args below meth c H1 locs1 cells slots Qf (F0 m (pc + 3) ls rest)) : W p l e R s m args below meth c H locs cells slots Qf (F0 m pc ls (v :: .ref a :: rest)) := by
  obtain ⟨hx, hb, hml, hown, hts, hT, hz⟩ := C0
  cases hf : (T k).2.2.2 with
  | false => exact va_put hx hb hts hin ty0 hty hnm hown hT.1 h.1 h.2 hS q0 he hc k hk (hts _ w1) (fun _ h9 => h9) hf (hty k hk) hn hfit hl hdg (fun H1 locs1 hP hD hS1 => kk H1 locs1 ⟨hP, hD⟩ hS1)
  | true => exact va_putF hx hb hts hin ty0 hty hnm hown hT.1 h.1 h.2 hS q0 he hc k hk (hts _ w1) (fun _ h9 => h9) hf hinit hdecl (hty k hk) hn hfit hl hdg (fun H1 locs1 hP hD hS1 => kk H1 locs1 ⟨hP, hD⟩ hS1)
theorem n_get (C0 : nFr own cc nL g z p s m args c) (h : nWd g z ws H) (q0 : Nat) {C : String} {T : u_T} {N ci idx a : Nat} {fs : List Value} (he : ws[q0]? = some (a, .inr (ci, fs))) (hc : qc_cl[ci]? = some (C, T, N)) (hin : ∀ x ∈ u_ws C T N, x ∈ qw_tw) (k : Nat) (hk : k < N) (w1 : Cond.fieldLink own idx (T k).1 (T k).2.1 (T k).2.2.1 ∈ qw_tw) {v : Value} (hv : fs[k]? = some v) (hdg : decode cc pc = .ok (.getfield idx, 3))
    (kk : W p l e R s m args below meth c H locs cells slots Qf (F0 m (pc + 3) ls (v :: rest))) : W p l e R s m args below meth c H locs cells slots Qf (F0 m pc ls (.ref a :: rest)) := by
  obtain ⟨hx, hb, hml, hown, hts, hT, hz⟩ := C0
  exact va_get hx hb hts hin hown hT.1 h.1 q0 he hc k hk (hts _ w1) (fun _ h9 => h9) hv hdg kk
theorem n_getN (C0 : nFr own cc nL g z p s m args c) (h : nWd g z ws H) (q0 : Nat) {C : String} {T : u_T} {N ci idx a : Nat} {host : String} {fs : List Value} (he : ws[q0]? = some (a, .inr (ci, fs))) (hc : qc_cl[ci]? = some (C, T, N)) (hin : ∀ x ∈ u_ws C T N, x ∈ qw_tw) (k : Nat) (hk : k < N) (w1 : (own, idx, (T k).1, (T k).2.1, (T k).2.2.1, host) ∈ qc_nst) {v : Value} (hv : fs[k]? = some v) (hdg : decode cc pc = .ok (.getfield idx, 3))
    (kk : W p l e R s m args below meth c H locs cells slots Qf (F0 m (pc + 3) ls (v :: rest))) : W p l e R s m args below meth c H locs cells slots Qf (F0 m pc ls (.ref a :: rest)) := by
  obtain ⟨hx, hb, hml, hown, hts, hT, hz⟩ := C0
  exact va_getN hx hb hts hin hown hT.1 h.1 q0 he hc k hk (va_Nw.use rfl (hT.2.1 _ w1)) (fun _ h9 => h9) hv hdg kk
theorem n_obj (C0 : nFr own cc nL g z p s m args c) {idx a : Nat} (w1 : Cond.methodLink own idx Lib.objectInit ∈ qw_tw) (w2 : Cond.instanceMethod Lib.objectInit ∈ qw_tw) (w3 : Cond.code Lib.objectInit ⟨#[0xb1]⟩ 1 none ∈ qw_tw) (hl : ls.size = nL) (h1 : 1 ≤ R.frames) (h2 : 12 ≤ R.locals) (hdg : decode cc pc = .ok (.invokespecial idx, 3))
    (kk : W p l e R s m args below meth c H locs cells slots Qf (F0 m (pc + 3) ls [])) : W p l e R s m args below meth c H locs cells slots Qf (F0 m pc ls [.ref a]) := by
  obtain ⟨hx, hb, hml, hown, hts, hT, hz⟩ := C0
  exact W.objInit hx hb hown (hts _ w1) (hts _ w2) (hts _ w3) rfl (hl.trans hml.symm) rfl hdg h1 (by simpa [JFrame.monitorRoom] using h2) kk
/-- a constructor called -/
theorem n_call (C0 : nFr own cc nL g z p s m args c) (h : nWd g z ws H) (hS : nSt z s H locs) {Yc : qw_Y} {fr lo mc ms b idx : Nat} {As : List Value} {Res : va_W → Prop} (hM : nMt l Yc g z fr lo mc ms (.ref b :: As) ws Res) (w1 : Cond.methodLink own idx (qw_yn Yc) ∈ qw_tw) (w2 : Cond.instanceMethod (qw_yn Yc) ∈ qw_tw) (w3 : Cond.initialized (qw_yn Yc).cls ∈ qw_tw) (w4 : qw_yc Yc ∈ qw_tw) (hret : qw_yr Yc = none) (hnm : (qw_yn Yc).name = "<init>") (hd : (qw_yn Yc).cls ≠ "java/lang/invoke/MethodHandle" ∧ (qw_yn Yc).cls ≠ "java/lang/invoke/VarHandle" ∧ (parseMethodDescriptor (qw_yn Yc).desc).map (fun d => d.parameters.length) = some As.length) (hR : fr + 1 ≤ R.frames ∧ 8 + (qw_ym Yc + 11) + lo ≤ R.locals) (hf : cells + mc ≤ R.cells ∧ slots + ms ≤ R.slots) (hl : ls.size = nL) {st : List Value} (hst : st = As.reverse ++ .ref b :: rest) (hcat : (rest.map fun v => v.category).sum ≤ 8) (hdg : decode cc pc = .ok (.invokespecial idx, 3))
    (kk : ∀ (ws' : va_W) (H1 : Heap) (locs1 : List Loc), Res ws' → nWd g z ws' H1 → nSt z s H1 locs1 → W p l e R s m args below meth c H1 locs1 (cells + mc) (slots + ms) Qf (F0 m (pc + 3) ls rest)) : W p l e R s m args below meth c H locs cells slots Qf (F0 m pc ls st) := by
  obtain ⟨hx, hb, hml, hown, hts, hT, hz⟩ := C0
  have hG : GoodIn qw_tw (qw_yc Yc :: qw_tw) := fun x hx => by
    have hx2 : x ∈ qw_tw := by
      rcases List.mem_cons.mp hx with h | h
      · rw [h]; exact w4
      · exact h
    exact ⟨hx2, qw_tw_good x hx2⟩
  have hw : (qw_yc Yc :: qw_tw) = Cond.code (qw_yn Yc) (qw_yb Yc) (qw_ym Yc) none :: qw_tw := by
    show Cond.code (qw_yn Yc) (qw_yb Yc) (qw_ym Yc) (qw_yr Yc) :: qw_tw = _
    rw [hret]
  have hrun := va_runI (H := H) (locs := locs) (cells := cells) (slots := slots) (R := R) (meth := meth) (e := e) (below := below) (g := F0 m pc ls st) (As := As) (rest := rest) (b := b) ⟨hx, hb, hml, hown, hts⟩ hM (cwI (own := own) (index := idx) As.length hts hG hw rfl rfl (hts _ w3) (hts _ w1) (hts _ w2) hnm hd hR) ⟨nMt_blind, fun U hU hW => ⟨rfl, by rw [hU]; exact h, by rw [hU]; exact Nat.le_trans hz hS.1, hT.warm hW⟩⟩ rfl rfl hl hst (lv_room hcat) hdg hf
  intro T hT2 X
  obtain ⟨v, st₀, t, T', L, h0, X', hL, e1, e2, ⟨⟨ws', hv, hres, hwd⟩, hz1, hk1⟩, stp⟩ := hrun T hT2 X
  cases hv
  rw [h0] at hz1 hk1
  obtain ⟨t2, a1, b1⟩ := kk ws' T'.heap (locs ++ L) hres (by rw [e1]; exact hwd) ⟨Nat.le_trans hS.1 (by rw [e1]; exact hz1), fun q h1 h2 => by rw [e1, hk1 q (Nat.lt_of_lt_of_le h1 hS.1) (fun y => h2 y)]; exact hS.2.1 q h1 h2, fun q hq => by
      rcases List.mem_append.mp hq with y | y
      · exact hS.2.2 q y
      · exact hL q y⟩ T' rfl X'
  exact ⟨t2, stp t2 a1, b1⟩
/-- a constructor of a nest mate called -/
theorem n_callN (C0 : nFr own cc nL g z p s m args c) (h : nWd g z ws H) (hS : nSt z s H locs) {Yc : qw_Y} {fr lo mc ms b idx : Nat} {As : List Value} {Res : va_W → Prop} (hM : nMt l Yc g z fr lo mc ms (.ref b :: As) ws Res) {host : String} (w1 : (own, idx, qw_yn Yc, host) ∈ qc_nsm) (w2 : Cond.instanceMethod (qw_yn Yc) ∈ qw_tw) (w3 : Cond.initialized (qw_yn Yc).cls ∈ qw_tw) (w4 : qw_yc Yc ∈ qw_tw) (hret : qw_yr Yc = none) (hnm : (qw_yn Yc).name = "<init>") (hd : (qw_yn Yc).cls ≠ "java/lang/invoke/MethodHandle" ∧ (qw_yn Yc).cls ≠ "java/lang/invoke/VarHandle" ∧ (parseMethodDescriptor (qw_yn Yc).desc).map (fun d => d.parameters.length) = some As.length) (hR : fr + 1 ≤ R.frames ∧ 8 + (qw_ym Yc + 11) + lo ≤ R.locals) (hf : cells + mc ≤ R.cells ∧ slots + ms ≤ R.slots) (hl : ls.size = nL) {st : List Value} (hst : st = As.reverse ++ .ref b :: rest) (hcat : (rest.map fun v => v.category).sum ≤ 8) (hdg : decode cc pc = .ok (.invokespecial idx, 3))
    (kk : ∀ (ws' : va_W) (H1 : Heap) (locs1 : List Loc), Res ws' → nWd g z ws' H1 → nSt z s H1 locs1 → W p l e R s m args below meth c H1 locs1 (cells + mc) (slots + ms) Qf (F0 m (pc + 3) ls rest)) : W p l e R s m args below meth c H locs cells slots Qf (F0 m pc ls st) := by
  obtain ⟨hx, hb, hml, hown, hts, hT, hz⟩ := C0
  have hG : GoodIn qw_tw (qw_yc Yc :: qw_tw) := fun x hx => by
    have hx2 : x ∈ qw_tw := by
      rcases List.mem_cons.mp hx with h | h
      · rw [h]; exact w4
      · exact h
    exact ⟨hx2, qw_tw_good x hx2⟩
  have hw : (qw_yc Yc :: qw_tw) = Cond.code (qw_yn Yc) (qw_yb Yc) (qw_ym Yc) none :: qw_tw := by
    show Cond.code (qw_yn Yc) (qw_yb Yc) (qw_ym Yc) (qw_yr Yc) :: qw_tw = _
    rw [hret]
  have hrun := va_runIN (host := host) (H := H) (locs := locs) (cells := cells) (slots := slots) (R := R) (meth := meth) (e := e) (below := below) (g := F0 m pc ls st) (As := As) (rest := rest) (b := b) ⟨hx, hb, hml, hown, hts⟩ hM ⟨va_cnB As.length hts hG hw rfl rfl (hT.2.2.2 _ w1) (hts _ w3) hd hR, hnm, hts _ w2⟩ ⟨nMt_blind, fun U hU hW => ⟨rfl, by rw [hU]; exact h, by rw [hU]; exact Nat.le_trans hz hS.1, hT.warm hW⟩⟩ rfl rfl hl hst (lv_room hcat) hdg hf
  intro T hT2 X
  obtain ⟨v, st₀, t, T', L, h0, X', hL, e1, e2, ⟨⟨ws', hv, hres, hwd⟩, hz1, hk1⟩, stp⟩ := hrun T hT2 X
  cases hv
  rw [h0] at hz1 hk1
  obtain ⟨t2, a1, b1⟩ := kk ws' T'.heap (locs ++ L) hres (by rw [e1]; exact hwd) ⟨Nat.le_trans hS.1 (by rw [e1]; exact hz1), fun q h1 h2 => by rw [e1, hk1 q (Nat.lt_of_lt_of_le h1 hS.1) (fun y => h2 y)]; exact hS.2.1 q h1 h2, fun q hq => by
      rcases List.mem_append.mp hq with y | y
      · exact hS.2.2 q y
      · exact hL q y⟩ T' rfl X'
  exact ⟨t2, stp t2 a1, b1⟩
end NROW
/-- the machine in a constructor's frame -/
def nAt (Y : qw_Y) (g : qw_Ad) (z : Nat) (p : Program) (s : State) (m : MethodId) (args : Array Value) (meth : Method) (c : Code) : Prop := nFr (qw_yn Y).cls (qw_yb Y) (qw_ym Y) g z p s m args c ∧ meth.sig.returnType = none ∧ meth.locks = false ∧ meth.name = (qw_yn Y).name
/-- where a constructor ends -/
def nEnd (g : qw_Ad) (z mc ms : Nat) (Res : va_W → Prop) (below : List Frame) (args : Array Value) (s : State) : State → Prop := MQ below (fun _ st oc t => (∃ ws', oc = .returned none ∧ Res ws' ∧ nWd g z ws' t.heap) ∧ va_F (fun q : Nat => z ≤ q) st t) args s mc ms (fun q : Nat => z ≤ q)
theorem nMt.of {l : Launch} {Y : qw_Y} {g : qw_Ad} {z fr lo mc ms : Nat} {av : List Value} {ws : va_W} {Res : va_W → Prop} (hpl : plainName (qw_yn Y).cls = true) (hret : qw_yr Y = none) (hn : Nat.ble (lg_sl av).length (qw_ym Y) = true)
    (body : ∀ (p : Program) (e : Env) (s : State) (m : MethodId) (args : Array Value) (below : List Frame) (meth : Method) (c : Code), nAt Y g z p s m args meth c → nWd g z ws s.heap → ∀ lsA : Array Slot, lv_has lsA (qw_ym Y) (lv_args 0 av) → W p l e ({ frames := fr, cells := mc, slots := ms, locals := lo } : Room) s m args below meth c s.heap [] 0 0 (nEnd g z mc ms Res below args s) (F0 m 0 lsA [])) : nMt l Y g z fr lo mc ms av ws Res := by
  refine Met.ofW (ws' := qw_tw) (cc := qw_yb Y) (maxL := qw_ym Y) (ret := none) hpl ?_ ?_
  · show Cond.code (qw_yn Y) (qw_yb Y) (qw_ym Y) (qw_yr Y) :: qw_tw = _
    rw [hret]
  · intro p e s m args below meth c s₁ B hml hv
    obtain ⟨rfl, hwd, hz, hT⟩ := hv
    have hl := lv_entry av (n := qw_ym Y) (Nat.le_of_ble_eq_true hn)
    rw [lg_entry_eq]
    have hts := atoms_spec (ws := qw_yc Y :: qw_tw) B.pre
    exact body p e s m _ below meth c ⟨⟨B.exec, B.bytes, hml, findClass_of_methodNamed B.named, fun x hx => hts x (List.mem_cons_of_mem _ hx), hT, hz⟩, B.returns, B.notSynchronized, (name_of_methodNamed B.named B.method).1⟩ hwd _ hl
theorem n_ret {Y : qw_Y} {g : qw_Ad} {z mc ms : Nat} {Res : va_W → Prop} {p : Program} {l : Launch} {e : Env} {R : Room} {s : State} {m : MethodId} {args : Array Value} {below : List Frame} {meth : Method} {c : Code} {H : Heap} {locs : List Loc} {pc : Nat} {ls : Array Slot} {ws : va_W} (C0 : nAt Y g z p s m args meth c) (h : nWd g z ws H) (hS : nSt z s H locs) (hr : Res ws) (hdg : decode (qw_yb Y) pc = .ok (.return_, 1)) : W p l e R s m args below meth c H locs mc ms (nEnd g z mc ms Res below args s) (F0 m pc ls []) :=
  W.vret C0.1.1 C0.1.2.1 C0.2.1 (fun t ht hW => ⟨⟨ws, rfl, hr, by rw [ht]; exact h⟩, hS.F ht⟩) hS.2.2 hdg C0.2.2.1
/-- behind a list of cells -/
theorem nx_at {pre tl : va_W} {i : Nat} {x : Nat × va_E} (h : tl[i]? = some x) : (pre ++ tl)[pre.length + i]? = some x := by
  rw [List.getElem?_append_right (Nat.le_add_right _ _), Nat.add_sub_cancel_left]
  exact h
theorem nx_set {pre tl : va_W} {i : Nat} {x : Nat × va_E} : (pre ++ tl).set (pre.length + i) x = pre ++ tl.set i x := by
  rw [List.set_append_right _ _ (Nat.le_add_right _ _), Nat.add_sub_cancel_left]
