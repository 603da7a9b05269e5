/-! CALLS FROM A FRAME THAT MAKES OBJECTS: methods of any world whose cells are here -/
theorem va_Z.nar {C n d : String} {v : Value} {A B : Nat → Prop} {U : State} {H : Heap} (h : va_Z C n d v A U H) (hAB : ∀ q, B q → A q) : va_Z C n d v B U H := by
  obtain ⟨cf, kf, fi, f, a, cell, h1, h2, h3, h4, h5, h6, h7, h8⟩ := h
  exact ⟨cf, kf, fi, f, a, cell, h1, h2, h3, h4, h5, h6, h7, fun z => h8 (hAB a z)⟩
section NCALL
variable {own : String} {cc : ByteArray} {nL : Nat} {g : qw_Ad} {z : Nat} {p : Program} {l : Launch} {e : Env} {R : Room} {s : State} {m : MethodId} {args : Array Value} {below : List Frame} {meth : Method} {c : Code} {H : Heap} {locs : List Loc} {cells slots : Nat} {Qf : State → Prop} {pc : Nat} {ls : Array Slot} {ws : va_W}
/-- behind a call -/
theorem n_go {w : qw_Wd} {g' : qw_Ad} {a : Array Value} {rest st0 : List Value} {Yc : qw_Y} {Qc : Option Value → qw_M → Prop} (hA : ∀ q, qw_A w g' q → z ≤ q)
    (hr : va_Run p l e R s m args below meth c H locs cells slots 0 0 (F0 m pc ls st0) rest (qw_Z w g' Yc Qc a) (qw_A w g')) (hS : nSt z s H locs)
    (kk : ∀ (r : Option Value) (σ' : qw_M) (H1 : Heap) (locs1 : List Loc), qw_sh (qw_yr Yc) r → Qc r σ' → qw_P w g' σ' H1 → (H.size ≤ H1.size ∧ ∀ q : Nat, q < H.size → ¬ qw_A w g' q → H1[q]? = H[q]?) → nSt z s H1 locs1 → W p l e R s m args below meth c H1 locs1 cells slots Qf (F0 m (pc + 3) ls ((r.map (qw_rv g'.2.1)).toList ++ rest))) : W p l e R s m args below meth c H locs cells slots Qf (F0 m pc ls st0) := by
  intro T hT X
  obtain ⟨v, st₀, t, T', L, h0, X', hL, e1, e2, ⟨⟨r, σ', hv, hp, hq, hb⟩, hz, hk⟩, st⟩ := hr T hT X
  cases hv
  rw [h0] at hz hk
  obtain ⟨t2, a1, b1⟩ := kk r σ' T'.heap (locs ++ L) hp hq (by rw [e1]; exact hb) ⟨by rw [e1]; exact hz, fun q h1 h2 => by rw [e1]; exact hk q h1 h2⟩
    ⟨Nat.le_trans hS.1 (by rw [e1]; exact hz), fun q h1 h2 => by rw [e1, hk q (Nat.lt_of_lt_of_le h1 hS.1) (fun z => h2 (hA q z))]; exact hS.2.1 q h1 h2, fun q hq => by
      rcases List.mem_append.mp hq with h | h
      · exact hS.2.2 q h
      · exact hA _ (hL q h)⟩ T' rfl X'
  exact ⟨t2, st t2 a1, b1⟩
theorem n_stat (C0 : nFr own cc nL g z p s m args c) (hS : nSt z s H locs) {w : qw_Wd} {g' : qw_Ad} {σ : qw_M} {Yc : qw_Y} {As rest : List Value} {idx : Nat} {Qc : Option Value → qw_M → Prop} (hM : qw_Mt qw_tw w Yc As σ Qc) (hI : qw_I w g') (hA : ∀ q, qw_A w g' q → z ≤ q) (hP : qw_P w g' σ H) (hK : va_K g'.1 (qw_cl w) (qw_ts w g') s) (hE : qw_env w g' s H)
    (w1 : Cond.methodLink own idx (qw_yn Yc) ∈ qw_tw) (w2 : Cond.static (qw_yn Yc) ∈ qw_tw) (w3 : Cond.initialized (qw_yn Yc).cls ∈ qw_tw) (w4 : qw_yc Yc ∈ qw_tw) (hd : (qw_yn Yc).cls ≠ "java/lang/invoke/MethodHandle" ∧ (qw_yn Yc).cls ≠ "java/lang/invoke/VarHandle" ∧ (parseMethodDescriptor (qw_yn Yc).desc).map (fun d => d.parameters.length) = some As.length) (hR : qw_yf Yc + 1 ≤ R.frames ∧ 8 + (qw_ym Yc + 11) + qw_yl Yc ≤ R.locals) (hcs : cells ≤ R.cells ∧ slots ≤ R.slots) (hl : ls.size = nL) {st : List Value} (hst : st = (As.map (qw_rv g'.2.1)).reverse ++ rest) (hcat : (rest.map fun v => v.category).sum ≤ 8) (hdg : decode cc pc = .ok (.invokestatic idx, 3))
    (kk : ∀ (r : Option Value) (σ' : qw_M) (H1 : Heap) (locs1 : List Loc), qw_sh (qw_yr Yc) r → Qc r σ' → qw_P w g' σ' H1 → (H.size ≤ H1.size ∧ ∀ q : Nat, q < H.size → ¬ qw_A w g' q → H1[q]? = H[q]?) → nSt z s H1 locs1 → W p l e R s m args below meth c H1 locs1 cells slots Qf (F0 m (pc + 3) ls ((r.map (qw_rv g'.2.1)).toList ++ rest))) : W p l e R s m args below meth c H locs cells slots Qf (F0 m pc ls st) := by
  obtain ⟨hx, hb, hml, hown, hts, hT, hz⟩ := C0
  have hG : GoodIn qw_tw (va_wsS own idx (qw_yn Yc) (qw_yc Yc :: qw_tw)) := fun x hx => by
    have hx2 : x ∈ qw_tw := by
      simp only [va_wsS, List.mem_append, List.mem_cons, List.not_mem_nil, or_false] at hx
      rcases hx with (rfl | rfl | rfl) | rfl | hx
      · exact w1
      · exact w2
      · exact w3
      · exact w4
      · exact hx
    exact ⟨hx2, qw_tw_good x hx2⟩
  exact n_go hA (va_runS (As := As.map (qw_rv g'.2.1)) ⟨hx, hb, hml, hown, hts⟩ (hM l g' hI) (va_cwS As.length hts hG rfl rfl rfl hd hR) ⟨qw_blind, fun U hU hW => ⟨rfl, by rw [hU]; exact hP, va_K.moved hW.alike hK, by rw [hU]; exact hE.to hW va_S.rf⟩⟩ rfl (by simp) hl hst (lv_room hcat) hdg ⟨by omega, by omega⟩) hS kk
theorem n_virt (C0 : nFr own cc nL g z p s m args c) (hS : nSt z s H locs) {w : qw_Wd} {g' : qw_Ad} {σ : qw_M} {Yc : qw_Y} {o : Nat} {As rest : List Value} {idx : Nat} {Qc : Option Value → qw_M → Prop} (hM : qw_Mt qw_tw w Yc (.ref o :: As) σ Qc) (hI : qw_I w g') (hA : ∀ q, qw_A w g' q → z ≤ q) (hP : qw_P w g' σ H) (hK : va_K g'.1 (qw_cl w) (qw_ts w g') s) (hE : qw_env w g' s H) {ci : Nat} {fs : List Value} {cq : vw_C} (ho : (qw_ws w g' σ)[o]? = some (g'.2.1 o, .inr (ci, fs))) (hcq : (qw_cl w)[ci]? = some cq) (hcn : cq.1 = (qw_yn Yc).cls)
    (w1 : Cond.methodLink own idx (qw_yn Yc) ∈ qw_tw) (w2 : Cond.instanceMethod (qw_yn Yc) ∈ qw_tw) (w2' : Cond.selects (qw_yn Yc).cls (qw_yn Yc) (qw_yn Yc) ∈ qw_tw) (w3 : Cond.initialized (qw_yn Yc).cls ∈ qw_tw) (w4 : qw_yc Yc ∈ qw_tw) (hd : (qw_yn Yc).cls ≠ "java/lang/invoke/MethodHandle" ∧ (qw_yn Yc).cls ≠ "java/lang/invoke/VarHandle" ∧ (parseMethodDescriptor (qw_yn Yc).desc).map (fun d => d.parameters.length) = some As.length) (hR : qw_yf Yc + 1 ≤ R.frames ∧ 8 + (qw_ym Yc + 11) + qw_yl Yc ≤ R.locals) (hcs : cells ≤ R.cells ∧ slots ≤ R.slots) (hl : ls.size = nL) {st : List Value} (hst : st = (As.map (qw_rv g'.2.1)).reverse ++ .ref (g'.2.1 o) :: rest) (hcat : (rest.map fun v => v.category).sum ≤ 8) (hdg : decode cc pc = .ok (.invokevirtual idx, 3))
    (kk : ∀ (r : Option Value) (σ' : qw_M) (H1 : Heap) (locs1 : List Loc), qw_sh (qw_yr Yc) r → Qc r σ' → qw_P w g' σ' H1 → (H.size ≤ H1.size ∧ ∀ q : Nat, q < H.size → ¬ qw_A w g' q → H1[q]? = H[q]?) → nSt z s H1 locs1 → W p l e R s m args below meth c H1 locs1 cells slots Qf (F0 m (pc + 3) ls ((r.map (qw_rv g'.2.1)).toList ++ rest))) : W p l e R s m args below meth c H locs cells slots Qf (F0 m pc ls st) := by
  obtain ⟨hx, hb, hml, hown, hts, hT, hz⟩ := C0
  have hG : GoodIn qw_tw (wsV own idx (qw_yn Yc).cls (qw_yn Yc) (qw_yc Yc :: qw_tw)) := fun x hx => by
    have hx2 : x ∈ qw_tw := by
      simp only [wsV, List.mem_append, List.mem_cons, List.not_mem_nil, or_false] at hx
      rcases hx with (rfl | rfl | rfl | rfl) | rfl | hx
      · exact w1
      · exact w2
      · exact w2'
      · exact w3
      · exact w4
      · exact hx
    exact ⟨hx2, qw_tw_good x hx2⟩
  have hrecv : ∃ cell : Cell, H[g'.2.1 o]? = some cell ∧ cell.vm.isStatics = false ∧ s.vm.findClass (qw_yn Yc).cls = some cell.cls := by
    have := va_recv hK hP hcq ho
    rw [hcn] at this
    exact this
  exact n_go hA (va_runV (As := As.map (qw_rv g'.2.1)) ⟨hx, hb, hml, hown, hts⟩ (hM l g' hI) (cwV As.length hts hG rfl rfl rfl ⟨rfl, hd⟩ hR) ⟨qw_blind, hrecv, fun U hU hW => ⟨rfl, by rw [hU]; exact hP, va_K.moved hW.alike hK, by rw [hU]; exact hE.to hW va_S.rf⟩⟩ rfl (by simp) hl hst (lv_room hcat) hdg ⟨by omega, by omega⟩) hS kk
/-- the world behind a call: some cells written, the others as they were -/
theorem n_join {H1 : Heap} {ws' wc wc' : va_W} (h : nWd g z ws H) (isC isR : List Nat) (hC : isC.map (fun i => ws[i]?) = wc.map some) (hC' : isC.map (fun i => ws'[i]?) = wc'.map some) (hR : isR.map (fun i => ws[i]?) = isR.map (fun i => ws'[i]?)) (hf : ws.map (fun x => x.1) = ws'.map (fun x => x.1)) (hall : ∀ i, i < ws'.length → i ∈ isC ∨ i ∈ isR) (hdis : ∀ i ∈ isR, i ∉ isC)
    (hk : ∀ q : Nat, q < H.size → (∀ x ∈ wc, x.1 ≠ q) → H1[q]? = H[q]?) (hP1 : va_P g.1 qc_cl wc' H1) : nWd g z ws' H1 := by
  obtain ⟨hP, hD⟩ := h
  have hfst : ∀ (i : Nat) (x : Nat × va_E), ws'[i]? = some x → ∃ y : Nat × va_E, ws[i]? = some y ∧ y.1 = x.1 := fun i x hx => by
    have h1 : (ws'.map (fun x => x.1))[i]? = some x.1 := by rw [List.getElem?_map, hx]; rfl
    rw [← hf, List.getElem?_map] at h1
    cases hy : ws[i]? with
    | none => rw [hy] at h1; cases h1
    | some y => rw [hy] at h1; exact ⟨y, rfl, Option.some.inj h1⟩
  refine ⟨fun i x hx => ?_, fun i j a b hi hj hab => ?_, fun i x hx => ?_⟩
  · rcases hall i (List.getElem?_eq_some_iff.mp hx).1 with hi | hi
    · obtain ⟨k, hk0⟩ := List.getElem?_of_mem hi
      have h1 : (isC.map (fun i => ws'[i]?))[k]? = some (some x) := by rw [List.getElem?_map, hk0]; simp [hx]
      rw [hC', List.getElem?_map] at h1
      cases hw : wc'[k]? with
      | none => rw [hw] at h1; cases h1
      | some y =>
        rw [hw] at h1
        have : y = x := Option.some.inj (Option.some.inj h1)
        subst this
        exact hP1 k y hw
    · obtain ⟨k, hk0⟩ := List.getElem?_of_mem hi
      have h1 : (isR.map (fun i => ws'[i]?))[k]? = some (some x) := by rw [List.getElem?_map, hk0]; simp [hx]
      rw [← hR, List.getElem?_map, hk0] at h1
      have h2 : ws[i]? = some x := Option.some.inj h1
      refine (hP i x h2).kept (hk x.1 (hP i x h2).lt fun y hy hyx => ?_)
      obtain ⟨k2, hk2⟩ := List.getElem?_of_mem hy
      have h3 : (isC.map (fun i => ws[i]?))[k2]? = some (some y) := by rw [hC, List.getElem?_map, hk2]; rfl
      rw [List.getElem?_map] at h3
      cases hi2 : isC[k2]? with
      | none => rw [hi2] at h3; cases h3
      | some i2 =>
        rw [hi2] at h3
        have h4 : ws[i2]? = some y := Option.some.inj h3
        have := hD.1 _ _ _ _ h4 h2 hyx
        subst this
        exact hdis _ hi (List.mem_of_getElem? hi2)
  · obtain ⟨a', h1, h2⟩ := hfst i a hi
    obtain ⟨b', h3, h4⟩ := hfst j b hj
    exact hD.1 i j a' b' h1 h3 (by rw [h2, h4]; exact hab)
  · obtain ⟨x', h1, h2⟩ := hfst i x hx
    rw [← h2]
    exact hD.2 i x' h1
/-- the empty world's calls leave everything -/
theorem nWd.keep {H1 : Heap} (h : nWd g z ws H) (hk : ∀ q : Nat, q < H.size → H1[q]? = H[q]?) : nWd g z ws H1 := ⟨h.1.kept fun k q hq => hk q.1 (h.1 k q hq).lt, h.2⟩
end NCALL
theorem nWd.asc {g : qw_Ad} {z : Nat} {a b d : va_W} {H : Heap} (h : nWd g z ((a ++ b) ++ d) H) : nWd g z (a ++ (b ++ d)) H := by
  rw [List.append_assoc] at h
  exact h
theorem nWd.st {g : qw_Ad} {z : Nat} {pre tl : va_W} {i : Nat} {x : Nat × va_E} {H : Heap} (h : nWd g z ((pre ++ tl).set (pre.length + i) x) H) : nWd g z (pre ++ tl.set i x) H := by
  rw [nx_set] at h
  exact h
theorem nx_pre {pre tl : va_W} {i : Nat} {x : Nat × va_E} (h : pre[i]? = some x) : (pre ++ tl)[i]? = some x := by
  rw [List.getElem?_append_left (List.getElem?_eq_some_iff.mp h).1]
  exact h
abbrev eA (g : qw_Ad) (n : Nat) (f : Nat → Int32) : va_E := .inl (g.2.2 0, n, .inl f)
abbrev eO (ci : Nat) (fs : List Value) : va_E := .inr (ci, fs)
abbrev eQ (g : qw_Ad) (n : Nat) (f : Nat → Option Nat) : va_E := .inl (g.2.2 2, n, .inr (.inr (.inr (.inr f))))
