/-! THE LAW'S CALLS: both worlds side by side -/
theorem va_P.left {D : va_G} {cl : List vw_C} {a b : va_W} {H : Heap} (h : va_P D cl (a ++ b) H) : va_P D cl a H := fun k q hk => h k q (by rw [List.getElem?_append_left (List.getElem?_eq_some_iff.mp hk).1]; exact hk)
theorem va_P.right {D : va_G} {cl : List vw_C} {a b : va_W} {H : Heap} (h : va_P D cl (a ++ b) H) : va_P D cl b H := fun k q hk => h (a.length + k) q (by rw [List.getElem?_append_right (Nat.le_add_right _ _), Nat.add_sub_cancel_left]; exact hk)
theorem va_D.fst {A : Nat → Prop} {ws ws' : va_W} (h : va_D A ws) (hf : ws.map (fun x => x.1) = ws'.map (fun x => x.1)) : va_D A ws' := by
  have key : ∀ (i : Nat) (x : Nat × va_E), ws'[i]? = some x → ∃ y : Nat × va_E, ws[i]? = some y ∧ y.1 = x.1 := fun i x hx => by
    have h1 : (ws'.map (fun x => x.1))[i]? = some x.1 := by rw [List.getElem?_map, hx]; rfl
    rw [← hf, List.getElem?_map] at h1
    cases hy : ws[i]? with
    | none => rw [hy] at h1; cases h1
    | some y => rw [hy] at h1; exact ⟨y, rfl, Option.some.inj h1⟩
  refine ⟨fun i j a b hi hj hab => ?_, fun i x hx => ?_⟩
  · obtain ⟨a', h1, h2⟩ := key i a hi
    obtain ⟨b', h3, h4⟩ := key j b hj
    exact h.1 i j a' b' h1 h3 (by rw [h2, h4]; exact hab)
  · obtain ⟨x', h1, h2⟩ := key i x hx
    rw [← h2]
    exact h.2 i x' h1
theorem qw_ws_fst {w : qw_Wd} {g : qw_Ad} {σ σ' : qw_M} : (qw_ws w g σ).map (fun x => x.1) = (qw_ws w g σ').map (fun x => x.1) := by
  unfold qw_ws
  rw [List.map_map, List.map_map]
  rfl
theorem qw_ws_len {w : qw_Wd} {g : qw_Ad} {σ : qw_M} : (qw_ws w g σ).length = qw_n w := by simp [qw_ws]
section NLAW
variable {own : String} {cc : ByteArray} {nL : Nat} {g : qw_Ad} {z : Nat} {p : Program} {l : Launch} {e : Env} {R : Room} {s : State} {m : MethodId} {args : Array Value} {below : List Frame} {meth : Method} {c : Code} {H : Heap} {locs : List Loc} {cells slots : Nat} {Qf : State → Prop} {pc : Nat} {ls : Array Slot} {ws : va_W}
/-- a call into one of two worlds -/
theorem n_law (C0 : nFr own cc nL g z p s m args c) {Wl Wr : va_W} {w : qw_Wd} {a : Nat → Nat} {σ : qw_M} (h : nWd g z (Wl ++ (qw_ws w (g.1, a, g.2.2) σ ++ Wr)) H) (hS : nSt z s H locs) (hcl : qw_cl w = qc_cl) (hE : (∀ q, qw_A w (g.1, a, g.2.2) q → z ≤ q) → qw_env w (g.1, a, g.2.2) s H) (hK : va_K g.1 (qw_cl w) (qw_ts w (g.1, a, g.2.2)) s) {Yc : qw_Y} {As rest : List Value} {idx : Nat} {Qc : Option Value → qw_M → Prop} (hM : qw_Mt qw_tw w Yc (.ref 0 :: As) σ Qc) {ci : Nat} {fs : List Value} {cq : vw_C} (h0 : 0 < qw_n w) (ho : qw_cf w 0 (σ 0) = .inr (.inr (ci, fs))) (hcq : (qw_cl w)[ci]? = some cq) (hcn : cq.1 = (qw_yn Yc).cls)
    (w1 : Cond.methodLink own idx (qw_yn Yc) ∈ qw_tw) (w2 : Cond.instanceMethod (qw_yn Yc) ∈ qw_tw) (w2' : Cond.selects (qw_yn Yc).cls (qw_yn Yc) (qw_yn Yc) ∈ qw_tw) (w3 : Cond.initialized (qw_yn Yc).cls ∈ qw_tw) (w4 : qw_yc Yc ∈ qw_tw) (hd : (qw_yn Yc).cls ≠ "java/lang/invoke/MethodHandle" ∧ (qw_yn Yc).cls ≠ "java/lang/invoke/VarHandle" ∧ (parseMethodDescriptor (qw_yn Yc).desc).map (fun d => d.parameters.length) = some As.length) (hR : qw_yf Yc + 1 ≤ R.frames ∧ 8 + (qw_ym Yc + 11) + qw_yl Yc ≤ R.locals) (hcs : cells ≤ R.cells ∧ slots ≤ R.slots) (hl : ls.size = nL) {st : List Value} (hst : st = (As.map (qw_rv a)).reverse ++ .ref (a 0) :: rest) (hcat : (rest.map fun v => v.category).sum ≤ 8) (hdg : decode cc pc = .ok (.invokevirtual idx, 3))
    (kk : ∀ (r : Option Value) (σ' : qw_M) (H1 : Heap) (locs1 : List Loc), Qc r σ' → nWd g z (Wl ++ (qw_ws w (g.1, a, g.2.2) σ' ++ Wr)) H1 → nSt z s H1 locs1 → W p l e R s m args below meth c H1 locs1 cells slots Qf (F0 m (pc + 3) ls ((r.map (qw_rv a)).toList ++ rest))) : W p l e R s m args below meth c H locs cells slots Qf (F0 m pc ls st) := by
  have at' : ∀ k, k < qw_n w → ∃ x : va_E, (Wl ++ (qw_ws w (g.1, a, g.2.2) σ ++ Wr))[Wl.length + k]? = some (a k, x) := fun k hk => by
    refine ⟨qw_re (g.1, a, g.2.2) (σ k) (qw_cf w k (σ k)), ?_⟩
    rw [List.getElem?_append_right (Nat.le_add_right _ _), Nat.add_sub_cancel_left, List.getElem?_append_left (by rw [qw_ws_len]; exact hk), qw_ws_at hk]
  have hI : qw_I w (g.1, a, g.2.2) := fun i j hi hj hij => by
    obtain ⟨x, hx⟩ := at' i hi
    obtain ⟨y, hy⟩ := at' j hj
    have := h.2.1 _ _ _ _ hx hy hij
    omega
  have hA : ∀ q, qw_A w (g.1, a, g.2.2) q → z ≤ q := by
    rintro q ⟨k, hk, rfl⟩
    obtain ⟨x, hx⟩ := at' k hk
    exact h.2.2 _ _ hx
  have hP : qw_P w (g.1, a, g.2.2) σ H := by
    unfold qw_P
    rw [hcl]
    exact h.1.right.left
  refine n_virt (rest := rest) C0 hS hM hI hA hP hK (hE hA) (ci := ci) (fs := fs.map (qw_rv a)) (by rw [qw_ws_at h0, ho]; rfl) hcq hcn w1 w2 w2' w3 w4 hd hR hcs hl hst hcat hdg (fun r σ' H1 locs1 _ hq hP1 hfr hS1 => kk r σ' H1 locs1 hq ⟨?_, ?_⟩ hS1)
  · have hP1 : va_P g.1 qc_cl (qw_ws w (g.1, a, g.2.2) σ') H1 := by
      have := hP1
      unfold qw_P at this
      rw [hcl] at this
      exact this
    refine (h.1.left.kept fun k q hk => hfr.2 q.1 (h.1.left k q hk).lt ?_).app (hP1.app (h.1.right.right.kept fun k q hk => hfr.2 q.1 (h.1.right.right k q hk).lt ?_))
    · rintro ⟨k2, hk2, e⟩
      obtain ⟨x, hx⟩ := at' k2 hk2
      have hkl := (List.getElem?_eq_some_iff.mp hk).1
      have := h.2.1 k _ q _ (by rw [List.getElem?_append_left hkl]; exact hk) hx e
      omega
    · rintro ⟨k2, hk2, e⟩
      obtain ⟨x, hx⟩ := at' k2 hk2
      have := h.2.1 (Wl.length + (qw_n w + k)) _ q _ (by rw [List.getElem?_append_right (Nat.le_add_right _ _), Nat.add_sub_cancel_left, List.getElem?_append_right (by rw [qw_ws_len]; omega), qw_ws_len, Nat.add_sub_cancel_left]; exact hk) hx e
      omega
  · refine h.2.fst ?_
    rw [List.map_append, List.map_append, List.map_append, List.map_append, qw_ws_fst (σ := σ) (σ' := σ')]
/-- both worlds -/
abbrev nLW (g : qw_Ad) (aC aM : Nat → Nat) (σC σM : qw_M) : va_W := qw_ws wC (g.1, aC, g.2.2) σC ++ qw_ws wM (g.1, aM, g.2.2) σM
theorem n_lawC (C0 : nFr own cc nL g z p s m args c) {aC aM : Nat → Nat} {σC σM : qw_M} (h : nWd g z (nLW g aC aM σC σM) H) (hS : nSt z s H locs) (hEv : nEv aC z s s.heap) {Yc : qw_Y} {As rest : List Value} {idx : Nat} {K : qw_M → Prop} {v : Value} (hM : qw_Mt qw_tw wC Yc (.ref 0 :: As) σC (fun r σ' => K σ' ∧ r = some v)) (hv : ∀ b, qw_rv b v = v) (hAs : ∀ b, As.map (qw_rv b) = As) (hcn : "ShadowTheatre" = (qw_yn Yc).cls)
    (w1 : Cond.methodLink own idx (qw_yn Yc) ∈ qw_tw) (w2 : Cond.instanceMethod (qw_yn Yc) ∈ qw_tw) (w2' : Cond.selects (qw_yn Yc).cls (qw_yn Yc) (qw_yn Yc) ∈ qw_tw) (w3 : Cond.initialized (qw_yn Yc).cls ∈ qw_tw) (w4 : qw_yc Yc ∈ qw_tw) (hd : (qw_yn Yc).cls ≠ "java/lang/invoke/MethodHandle" ∧ (qw_yn Yc).cls ≠ "java/lang/invoke/VarHandle" ∧ (parseMethodDescriptor (qw_yn Yc).desc).map (fun d => d.parameters.length) = some As.length) (hR : qw_yf Yc + 1 ≤ R.frames ∧ 8 + (qw_ym Yc + 11) + qw_yl Yc ≤ R.locals) (hcs : cells ≤ R.cells ∧ slots ≤ R.slots) (hl : ls.size = nL) {st : List Value} (hst : st = As.reverse ++ .ref (aC 0) :: rest) (hcat : (rest.map fun v => v.category).sum ≤ 8) (hdg : decode cc pc = .ok (.invokevirtual idx, 3))
    (kk : ∀ (σ' : qw_M) (H1 : Heap) (locs1 : List Loc), K σ' → nWd g z (nLW g aC aM σ' σM) H1 → nSt z s H1 locs1 → W p l e R s m args below meth c H1 locs1 cells slots Qf (F0 m (pc + 3) ls (v :: rest))) : W p l e R s m args below meth c H locs cells slots Qf (F0 m pc ls st) := by
  refine n_law C0 (Wl := []) (Wr := qw_ws wM (g.1, aM, g.2.2) σM) (w := wC) (a := aC) (rest := rest) h hS rfl (fun hA => hEv.env hS hA C0.2.2.2.2.2.1.2.1) C0.2.2.2.2.2.1.1 hM (ci := 11) (by decide) rfl rfl hcn w1 w2 w2' w3 w4 hd hR hcs hl (by rw [hAs]; exact hst) hcat hdg (fun r σ' H1 locs1 hq hw hS1 => ?_)
  obtain ⟨hk, rfl⟩ := hq
  have := kk σ' H1 locs1 hk hw hS1
  show W p l e R s m args below meth c H1 locs1 cells slots Qf (F0 m (pc + 3) ls (qw_rv aC v :: rest))
  rw [hv]
  exact this
theorem n_lawM (C0 : nFr own cc nL g z p s m args c) {aC aM : Nat → Nat} {σC σM : qw_M} (h : nWd g z (nLW g aC aM σC σM) H) (hS : nSt z s H locs) {Yc : qw_Y} {As rest : List Value} {idx : Nat} {K : qw_M → Prop} {v : Value} (hM : qw_Mt qw_tw wM Yc (.ref 0 :: As) σM (fun r σ' => K σ' ∧ r = some v)) (hv : ∀ b, qw_rv b v = v) (hAs : ∀ b, As.map (qw_rv b) = As) (hcn : "ShadowTheatreModel" = (qw_yn Yc).cls)
    (w1 : Cond.methodLink own idx (qw_yn Yc) ∈ qw_tw) (w2 : Cond.instanceMethod (qw_yn Yc) ∈ qw_tw) (w2' : Cond.selects (qw_yn Yc).cls (qw_yn Yc) (qw_yn Yc) ∈ qw_tw) (w3 : Cond.initialized (qw_yn Yc).cls ∈ qw_tw) (w4 : qw_yc Yc ∈ qw_tw) (hd : (qw_yn Yc).cls ≠ "java/lang/invoke/MethodHandle" ∧ (qw_yn Yc).cls ≠ "java/lang/invoke/VarHandle" ∧ (parseMethodDescriptor (qw_yn Yc).desc).map (fun d => d.parameters.length) = some As.length) (hR : qw_yf Yc + 1 ≤ R.frames ∧ 8 + (qw_ym Yc + 11) + qw_yl Yc ≤ R.locals) (hcs : cells ≤ R.cells ∧ slots ≤ R.slots) (hl : ls.size = nL) {st : List Value} (hst : st = As.reverse ++ .ref (aM 0) :: rest) (hcat : (rest.map fun v => v.category).sum ≤ 8) (hdg : decode cc pc = .ok (.invokevirtual idx, 3))
    (kk : ∀ (σ' : qw_M) (H1 : Heap) (locs1 : List Loc), K σ' → nWd g z (nLW g aC aM σC σ') H1 → nSt z s H1 locs1 → W p l e R s m args below meth c H1 locs1 cells slots Qf (F0 m (pc + 3) ls (v :: rest))) : W p l e R s m args below meth c H locs cells slots Qf (F0 m pc ls st) := by
  refine n_law C0 (Wl := qw_ws wC (g.1, aC, g.2.2) σC) (Wr := []) (w := wM) (a := aM) (rest := rest) (by rw [List.append_nil]; exact h) hS rfl (fun hA => ⟨fun k hk => absurd hk (Nat.not_lt_zero k), fun k hk => absurd hk (Nat.not_lt_zero k), fun q hq => (by cases hq), C0.2.2.2.2.2.1.2.1, fun i hi => absurd hi (Nat.not_lt_zero i), fun q hq => (by cases hq)⟩) C0.2.2.2.2.2.1.1 hM (ci := 12) (by decide) rfl rfl hcn w1 w2 w2' w3 w4 hd hR hcs hl (by rw [hAs]; exact hst) hcat hdg (fun r σ' H1 locs1 hq hw hS1 => ?_)
  obtain ⟨hk, rfl⟩ := hq
  rw [List.append_nil] at hw
  have := kk σ' H1 locs1 hk hw hS1
  show W p l e R s m args below meth c H1 locs1 cells slots Qf (F0 m (pc + 3) ls (qw_rv aM v :: rest))
  rw [hv]
  exact this
end NLAW
