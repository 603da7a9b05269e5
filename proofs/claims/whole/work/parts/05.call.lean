/-! CORE 5: calls, runs, methods -/
section QS4
variable {tw : List Cond} {w : qw_Wd} {K : qw_K} {Y : qw_Y} {Q : Option Value → qw_M → Prop}
theorem qw_mapA {g : qw_Ad} (r : Option Value) (rest : List Value) : (r.toList ++ rest).map (qw_rv g.2.1) = (r.map (qw_rv g.2.1)).toList ++ rest.map (qw_rv g.2.1) := by
  cases r <;> rfl
theorem qw_catS {g : qw_Ad} (rest : List Value) : ((rest.map (qw_rv g.2.1)).map fun v => v.category).sum = (rest.map fun v => v.category).sum := by
  rw [List.map_map]
  congr 1
  apply List.map_congr_left
  intro v _
  exact qw_cat _ v
theorem qw_step_invokevirtual (hok : qw_ok tw w K) {k : Nat → qw_L → List Value → qw_M → Prop} (hk : qw_On tw w K Y Q k) {pc : Nat} {ls : qw_L} {st : List Value} {σ : qw_M} {j : Nat} (hd : qw_dec (qw_yb Y) pc (.invokevirtual j)) (hF : qw_F tw w K Y Q k (.invokevirtual j) pc ls st σ) : qw_Ev tw w K Y Q pc ls st σ := by
  have hd := qw_dec1 hd rfl
  intro p l e s m args below meth c g C0 H locs hP hS lsA hl
  obtain ⟨hx, hb, hret, hml, hown, hts, hlk, hI, hK, hE⟩ := id C0
  obtain ⟨hgood, hwf, hcok, htok, hkok⟩ := id hok
  dsimp only [qw_F] at hF
  split at hF <;> try exact False.elim hF
  rename_i ci Yc hq
  split at hF <;> try exact False.elim hF
  rename_i o r e1 e2
  have e1 := Nat.le_of_ble_eq_true e1
  obtain ⟨a1, a2, a3, a4, -, a5⟩ := hkok.2.1 j _ hq
  obtain ⟨a6, a7, a8⟩ := a5 ci rfl
  have hX : qw_cal tw w Y Yc (.ref o :: (st.take (qw_yp Yc)).reverse) r σ (fun st' σ' => k (pc + 3) ls st' σ') ∧ ∃ cell : Cell, H[g.2.1 o]? = some cell ∧ cell.vm.isStatics = false ∧ s.vm.findClass (qw_yn Yc).cls = some cell.cls := by
    split at hF
    · rename_i e3
      have hF := qw_rw_inv hF
      split at hF <;> try exact False.elim hF
      rename_i c0 e4
      split at hF <;> try exact False.elim hF
      rename_i e5 e6
      have e5 := Nat.eq_of_beq_eq_true e5
      refine ⟨hF, ?_⟩
      refine (qw_cell hP hE hS (qw_lt e3)).elim ?_ (fun ⟨N0, ec, hT0⟩ => ?_)
      rotate_left
      · rw [e4] at ec; cases ec
      rintro ⟨ws, q0, hPw, hq0⟩
      rw [e4] at hq0
      rcases a8 with ⟨a8, -⟩ | ⟨cc0, a8, a9⟩
      · have := qw_lt e6
        omega
      · have := va_recv hK hPw (ci := c0.1) (q := cc0) (by rw [e5]; exact a8) hq0
        rw [a9] at this
        exact this
    · rename_i e3
      split at hF <;> try exact False.elim hF
      rename_i e5 e6
      have e5 := Nat.eq_of_beq_eq_true e5
      refine ⟨hF, ?_⟩
      have ho : qw_n w + qw_nR w + (o - (qw_n w + qw_nR w)) = o := by
        rcases Nat.lt_or_ge o (qw_n w + qw_nR w) with z | z
        · exact absurd (Nat.ble_eq_true_of_le z) (by show ¬ Nat.blt o (qw_n w + qw_nR w) = true; rw [e3]; decide)
        · omega
      have h1 := (hE.2.2.2.2.1 _ (qw_lt e6)).1
      rw [ho] at h1
      obtain ⟨cell, b1, b2, b3, -⟩ := h1.kept hS.2.1
      rcases a8 with ⟨-, a8⟩ | ⟨cc0, a8, a9⟩
      · exact ⟨cell, b1, b2, by rw [a8]; exact b3⟩
      · exact absurd a8 (by rw [e5, htok.2.2.2.2]; simp)
  obtain ⟨hF, hrecv⟩ := hX
  obtain ⟨h1, h2, h3, Qc, hM, hf⟩ := qw_cont hF
  have hst : st = (st.take (qw_yp Yc)) ++ .ref o :: r := by rw [← e2, List.take_append_drop]
  have hin : ∀ x ∈ wsV (qw_kn K) j (qw_yn Yc).cls (qw_yn Yc) (qw_yc Yc :: tw), x ∈ tw := by
    intro x hx
    simp only [wsV, List.mem_append, List.mem_cons, List.not_mem_nil, or_false] at hx
    rcases hx with (rfl | rfl | rfl | rfl) | rfl | hx
    · exact a2
    · exact a6
    · exact a7
    · exact a3
    · exact a1
    · exact hx
  have hG : GoodIn (qw_yc Y :: tw) (wsV (qw_kn K) j (qw_yn Yc).cls (qw_yn Yc) (qw_yc Yc :: tw)) := fun x hx => ⟨List.mem_cons_of_mem _ (hin x hx), hgood x (hin x hx)⟩
  have hM' := hM l g hI
  refine qw_go (rest := r.map (qw_rv g.2.1)) (va_runV (As := (st.take (qw_yp Yc)).reverse.map (qw_rv g.2.1)) ⟨hx, hb, hml, hown, hts⟩ hM' (cwV (qw_yp Yc) hts hG rfl rfl rfl ⟨rfl, a4⟩ ⟨h2, h3⟩) ⟨qw_blind, hrecv, fun U hU hW => ⟨rfl, by rw [hU]; exact hP, va_K.moved hW.alike hK, by rw [hU]; exact hE.to hW hS⟩⟩ rfl ?_ hl.1 ?_ (lv_room (by rw [qw_catS]; exact h1)) hd ⟨Nat.le_refl 0, Nat.le_refl 0⟩) hS (fun r2 σ' H1 locs1 hsh hq2 hP1 hS1 => ?_)
  · simp only [List.length_map, List.length_reverse, List.length_take]
    omega
  · show st.map (qw_rv g.2.1) = _
    conv => lhs; rw [hst]
    simp only [List.map_append, List.map_cons, List.map_reverse, List.reverse_reverse]
    rfl
  · rw [← qw_mapA]
    exact hk _ _ _ _ (hf r2 σ' hsh hq2) p l e s m args below meth c g C0 H1 locs1 hP1 hS1 lsA hl
theorem qw_step_invokestatic (hok : qw_ok tw w K) {k : Nat → qw_L → List Value → qw_M → Prop} (hk : qw_On tw w K Y Q k) {pc : Nat} {ls : qw_L} {st : List Value} {σ : qw_M} {j : Nat} (hd : qw_dec (qw_yb Y) pc (.invokestatic j)) (hF : qw_F tw w K Y Q k (.invokestatic j) pc ls st σ) : qw_Ev tw w K Y Q pc ls st σ := by
  have hd := qw_dec1 hd rfl
  intro p l e s m args below meth c g C0 H locs hP hS lsA hl
  obtain ⟨hx, hb, hret, hml, hown, hts, hlk, hI, hK, hE⟩ := id C0
  obtain ⟨hgood, hwf, hcok, htok, hkok⟩ := id hok
  dsimp only [qw_F] at hF
  split at hF <;> try exact False.elim hF
  · rename_i Yc hq
    split at hF <;> try exact False.elim hF
    rename_i e1
    have e1 := Nat.le_of_ble_eq_true e1
    obtain ⟨h1, h2, h3, Qc, hM, hf⟩ := qw_cont hF
    obtain ⟨a1, a2, a3, a4, a5, -⟩ := hkok.2.1 j _ hq
    have a5 := a5 rfl
    have hst : st = (st.take (qw_yp Yc)) ++ st.drop (qw_yp Yc) := by rw [List.take_append_drop]
    have hin : ∀ x ∈ va_wsS (qw_kn K) j (qw_yn Yc) (qw_yc Yc :: tw), x ∈ tw := by
      intro x hx
      simp only [va_wsS, List.mem_append, List.mem_cons, List.not_mem_nil, or_false] at hx
      rcases hx with (rfl | rfl | rfl) | rfl | hx
      · exact a2
      · exact a5
      · exact a3
      · exact a1
      · exact hx
    have hG : GoodIn (qw_yc Y :: tw) (va_wsS (qw_kn K) j (qw_yn Yc) (qw_yc Yc :: tw)) := fun x hx => ⟨List.mem_cons_of_mem _ (hin x hx), hgood x (hin x hx)⟩
    have hM' := hM l g hI
    refine qw_go (rest := (st.drop (qw_yp Yc)).map (qw_rv g.2.1)) (va_runS (As := (st.take (qw_yp Yc)).reverse.map (qw_rv g.2.1)) ⟨hx, hb, hml, hown, hts⟩ hM' (va_cwS (qw_yp Yc) hts hG rfl rfl rfl a4 ⟨h2, h3⟩) ⟨qw_blind, fun U hU hW => ⟨rfl, by rw [hU]; exact hP, va_K.moved hW.alike hK, by rw [hU]; exact hE.to hW hS⟩⟩ rfl ?_ hl.1 ?_ (lv_room (by rw [qw_catS]; exact h1)) hd ⟨Nat.le_refl 0, Nat.le_refl 0⟩) hS (fun r2 σ' H1 locs1 hsh hq2 hP1 hS1 => ?_)
    · simp only [List.length_map, List.length_reverse, List.length_take]
      omega
    · show st.map (qw_rv g.2.1) = _
      conv => lhs; rw [hst]
      simp only [List.map_append, List.map_reverse, List.reverse_reverse]
    · rw [← qw_mapA]
      exact hk _ _ _ _ (hf r2 σ' hsh hq2) p l e s m args below meth c g C0 H1 locs1 hP1 hS1 lsA hl
  · split at hF <;> try exact False.elim hF
    rename_i n dp o sp o0 e0
    split at hF <;> try exact False.elim hF
    rename_i q q0 e1 e2 e3 e4
    split at hF <;> try exact False.elim hF
    rename_i e5 e6
    have e5 := Nat.eq_of_beq_eq_true e5
    have e6 := Nat.eq_of_beq_eq_true e6
    obtain ⟨⟨b1, b2, b3, b4, b5⟩, ⟨b6, b7⟩, h⟩ := hF
    obtain ⟨a1, a2, a3, a4⟩ := hkok.2.2.2.2.2.1 j e0
    have hq := qw_ws_at (w := w) (g := g) (σ := σ) (qw_lt e1)
    rw [e3] at hq
    have hq0 := qw_ws_at (w := w) (g := g) (σ := σ) (qw_lt e2)
    rw [e4] at hq0
    have ht0 : (qw_ts w g)[0]? = some (g.2.2 0, FieldType.int) := by rw [qw_ts_at (Nat.lt_of_le_of_lt (Nat.zero_le _) htok.2.2.2.1), htok.1]
    refine va_copyi hx hb (hml.trans hl.1.symm) hown (hts _ (List.mem_cons_of_mem _ a1)) (hts _ (List.mem_cons_of_mem _ a2)) (hts _ (List.mem_cons_of_mem _ a3)) (hts _ (List.mem_cons_of_mem _ a4)) hK hP (qw_D hI) hS o0 o 0 0 (c0 := g.2.2 0) (c1 := g.2.2 0) (n0 := q0.2) (n1 := q.2) (f := (σ o0).1) (g := (σ o).1) (ty := .int) (by rw [hq0]; simp only [qw_re]; rw [e6]) (by rw [hq]; simp only [qw_re]; rw [e5]) ht0 ht0 rfl b1 b2 b3 b4 b5 (fun _ _ => rfl) b6 (by simpa using b7) hd (fun H1 locs1 hP1 hD1 hS1 => ?_)
    exact hk _ _ _ _ h p l e s m args below meth c g C0 H1 locs1 (qw_P.put (qw_lt e1) (by rw [hwf.1 o _ q e3]; simp only [qw_re]; rw [e5]) hP1) hS1 lsA hl
theorem qw_step (hok : qw_ok tw w K) {k : Nat → qw_L → List Value → qw_M → Prop} (hk : qw_On tw w K Y Q k) {i : Instr} {pc : Nat} {ls : qw_L} {st : List Value} {σ : qw_M} (hd : qw_dec (qw_yb Y) pc i) (hF : qw_F tw w K Y Q k i pc ls st σ) : qw_Ev tw w K Y Q pc ls st σ := by
  cases i
  case iconst => exact qw_step_iconst hok hk hd hF
  case bipush => exact qw_step_bipush hok hk hd hF
  case sipush => exact qw_step_sipush hok hk hd hF
  case lconst => exact qw_step_lconst hok hk hd hF
  case aconst_null => exact qw_step_aconst_null hok hk hd hF
  case ldc_w => exact qw_step_ldc_w hok hk hd hF
  case ldc2_w => exact qw_step_ldc2_w hok hk hd hF
  case ldc => exact qw_step_ldc hok hk hd hF
  case iload_n => exact qw_step_iload_n hok hk hd hF
  case lload_n => exact qw_step_lload_n hok hk hd hF
  case iload => exact qw_step_iload hok hk hd hF
  case lload => exact qw_step_lload hok hk hd hF
  case aload_n => exact qw_step_aload_n hok hk hd hF
  case aload => exact qw_step_aload hok hk hd hF
  case istore_n => exact qw_step_istore_n hok hk hd hF
  case istore => exact qw_step_istore hok hk hd hF
  case lstore_n => exact qw_step_lstore_n hok hk hd hF
  case lstore => exact qw_step_lstore hok hk hd hF
  case astore_n => exact qw_step_astore_n hok hk hd hF
  case astore => exact qw_step_astore hok hk hd hF
  case iinc => exact qw_step_iinc hok hk hd hF
  case iadd => exact qw_step_iadd hok hk hd hF
  case isub => exact qw_step_isub hok hk hd hF
  case imul => exact qw_step_imul hok hk hd hF
  case iand => exact qw_step_iand hok hk hd hF
  case ior => exact qw_step_ior hok hk hd hF
  case ixor => exact qw_step_ixor hok hk hd hF
  case ishl => exact qw_step_ishl hok hk hd hF
  case ishr => exact qw_step_ishr hok hk hd hF
  case iushr => exact qw_step_iushr hok hk hd hF
  case idiv => exact qw_step_idiv hok hk hd hF
  case irem => exact qw_step_irem hok hk hd hF
  case ladd => exact qw_step_ladd hok hk hd hF
  case lsub => exact qw_step_lsub hok hk hd hF
  case lmul => exact qw_step_lmul hok hk hd hF
  case lcmp => exact qw_step_lcmp hok hk hd hF
  case ldiv => exact qw_step_ldiv hok hk hd hF
  case lrem => exact qw_step_lrem hok hk hd hF
  case lshl => exact qw_step_lshl hok hk hd hF
  case i2l => exact qw_step_i2l hok hk hd hF
  case i2b => exact qw_step_i2b hok hk hd hF
  case i2s => exact qw_step_i2s hok hk hd hF
  case i2c => exact qw_step_i2c hok hk hd hF
  case dup => exact qw_step_dup hok hk hd hF
  case pop => exact qw_step_pop hok hk hd hF
  case dup2 => exact qw_step_dup2 hok hk hd hF
  case goto => exact qw_step_goto hok hk hd hF
  case ifCond => exact qw_step_ifCond hok hk hd hF
  case if_icmp => exact qw_step_if_icmp hok hk hd hF
  case ifnull => exact qw_step_ifnull hok hk hd hF
  case ifnonnull => exact qw_step_ifnonnull hok hk hd hF
  case tableswitch => exact qw_step_tableswitch hok hk hd hF
  case getstatic => exact qw_step_getstatic hok hk hd hF
  case getfield => exact qw_step_getfield hok hk hd hF
  case putfield => exact qw_step_putfield hok hk hd hF
  case arraylength => exact qw_step_arraylength hok hk hd hF
  case iaload => exact qw_step_iaload hok hk hd hF
  case baload => exact qw_step_baload hok hk hd hF
  case aaload => exact qw_step_aaload hok hk hd hF
  case iastore => exact qw_step_iastore hok hk hd hF
  case return_ => exact qw_step_return_ hok hk hd hF
  case ireturn => exact qw_step_ireturn hok hk hd hF
  case lreturn => exact qw_step_lreturn hok hk hd hF
  case areturn => exact qw_step_areturn hok hk hd hF
  case invokevirtual => exact qw_step_invokevirtual hok hk hd hF
  case invokestatic => exact qw_step_invokestatic hok hk hd hF
  all_goals exact False.elim hF
theorem qw_find_mem : ∀ {code : List (Nat × Instr)} {pc : Nat} {q : Nat × Instr}, q ∈ qw_find code pc → q ∈ code
  | [], pc, q, h => by simp [qw_find] at h
  | x :: l, pc, q, h => by
    unfold qw_find at h
    split at h
    · exact h
    · exact List.mem_cons_of_mem _ (qw_find_mem h)
theorem qw_nx_mem {code rest : List (Nat × Instr)} {pc : Nat} (hr : ∀ q ∈ rest, q ∈ code) : ∀ q ∈ qw_nx code rest pc, q ∈ code := by
  intro q h
  unfold qw_nx at h
  split at h
  · exact qw_find_mem h
  · split at h
    · exact hr q h
    · exact qw_find_mem h
/-- RUNS -/
theorem qw_runs (hok : qw_ok tw w K) {code : List (Nat × Instr)} (hcode : ∀ q ∈ code, qw_dec (qw_yb Y) q.1 q.2) {cut : List Nat} : ∀ (n : Nat) (pc : Nat) (rest : List (Nat × Instr)) (ls : qw_L) (st : List Value) (σ : qw_M), (∀ q ∈ rest, q ∈ code) → qw_run tw w K Y code cut Q (qw_Ev tw w K Y Q) n pc rest ls st σ → qw_Ev tw w K Y Q pc ls st σ
  | 0, pc, rest, ls, st, σ, _, h => h
  | n + 1, pc, [], ls, st, σ, _, h => h
  | n + 1, pc, q :: tl, ls, st, σ, hr, h => by
    unfold qw_run at h
    dsimp only at h
    split at h
    · exact h
    · rename_i hb
      have hb := Nat.eq_of_beq_eq_true hb
      have hd := hcode q (hr q List.mem_cons_self)
      rw [hb] at hd
      refine qw_step hok (fun pc' ls' st' σ' h' => ?_) hd h
      split at h'
      · exact h'
      · exact qw_runs hok hcode n pc' _ ls' st' σ' (qw_nx_mem (fun x hx => hr x (List.mem_cons_of_mem _ hx))) h'
/-- fewer locals, in another order -/
theorem qw_Ev.sub {pc : Nat} {ls ls' : qw_L} {st : List Value} {σ : qw_M} (h : qw_Ev tw w K Y Q pc ls' st σ) (hs : ∀ q ∈ ls', q ∈ ls) : qw_Ev tw w K Y Q pc ls st σ := by
  intro p l e s m args below meth c g C0 H locs hP hS lsA hl
  refine h p l e s m args below meth c g C0 H locs hP hS lsA ⟨hl.1, hl.2.1, fun q hq => ?_⟩
  obtain ⟨q0, h1, rfl⟩ := List.mem_map.mp hq
  exact hl.2.2 _ (List.mem_map.mpr ⟨q0, hs q0 h1, rfl⟩)
theorem qw_lma (a : Nat → Nat) : ∀ (av : List Value) (i : Nat), lv_args i (av.map (qw_rv a)) = qw_lm a (lv_args i av)
  | [], i => rfl
  | v :: av, i => by
    show (i, qw_rv a v) :: lv_args (if (qw_rv a v).category = 2 then i + 2 else i + 1) (av.map (qw_rv a)) = (i, qw_rv a v) :: qw_lm a (lv_args (if v.category = 2 then i + 2 else i + 1) av)
    rw [qw_cat, qw_lma a av]
theorem qw_sll (a : Nat → Nat) (av : List Value) : (lg_sl (av.map (qw_rv a))).length = (lg_sl av).length := by
  induction av with
  | nil => rfl
  | cons v av ih =>
    unfold lg_sl at ih ⊢
    simp only [List.map_cons, List.flatMap_cons, List.length_append, qw_cat, ih]
    by_cases h : v.category = 2 <;> simp [h]
/-- A METHOD -/
theorem qw_Mt.of (hcls : (qw_yn Y).cls = qw_kn K) (hpl : plainFor (qw_yn Y) = true) {av : List Value} {σ : qw_M} (hn : Nat.ble (lg_sl av).length (qw_ym Y) = true) (h : qw_Ev tw w K Y Q 0 (lv_args 0 av) [] σ) : qw_Mt tw w Y av σ Q := by
  intro l g hI
  refine va_MetF (cc := qw_yb Y) (maxL := qw_ym Y) (ret := qw_yr Y) hpl rfl ?_
  intro p e s m args below meth c s₁ B hml hv
  obtain ⟨rfl, hP, hK, hE⟩ := hv
  have hown : s.vm.findClass (qw_kn K) = some m.cls := by rw [← hcls]; exact findClass_of_methodNamed B.named
  have hl := lv_entry (av.map (qw_rv g.2.1)) (n := qw_ym Y) (by rw [qw_sll]; exact Nat.le_of_ble_eq_true hn)
  rw [lg_entry_eq]
  rw [qw_lma] at hl
  exact h p l e s m _ below meth c g ⟨B.exec, B.bytes, B.returns, hml, hown, atoms_spec (ws := qw_yc Y :: tw) B.pre, B.notSynchronized, hI, hK, hE⟩ s.heap [] hP va_S.rf _ hl
theorem qw_Z.mono {g : qw_Ad} {Q2 : Option Value → qw_M → Prop} (h : ∀ r σ, Q r σ → Q2 r σ) {a : Array Value} {s t : State} {o : Outcome} (hz : qw_Z w g Y Q a s o t) : qw_Z w g Y Q2 a s o t := by
  obtain ⟨⟨r, σ', h1, h2, h3, h4⟩, h5⟩ := hz
  exact ⟨⟨r, σ', h1, h2, h r σ' h3, h4⟩, h5⟩
end QS4
