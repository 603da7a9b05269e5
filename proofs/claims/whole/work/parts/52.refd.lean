/-! The reference: the digest -/
section
variable {σ σ' : qw_M} {A : AS}
/-- it goes on: kept, found -/
def kt (σ : qw_M) (A : AS) : Prop := KM σ A ∧ thA σ A
theorem kt.s {l : List Nat} (h : KM σ A) (hf : frM l [] σ σ') (hl : ∀ k ∈ l, k ∈ scM) (t : thA σ' A) : kt σ' A := ⟨h.sc (toS hf hl), t⟩
theorem w_hang (h : kt σ A) {f s w : Nat} (hk : f < tF (aT A)) (hs : s < 20) (hw : w < 3) : qw_Mt qw_tw wM my_X12_hangOf [.ref 0, .int (nI f), .int (nI s), .int (nI w)] σ (fun r σ' => kt σ' A ∧ r = some (.int (hgA A f s w))) := by
  refine mt_mono (r_hangOf h.2 hk hs hw) (fun r σ' ⟨k1, k2, i, k3, k4⟩ => ⟨kt.s h.1 k1 s7 k2, ?_⟩)
  rw [k4, the_amn k3]
  rfl
theorem w_shift (h : kt σ A) {s w : Nat} (hs : s < 20) (hw : w < 2) : qw_Mt qw_tw wM my_X12_shiftOf [.ref 0, .int (nI s), .int (nI w)] σ (fun r σ' => kt σ' A ∧ r = some (.int (sfA A s w))) := by
  refine mt_mono (r_shiftOf h.2 hs hw) (fun r σ' ⟨k1, k2, i, k3, k4⟩ => ⟨kt.s h.1 k1 s13 k2, ?_⟩)
  rw [k4, the_amn k3]
  rfl
theorem w_leave (h : kt σ A) {s i : Nat} (hs : s < 20) (hi : i < 3) : qw_Mt qw_tw wM my_X12_leaveOf [.ref 0, .int (nI s), .int (dn i)] σ (fun r σ' => kt σ' A ∧ r = some (.int (leA A s i))) := by
  refine mt_mono (r_leaveOf h.2 hs hi) (fun r σ' ⟨k1, k2, x, k3, k4⟩ => ⟨kt.s h.1 k1 s13 k2, ?_⟩)
  rw [k3, the_pk k4]
  rfl
theorem w_more (h : kt σ A) {i : Nat} (hi : i < 3) : qw_Mt qw_tw wM my_X12_moreOf [.ref 0, .int (dn i)] σ (fun r σ' => kt σ' A ∧ r = some (.int (moA A i))) := by
  refine mt_mono (r_moreOf h.2 hi) (fun r σ' ⟨k1, k2, x, k3, k4⟩ => ⟨kt.s h.1 k1 s13 k2, ?_⟩)
  rw [k3, the_pk k4]
  rfl
theorem w_never (h : kt σ A) : qw_Mt qw_tw wM my_X12_neverNow [.ref 0] σ (fun r σ' => kt σ' A ∧ r = some (.int (neA A))) := mt_mono (r_neverNow h.2 h.1.2.2.2.1) (fun r σ' ⟨k1, k2, k3⟩ => ⟨kt.s h.1 k1 s13 k2, k3⟩)
theorem w_colour (h : kt σ A) {f : Nat} (hk : f < tF (aT A)) : qw_Mt qw_tw wM my_X12_colourBy [.ref 0, .int (nI f)] σ (fun r σ' => kt σ' A ∧ r = some (.int (coA A f))) := mt_mono (r_colourBy h.2 h.1.2.2.2.1 hk) (fun r σ' ⟨k1, k2, k3⟩ => ⟨kt.s h.1 k1 s7 k2, k3⟩)
theorem w_deep (h : kt σ A) {f : Nat} (hk : f < tF (aT A)) : qw_Mt qw_tw wM my_X12_deepOf [.ref 0, .int (nI f)] σ (fun r σ' => kt σ' A ∧ r = some (.int (deA A f))) := mt_mono (r_deepOf h.2 h.1.2.2.2.1 hk) (fun r σ' ⟨k1, k2, k3⟩ => ⟨kt.s h.1 k1 s7 k2, k3⟩)
theorem w_ask (h : kt σ A) {f : Nat} (hk : f < tF (aT A)) : qw_Mt qw_tw wM my_X12_askOf [.ref 0, .int (nI f)] σ (fun r σ' => kt σ' A ∧ r = some (.int (akA A f))) := by
  refine mt_mono (r_askOf h.2 h.1.2.2.2.1 hk (mk := deA A f) rfl) (fun r σ' ⟨k1, k2, i, k3, k4⟩ => ⟨kt.s h.1 k1 s18 k2, ?_⟩)
  rw [k4, the_amn k3]
  rfl
theorem w_stumble (h : kt σ A) {c l s w : Nat} (hc : c ≤ 16) (hl : l < 10) (hs : s < 20) (hw : w < 2) : qw_Mt qw_tw wM my_X12_stumbleOf [.ref 0, .int (nI c), .int (nI l), .int (nI s), .int (nI w)] σ (fun r σ' => kt σ' A ∧ r = some (.long (suA A c l s w))) := mt_mono (r_stumbleOf h.2 hc hl hs hw) (fun r σ' ⟨k1, k2, k3⟩ => ⟨kt.s h.1 k1 s13 k2, k3⟩)
theorem w_play (h : kt σ A) (x : Int32) {m w : Nat} (hm : m ≤ 20) (hw : w < 2) : qw_Mt qw_tw wM my_X12_playOf [.ref 0, .int x, .int (nI m), .int (nI w)] σ (fun r σ' => kt σ' A ∧ r = some (.int (plA A x m w))) := mt_mono (r_playOf h.1 h.2 x hm hw) (fun r σ' ⟨k1, k2, k3, k4⟩ => ⟨⟨k2, k3⟩, k4⟩)
theorem w_lives (h : kt σ A) : qw_Mt qw_tw wM my_X12_lives [.ref 0] σ (fun _ σ' => kt σ' A ∧ lvd σ' (aT A) (aC A) nsk) := mt_mono (r_livesT h.2) (fun r σ' ⟨k1, k2, k3, k4⟩ => ⟨kt.s h.1 k1 s13 k2, k3⟩)
theorem r_tellsAt (h : kt σ A) (hd : lvd σ (aT A) (aC A) nsk) (z : Int64) {s f : Nat} (hs : s < 20) (hk : f < tF (aT A)) : qw_Mt qw_tw wM my_X12_tellsAt [.ref 0, .long z, .int (nI s), .int (nI f)] σ (fun r σ' => σ' = σ ∧ r = some (.long (mxs (wat (aT A) (aL A) (ps (aT A) (aC A) s) f) z 4))) := by
  refine mt_X12_tellsAt rfl ?_
  have loop : ∀ (m j : Nat) (y : Int32) (v : Int64) (ls : qw_L), j + m = 4 → y = nI j → v = mxs (wat (aT A) (aL A) (ps (aT A) (aC A) s) f) z j → (∀ q ∈ [(0, Value.ref 0), (1, .long z), (3, .int (nI s)), (4, .int (nI f)), (5, .long v), (7, .int y)], q ∈ ls) → E_X12_tellsAt (fun r σ' => σ' = σ ∧ r = some (.long (mxs (wat (aT A) (aL A) (ps (aT A) (aC A) s) f) z 4))) 6 ls [] σ := by
    intro m
    induction m with
    | zero =>
      intro j y v ls hj hy hv hls
      subst hy hv
      have : j = 4 := by omega
      subst this
      refine qw_Ev.sub (ev_X12_tellsAt [] 100 ?_) hls
      refine vt (Int32.le_refl _) ?_
      exact ⟨rfl, rfl⟩
    | succ m ih =>
      intro j y v ls hj hy hv hls
      subst hy hv
      refine qw_Ev.sub (ev_X12_tellsAt [6] 100 ?_) hls
      refine vf (nnle 4 j (by omega) (by omega)) ?_
      refine ⟨trivial, _, r_atOf h.2.1 h.2.2.2.2.2.1 (hd s hs) h.2.2.2.2.2.2 hs hk (w := j) (by omega), fun y σ2 ⟨k1, k2⟩ => ?_⟩
      have k1 := k1.symm
      subst k1
      have k2 := Value.int.inj (Option.some.inj k2)
      subst k2
      exact ih (j + 1) _ _ _ (by omega) (nI_add j 1) rfl (sub_pre rfl)
  refine ev_X12_tellsAt [6] 100 ?_
  exact loop 4 0 _ _ _ rfl rfl rfl (sub_pre rfl)
theorem r_tellsFigure (h : kt σ A) (z : Int64) {f : Nat} (hk : f < tF (aT A)) : qw_Mt qw_tw wM my_X12_tellsFigure [.ref 0, .long z, .int (nI f)] σ (fun r σ' => kt σ' A ∧ r = some (.long (dgF A z f))) := by
  generalize hQ : (fun (r : Option Value) (σ' : qw_M) => kt σ' A ∧ r = some (.long (dgF A z f))) = Q
  refine mt_X12_tellsFigure (Q := Q) rfl ?_
  have loop2 : ∀ (m j : Nat) (y : Int32) (v : Int64) (ls : qw_L) (σ' : qw_M), j + m = 3 → y = nI j → v = mxs (hgA A f 9) (mxs (wat (aT A) (aL A) (ps (aT A) (aC A) 19) f) (mxs (wat (aT A) (aL A) (ps (aT A) (aC A) 9) f) (mxs (dtl (aT A) f) z 10) 4) 4) j → kt σ' A → (∀ q ∈ [(0, Value.ref 0), (1, .long z), (3, .int (nI f)), (4, .long v), (6, .int y)], q ∈ ls) → E_X12_tellsFigure Q 61 ls [] σ' := by
    intro m
    induction m with
    | zero =>
      intro j y v ls σ' hj hy hv h' hls
      subst hy hv
      have : j = 3 := by omega
      subst this
      refine qw_Ev.sub (ev_X12_tellsFigure [] 100 ?_) hls
      refine vt (Int32.le_refl _) ?_
      refine ⟨trivial, _, w_colour h' hk, fun y σ2 ⟨k1, k2⟩ => ?_⟩
      have k2 := Value.int.inj (Option.some.inj k2)
      subst k2
      refine ⟨trivial, _, w_deep k1 hk, fun y σ3 ⟨l1, l2⟩ => ?_⟩
      have l2 := Value.int.inj (Option.some.inj l2)
      subst l2
      refine ⟨trivial, _, w_ask l1 hk, fun y σ4 ⟨m1, m2⟩ => ?_⟩
      have m2 := Value.int.inj (Option.some.inj m2)
      subst m2
      subst hQ
      exact ⟨m1, rfl⟩
    | succ m ih =>
      intro j y v ls σ' hj hy hv h' hls
      subst hy hv
      refine qw_Ev.sub (ev_X12_tellsFigure [61] 100 ?_) hls
      refine vf (nnle 3 j (by omega) (by omega)) ?_
      refine ⟨trivial, _, w_hang h' hk (s := 9) (w := j) (by decide) (by omega), fun y σ2 ⟨k1, k2⟩ => ?_⟩
      have k2 := Value.int.inj (Option.some.inj k2)
      subst k2
      exact ih (j + 1) _ _ _ _ (by omega) (nI_add j 1) rfl k1 (sub_pre rfl)
  have loop1 : ∀ (m j : Nat) (y : Int32) (v : Int64) (ls : qw_L) (σ' : qw_M), j + m = 10 → y = nI j → v = mxs (dtl (aT A) f) z j → kt σ' A → lvd σ' (aT A) (aC A) nsk → (∀ q ∈ [(0, Value.ref 0), (1, .long z), (3, .int (nI f)), (4, .long v), (6, .int y)], q ∈ ls) → E_X12_tellsFigure Q 10 ls [] σ' := by
    intro m
    induction m with
    | zero =>
      intro j y v ls σ' hj hy hv h' hd hls
      subst hy hv
      have : j = 10 := by omega
      subst this
      refine qw_Ev.sub (ev_X12_tellsFigure [61] 100 ?_) hls
      refine vt (Int32.le_refl _) ?_
      refine ⟨trivial, _, r_tellsAt h' hd _ (s := 9) (by decide) hk, fun y σ2 ⟨k1, k2⟩ => ?_⟩
      have k1 := k1.symm
      subst k1
      have k2 := Value.long.inj (Option.some.inj k2)
      subst k2
      refine ⟨trivial, _, r_tellsAt h' hd _ (s := 19) (by decide) hk, fun y σ2 ⟨k1, k2⟩ => ?_⟩
      have k1 := k1.symm
      subst k1
      have k2 := Value.long.inj (Option.some.inj k2)
      subst k2
      exact loop2 3 0 _ _ _ _ rfl rfl rfl h' (sub_pre rfl)
    | succ m ih =>
      intro j y v ls σ' hj hy hv h' hd hls
      subst hy hv
      refine qw_Ev.sub (ev_X12_tellsFigure [10] 100 ?_) hls
      refine vf (nnle 10 j (by omega) (by omega)) ?_
      refine ⟨trivial, _, r_figureBy h'.2.1 hk (w := j) (by omega), fun y σ2 ⟨k1, k2⟩ => ?_⟩
      have k1 := k1.symm
      subst k1
      have k2 := Value.int.inj (Option.some.inj k2)
      subst k2
      exact ih (j + 1) _ _ _ _ (by omega) (nI_add j 1) rfl h' hd (sub_pre rfl)
  refine ev_X12_tellsFigure [10] 100 ?_
  refine ⟨trivial, _, w_lives h, fun σ2 ⟨k1, k2⟩ => ?_⟩
  exact loop1 10 0 _ _ _ _ rfl rfl rfl k1 k2 (sub_pre rfl)
theorem r_tellsStep (h : kt σ A) (z : Int64) {s : Nat} (hs : s < 20) : qw_Mt qw_tw wM my_X12_tellsStep [.ref 0, .long z, .int (nI s)] σ (fun r σ' => kt σ' A ∧ r = some (.long (dgP A z s))) := by
  refine mt_X12_tellsStep rfl (ev_X12_tellsStep [] 100 ?_)
  refine ⟨trivial, _, w_shift h hs (w := 0) (by decide), fun y σ2 ⟨k1, k2⟩ => ?_⟩
  have k2 := Value.int.inj (Option.some.inj k2)
  subst k2
  refine ⟨trivial, _, w_shift k1 hs (w := 1) (by decide), fun y σ2 ⟨k1, k2⟩ => ?_⟩
  have k2 := Value.int.inj (Option.some.inj k2)
  subst k2
  refine ⟨trivial, _, w_leave k1 hs (i := 0) (by decide), fun y σ2 ⟨k1, k2⟩ => ?_⟩
  have k2 := Value.int.inj (Option.some.inj k2)
  subst k2
  refine ⟨trivial, _, w_leave k1 hs (i := 1) (by decide), fun y σ2 ⟨k1, k2⟩ => ?_⟩
  have k2 := Value.int.inj (Option.some.inj k2)
  subst k2
  exact ⟨k1, rfl⟩
theorem d_digest (h : KM σ A) : qw_Mt qw_tw wM my_X12_digest [.ref 0] σ (postML (dig A) A) := by
  generalize hQ : postML (dig A) A = Q
  refine mt_X12_digest (Q := Q) rfl ?_
  obtain ⟨h0, e0⟩ : ∃ x, x = mxs (ctA A) 17 8 := ⟨_, rfl⟩
  obtain ⟨h1, e1⟩ : ∃ x, x = mxs (faA A) h0 3 := ⟨_, rfl⟩
  obtain ⟨h2, e2⟩ : ∃ x, x = itf (dgS A) h1 20 := ⟨_, rfl⟩
  obtain ⟨h3, e3⟩ : ∃ x, x = itf (dgC A) h2 32 := ⟨_, rfl⟩
  obtain ⟨h4, e4⟩ : ∃ x, x = itf (dgF A) h3 (tF (aT A)) := ⟨_, rfl⟩
  obtain ⟨h5, e5⟩ : ∃ x, x = mix (mix h4 (the (fst (shn A) 32)).toInt64) (nI (cnt (shn A) 32)).toInt64 := ⟨_, rfl⟩
  have hdig : dig A = dgR A (dgP A (dgP A (dgP A (mix (mxs (tcA A) h5 3) (do_darkest A).toInt64) 0) 9) 19) := by
    rw [e5, e4, e3, e2, e1, e0]
    rfl
  rw [hdig] at hQ
  obtain ⟨h6, e6⟩ : ∃ x, x = dgP A (dgP A (dgP A (mix (mxs (tcA A) h5 3) (do_darkest A).toInt64) 0) 9) 19 := ⟨_, rfl⟩
  obtain ⟨h7, e7⟩ : ∃ x, x = mix (mix (mix h6 (moA A 0).toInt64) (moA A 1).toInt64) (neA A).toInt64 := ⟨_, rfl⟩
  obtain ⟨h8, e8⟩ : ∃ x, x = mix (mix h7 (suA A 5 5 9 0)) (suA A 5 5 9 1) := ⟨_, rfl⟩
  have hdr : dgR A h6 = mix (mix h8 (plA A (nI 7) 15 0).toInt64) (plA A (nI 7) 15 1).toInt64 := by
    rw [e8, e7]
    rfl
  rw [← e6, hdr] at hQ
  have at396 : ∀ (v : Int64) (ls : qw_L) (σ' : qw_M), v = h8 → kt σ' A → (∀ q ∈ [(0, Value.ref 0), (1, .long v)], q ∈ ls) → E_X12_digest Q 396 ls [] σ' := fun v ls σ' hv k1 hls => by
    subst hv
    refine qw_Ev.sub (ev_X12_digest [] 100 ?_) hls
    refine ⟨trivial, _, w_play k1 (nI 7) (m := 15) (w := 0) (by decide) (by decide), fun y σ2 ⟨k1, k2⟩ => ?_⟩
    have k2 := Value.int.inj (Option.some.inj k2)
    subst k2
    refine ⟨trivial, _, w_play k1 (nI 7) (m := 15) (w := 1) (by decide) (by decide), fun y σ2 ⟨k1, k2⟩ => ?_⟩
    have k2 := Value.int.inj (Option.some.inj k2)
    subst k2
    subst hQ
    exact ⟨k1.1, rfl⟩
  have at364 : ∀ (v : Int64) (ls : qw_L) (σ' : qw_M), v = h7 → kt σ' A → (∀ q ∈ [(0, Value.ref 0), (1, .long v)], q ∈ ls) → E_X12_digest Q 364 ls [] σ' := fun v ls σ' hv k1 hls => by
    subst hv
    refine qw_Ev.sub (ev_X12_digest [396] 100 ?_) hls
    refine ⟨trivial, _, w_stumble k1 (c := 5) (l := 5) (s := 9) (w := 0) (by decide) (by decide) (by decide) (by decide), fun y σ2 ⟨k1, k2⟩ => ?_⟩
    have k2 := Value.long.inj (Option.some.inj k2)
    subst k2
    refine ⟨trivial, _, w_stumble k1 (c := 5) (l := 5) (s := 9) (w := 1) (by decide) (by decide) (by decide) (by decide), fun y σ2 ⟨k1, k2⟩ => ?_⟩
    have k2 := Value.long.inj (Option.some.inj k2)
    subst k2
    refine at396 _ _ _ ?_ k1 (sub_pre rfl)
    rw [e8]
    rfl
  have at326 : ∀ (v : Int64) (ls : qw_L) (σ' : qw_M), v = h6 → kt σ' A → (∀ q ∈ [(0, Value.ref 0), (1, .long v)], q ∈ ls) → E_X12_digest Q 326 ls [] σ' := fun v ls σ' hv k1 hls => by
    subst hv
    refine qw_Ev.sub (ev_X12_digest [364] 100 ?_) hls
    refine ⟨trivial, _, w_more k1 (i := 0) (by decide), fun y σ2 ⟨k1, k2⟩ => ?_⟩
    have k2 := Value.int.inj (Option.some.inj k2)
    subst k2
    refine ⟨trivial, _, w_more k1 (i := 1) (by decide), fun y σ2 ⟨k1, k2⟩ => ?_⟩
    have k2 := Value.int.inj (Option.some.inj k2)
    subst k2
    refine ⟨trivial, _, w_never k1, fun y σ2 ⟨k1, k2⟩ => ?_⟩
    have k2 := Value.int.inj (Option.some.inj k2)
    subst k2
    refine at364 _ _ _ ?_ k1 (sub_pre rfl)
    rw [e7]
    rfl
  -- from the touches on
  have touch : ∀ (m j : Nat) (y : Int32) (v : Int64) (ls : qw_L) (σ' : qw_M), j + m = 3 → y = nI j → v = mxs (tcA A) h5 j → kt σ' A → lvd σ' (aT A) (aC A) nsk → (∀ q ∈ [(0, Value.ref 0), (1, .long v), (3, .int y)], q ∈ ls) → E_X12_digest Q 271 ls [] σ' := by
    intro m
    induction m with
    | zero =>
      intro j y v ls σ' hj hy hv h' hd hls
      subst hy hv
      have : j = 3 := by omega
      subst this
      refine qw_Ev.sub (ev_X12_digest [326] 100 ?_) hls
      refine vt (Int32.le_refl _) ?_
      refine ⟨trivial, _, r_darkestNow h'.2.1 h'.2.2.2.2.1 h'.2.2.2.2.2.1 h'.2.2.2.2.2.2 hd, fun y σ2 ⟨k1, k2⟩ => ?_⟩
      have k1 := k1.symm
      subst k1
      have k2 := Value.int.inj (Option.some.inj k2)
      subst k2
      refine ⟨trivial, _, r_tellsStep h' _ (s := 0) (by decide), fun y σ2 ⟨k1, k2⟩ => ?_⟩
      have k2 := Value.long.inj (Option.some.inj k2)
      subst k2
      refine ⟨trivial, _, r_tellsStep k1 _ (s := 9) (by decide), fun y σ2 ⟨k1, k2⟩ => ?_⟩
      have k2 := Value.long.inj (Option.some.inj k2)
      subst k2
      refine ⟨trivial, _, r_tellsStep k1 _ (s := 19) (by decide), fun y σ2 ⟨k1, k2⟩ => ?_⟩
      have k2 := Value.long.inj (Option.some.inj k2)
      subst k2
      refine at326 _ _ _ ?_ k1 (sub_pre rfl)
      rw [e6]
      rfl
    | succ m ih =>
      intro j y v ls σ' hj hy hv h' hd hls
      subst hy hv
      refine qw_Ev.sub (ev_X12_digest [271] 100 ?_) hls
      refine vf (nnle 3 j (by omega) (by omega)) ?_
      refine ⟨trivial, _, r_touchedBy h'.2.1 hd (w := j) (by omega), fun y σ2 ⟨k1, x, k2, k3⟩ => ?_⟩
      have k1 := k1.symm
      subst k1
      have k2 := Value.int.inj (Option.some.inj k2)
      subst k2
      rw [the_ftc k3]
      exact ih (j + 1) _ _ _ _ (by omega) (nI_add j 1) rfl h' hd (sub_pre rfl)
  -- the figures
  have figs : ∀ (m j : Nat) (y : Int32) (v : Int64) (ls : qw_L) (σ' : qw_M), j + m = tF (aT A) → y = nI j → v = itf (dgF A) h3 j → kt σ' A → (∀ q ∈ [(0, Value.ref 0), (1, .long v), (3, .int y)], q ∈ ls) → E_X12_digest Q 218 ls [] σ' := by
    intro m
    induction m with
    | zero =>
      intro j y v ls σ' hj hy hv h' hls
      have hF := h'.2.1.1.1
      subst hy hv
      have : j = tF (aT A) := by omega
      subst this
      refine qw_Ev.sub (ev_X12_digest [271] 100 ?_) hls
      refine vt (by rw [h'.2.1.2.1]; exact Int32.le_refl _) ?_
      rw [← e4]
      refine ⟨trivial, _, w_lives h', fun σ2 ⟨k1, k2⟩ => ?_⟩
      have hs : rf σ2 (aT A) ∧ rp σ2 (aP A) ∧ mfk σ2 (aKn A) (aKa A) ∧ mL σ2 (aL A) ∧ mnz σ2 := ⟨k1.2.1, k1.2.2.2.1, k1.2.2.2.2.1, k1.2.2.2.2.2.1, k1.2.2.2.2.2.2⟩
      refine ⟨trivial, _, r_shownBy (C := aC A) hs k2 (w := 0) (by decide), fun y σ3 ⟨l1, x, l2, l3, l4⟩ => ?_⟩
      have l1 := l1.symm
      subst l1
      have l2 := Value.int.inj (Option.some.inj l2)
      subst l2
      rw [the_fst (fst_20 (l3 rfl))]
      refine ⟨trivial, _, r_shownBy (C := aC A) hs k2 (w := 1) (by decide), fun y σ3 ⟨l1, x, l2, l3, l4⟩ => ?_⟩
      have l1 := l1.symm
      subst l1
      have l2 := Value.int.inj (Option.some.inj l2)
      subst l2
      rw [l4 rfl, ← cnt_20]
      refine touch 3 0 _ _ _ _ rfl rfl ?_ k1 k2 (sub_pre rfl)
      rw [e5]
      rfl
    | succ m ih =>
      intro j y v ls σ' hj hy hv h' hls
      have hF := h'.2.1.1.1
      subst hy hv
      refine qw_Ev.sub (ev_X12_digest [218] 100 ?_) hls
      refine vf (by rw [h'.2.1.2.1]; exact nnle (tF (aT A)) j (by omega) (by omega)) ?_
      refine ⟨trivial, _, r_tellsFigure h' _ (f := j) (by omega), fun y σ2 ⟨k1, k2⟩ => ?_⟩
      have k2 := Value.long.inj (Option.some.inj k2)
      subst k2
      exact ih (j + 1) _ _ _ _ (by omega) (nI_add j 1) rfl k1 (sub_pre rfl)
  -- the cells
  have cells : ∀ (m j : Nat) (y : Int32) (v : Int64) (ls : qw_L) (σ' : qw_M), j + m = 32 → y = nI j → v = itf (dgC A) h2 j → kt σ' A → lvd σ' (aT A) (aC A) nsk → (∀ q ∈ [(0, Value.ref 0), (1, .long v), (3, .int y)], q ∈ ls) → E_X12_digest Q 131 ls [] σ' := by
    intro m
    induction m with
    | zero =>
      intro j y v ls σ' hj hy hv h' hd hls
      subst hy hv
      have : j = 32 := by omega
      subst this
      refine qw_Ev.sub (ev_X12_digest [218] 100 ?_) hls
      refine vt (Int32.le_refl _) ?_
      rw [← e3]
      exact figs (tF (aT A)) 0 _ _ _ _ (by omega) rfl rfl h' (sub_pre rfl)
    | succ m ih =>
      intro j y v ls σ' hj hy hv h' hd hls
      subst hy hv
      have hj32 : j < 32 := by omega
      have hl : ∀ {s : Nat}, s < 20 → qw_Mt qw_tw wM my_X12_lightOf [.ref 0, .int (nI s), .int (nI j)] σ' (fun r σ2 => σ2 = σ' ∧ r = some (.int (nI (lgA A s j)))) := fun hs => by
        have := r_lightOf h'.2.1 h'.2.2.2.2.1 h'.2.2.2.2.2.1 (hd _ hs) h'.2.2.2.2.2.2.2 hs hj32
        rw [nosk] at this
        exact this
      have ep : (σ' 11).1 (nI j).toNatClampNeg = obi (aP A j) := by rw [nI_clamp (n := j) (by omega)]; exact (h'.2.2.2.1 j hj32).1
      refine qw_Ev.sub (ev_X12_digest [131] 100 ?_) hls
      refine vf (nnle 32 j (by omega) (by omega)) ?_
      refine And.intro (nin j 32 hj32 (by decide)) ?_
      refine ⟨trivial, _, hl (s := 0) (by decide), fun y σ2 ⟨k1, k2⟩ => ?_⟩
      have k1 := k1.symm
      subst k1
      cases k2
      refine ⟨trivial, _, hl (s := 9) (by decide), fun y σ2 ⟨k1, k2⟩ => ?_⟩
      have k1 := k1.symm
      subst k1
      cases k2
      refine ⟨trivial, _, hl (s := 19) (by decide), fun y σ2 ⟨k1, k2⟩ => ?_⟩
      have k1 := k1.symm
      subst k1
      cases k2
      refine ⟨trivial, _, r_coversOf0 h'.2.1 h'.2.2.2.2.2.1 (hd 19 (by decide)) h'.2.2.2.2.2.2 (s := 19) (by decide) hj32, fun y σ2 ⟨k1, k2⟩ => ?_⟩
      have k1 := k1.symm
      subst k1
      have k2 := Value.int.inj (Option.some.inj k2)
      subst k2
      refine ih (j + 1) _ _ _ _ (by omega) (nI_add j 1) ?_ h' hd (sub_pre rfl)
      rw [ep]
      rfl
  -- the steps
  have steps : ∀ (m j : Nat) (y : Int32) (v : Int64) (ls : qw_L) (σ' : qw_M), j + m = 20 → y = nI j → v = itf (dgS A) h1 j → kt σ' A → lvd σ' (aT A) (aC A) nsk → (∀ q ∈ [(0, Value.ref 0), (1, .long v), (3, .int y)], q ∈ ls) → E_X12_digest Q 63 ls [] σ' := by
    intro m
    induction m with
    | zero =>
      intro j y v ls σ' hj hy hv h' hd hls
      subst hy hv
      have : j = 20 := by omega
      subst this
      refine qw_Ev.sub (ev_X12_digest [131] 100 ?_) hls
      refine vt (Int32.le_refl _) ?_
      rw [← e2]
      exact cells 32 0 _ _ _ _ rfl rfl rfl h' hd (sub_pre rfl)
    | succ m ih =>
      intro j y v ls σ' hj hy hv h' hd hls
      subst hy hv
      have hj20 : j < 20 := by omega
      obtain ⟨c1, c2⟩ := h'.2.2.1.2 j hj20
      have ec1 : (σ' 9).1 (nI j).toNatClampNeg = cuf (aC A) j := by rw [nI_clamp (n := j) (by omega)]; exact c1
      have ec2 : (σ' 10).1 (nI j).toNatClampNeg = cuw (aC A) j := by rw [nI_clamp (n := j) (by omega)]; exact c2
      refine qw_Ev.sub (ev_X12_digest [63] 100 ?_) hls
      refine vf (nnle 20 j (by omega) (by omega)) ?_
      refine And.intro (nin j 20 hj20 (by decide)) ?_
      refine And.intro (nin j 20 hj20 (by decide)) ?_
      have hfa := r_falseOf h'.2.1 h'.2.2.2.1 h'.2.2.2.2.1 h'.2.2.2.2.2.1 (hd _ hj20) h'.2.2.2.2.2.2.2 hj20
      rw [nosk] at hfa
      refine ⟨trivial, _, hfa, fun y σ2 ⟨k1, k2⟩ => ?_⟩
      have k1 := k1.symm
      subst k1
      have k2 := Value.int.inj (Option.some.inj k2)
      subst k2
      have hda := r_darkOf h'.2.1 h'.2.2.2.2.1 h'.2.2.2.2.2.1 (hd _ hj20) h'.2.2.2.2.2.2.2 hj20
      rw [nosk] at hda
      refine ⟨trivial, _, hda, fun y σ2 ⟨k1, k2⟩ => ?_⟩
      have k1 := k1.symm
      subst k1
      have k2 := Value.int.inj (Option.some.inj k2)
      subst k2
      refine ih (j + 1) _ _ _ _ (by omega) (nI_add j 1) ?_ h' hd (sub_pre rfl)
      rw [ec1, ec2]
      rfl
  -- the texts
  have texts : ∀ (m j : Nat) (y : Int32) (v : Int64) (ls : qw_L) (σ' : qw_M), j + m = 3 → y = nI j → v = mxs (faA A) h0 j → kt σ' A → (∀ q ∈ [(0, Value.ref 0), (1, .long v), (3, .int y)], q ∈ ls) → E_X12_digest Q 33 ls [] σ' := by
    intro m
    induction m with
    | zero =>
      intro j y v ls σ' hj hy hv h' hls
      subst hy hv
      have : j = 3 := by omega
      subst this
      refine qw_Ev.sub (ev_X12_digest [63] 100 ?_) hls
      refine vt (Int32.le_refl _) ?_
      rw [← e1]
      refine ⟨trivial, _, w_lives h', fun σ2 ⟨k1, k2⟩ => ?_⟩
      exact steps 20 0 _ _ _ _ rfl rfl rfl k1 k2 (sub_pre rfl)
    | succ m ih =>
      intro j y v ls σ' hj hy hv h' hls
      subst hy hv
      refine qw_Ev.sub (ev_X12_digest [33] 100 ?_) hls
      refine vf (nnle 3 j (by omega) (by omega)) ?_
      refine ⟨trivial, _, r_readsText h'.1 (t := j) (by omega), fun y σ2 ⟨k1, k2, k3, k4⟩ => ?_⟩
      have k4 := Value.int.inj (Option.some.inj k4)
      subst k4
      refine ih (j + 1) _ _ _ _ (by omega) (nI_add j 1) ?_ ⟨k2, k3 h'.2⟩ (sub_pre rfl)
      have ef : faA A j = obi (aF A j) := by
        unfold faA do_fault
        rw [nn_nI (show j < 3 by omega) (by decide)]
      rw [← ef]
      rfl
  -- the counts
  have counts : ∀ (m j : Nat) (y : Int32) (v : Int64) (ls : qw_L) (σ' : qw_M), j + m = 8 → y = nI j → v = mxs (ctA A) 17 j → KM σ' A → (0 < j → thA σ' A) → (∀ q ∈ [(0, Value.ref 0), (1, .long v), (3, .int y)], q ∈ ls) → E_X12_digest Q 6 ls [] σ' := by
    intro m
    induction m with
    | zero =>
      intro j y v ls σ' hj hy hv h' ht hls
      subst hy hv
      have : j = 8 := by omega
      subst this
      refine qw_Ev.sub (ev_X12_digest [33] 100 ?_) hls
      refine vt (Int32.le_refl _) ?_
      rw [← e0]
      exact texts 3 0 _ _ _ _ rfl rfl rfl ⟨h', ht (by decide)⟩ (sub_pre rfl)
    | succ m ih =>
      intro j y v ls σ' hj hy hv h' ht hls
      subst hy hv
      refine qw_Ev.sub (ev_X12_digest [6] 100 ?_) hls
      refine vf (nnle 8 j (by omega) (by omega)) ?_
      refine ⟨trivial, _, d_count h' (nI j), fun y σ2 ⟨k1, k2, k3, k4⟩ => ?_⟩
      have k4 := Value.int.inj (Option.some.inj k4)
      subst k4
      exact ih (j + 1) _ _ _ _ (by omega) (nI_add j 1) rfl k1 (fun _ => k2) (sub_pre rfl)
  refine ev_X12_digest [6] 100 ?_
  exact counts 8 0 _ _ _ _ rfl rfl rfl h (fun z => absurd z (Nat.lt_irrefl 0)) (sub_pre rfl)
end
