/-! The reference: the calls that find first -/
section
variable {σ σ' : qw_M} {A : AS}
theorem toS {l : List Nat} (h : frM l [] σ σ') (hl : ∀ k ∈ l, k ∈ scM) : frM scM sfM σ σ' := h.mo hl (fun _ z => absurd z List.not_mem_nil)
theorem s13 : ∀ k ∈ [13, 14, 15, 16], k ∈ scM := by unfold scM; decide
theorem s7 : ∀ k ∈ [7, 13, 14, 15, 16], k ∈ scM := by unfold scM; decide
theorem s18 : ∀ k ∈ [7, 13, 14, 15, 16, 18], k ∈ scM := by unfold scM; decide
theorem fst_20 {x : Int32} (h : fst (fun i => psh (aP A) (lgS (aT A) (aC A) (aKn A) (aKa A) (aL A) i)) 20 x) : fst (shn A) 32 x := by
  rcases h with ⟨i, h1, h2, h3, h4⟩ | ⟨h1, h2⟩
  · refine Or.inl ⟨i, by omega, ?_, fun j hj => ?_, h4⟩
    · unfold shn
      rw [decide_eq_true h1]
      exact h2
    · unfold shn
      rw [decide_eq_true (by omega)]
      exact h3 j hj
  · refine Or.inr ⟨fun j hj => ?_, h2⟩
    unfold shn
    by_cases q : j < 20
    · rw [decide_eq_true q]
      exact h1 j q
    · rw [decide_eq_false q]
      rfl
theorem cnt_20 : cnt (shn A) 32 = cnt (fun i => psh (aP A) (lgS (aT A) (aC A) (aKn A) (aKa A) (aL A) i)) 20 := by
  have e := cnt_hi (f := shn A) (m := 20) 12 (fun i hi => by
    unfold shn
    rw [decide_eq_false (by omega)]
    rfl)
  have e : cnt (shn A) 32 = cnt (shn A) 20 := e
  rw [e]
  exact cnt_congr (fun i hi => by
    unfold shn
    rw [decide_eq_true hi]
    rfl)
theorem d_light (h : KM σ A) (x : Int32) (y : Int32) : qw_Mt qw_tw wM my_X12_light [.ref 0, .int x, .int y] σ (postM (do_light A x y, A)) := by
  refine mt_X12_light rfl (ev_X12_light [] 100 ?_)
  refine ⟨trivial, _, r_find h, fun σ1 ⟨f1, h1, t1, l1⟩ => ?_⟩
  unfold do_light
  refine ⟨trivial, _, r_isStep x, fun z σ2 _ ⟨k1, k2⟩ => ?_⟩
  have k1 := k1.symm
  subst k1
  cases k2
  cases hs : nn x 20 with
  | none =>
    refine vt rfl ?_
    exact ⟨h1, rfl⟩
  | some s =>
    obtain ⟨bs, rfl⟩ := nn_some (by decide) hs
    refine vf n10 ?_
    refine ⟨trivial, _, r_isCell y, fun z σ2 _ ⟨k1, k2⟩ => ?_⟩
    have k1 := k1.symm
    subst k1
    cases k2
    cases hc : nn y 32 with
    | none =>
      refine vt rfl ?_
      exact ⟨h1, rfl⟩
    | some c =>
      obtain ⟨bc, rfl⟩ := nn_some (by decide) hc
      refine vf n10 ?_
      refine ⟨trivial, _, r_lightOf t1.1 t1.2.2.2.1 t1.2.2.2.2.1 (l1 s bs) t1.2.2.2.2.2.2 bs bc, fun z σ2 ⟨k1, k2⟩ => ?_⟩
      have k1 := k1.symm
      subst k1
      cases k2
      rw [nosk]
      exact ⟨h1, rfl⟩
theorem d_covers (h : KM σ A) (x : Int32) (y : Int32) : qw_Mt qw_tw wM my_X12_covers [.ref 0, .int x, .int y] σ (postM (do_covers A x y, A)) := by
  refine mt_X12_covers rfl (ev_X12_covers [] 100 ?_)
  refine ⟨trivial, _, r_find h, fun σ1 ⟨f1, h1, t1, l1⟩ => ?_⟩
  unfold do_covers
  refine ⟨trivial, _, r_isStep x, fun z σ2 _ ⟨k1, k2⟩ => ?_⟩
  have k1 := k1.symm
  subst k1
  cases k2
  cases hs : nn x 20 with
  | none =>
    refine vt rfl ?_
    exact ⟨h1, rfl⟩
  | some s =>
    obtain ⟨bs, rfl⟩ := nn_some (by decide) hs
    refine vf n10 ?_
    refine ⟨trivial, _, r_isCell y, fun z σ2 _ ⟨k1, k2⟩ => ?_⟩
    have k1 := k1.symm
    subst k1
    cases k2
    cases hc : nn y 32 with
    | none =>
      refine vt rfl ?_
      exact ⟨h1, rfl⟩
    | some c =>
      obtain ⟨bc, rfl⟩ := nn_some (by decide) hc
      refine vf n10 ?_
      refine ⟨trivial, _, r_coversOf0 t1.1 t1.2.2.2.2.1 (l1 s bs) t1.2.2.2.2.2 bs bc, fun z σ2 ⟨k1, k2⟩ => ?_⟩
      have k1 := k1.symm
      subst k1
      cases k2
      exact ⟨h1, rfl⟩
theorem d_at (h : KM σ A) (x : Int32) (y : Int32) (w : Int32) : qw_Mt qw_tw wM my_X12_at [.ref 0, .int x, .int y, .int w] σ (postM (do_at A x y w, A)) := by
  refine mt_X12_at rfl (ev_X12_at [] 100 ?_)
  refine ⟨trivial, _, r_find h, fun σ1 ⟨f1, h1, t1, l1⟩ => ?_⟩
  unfold do_at
  refine ⟨trivial, _, r_isStep x, fun z σ2 _ ⟨k1, k2⟩ => ?_⟩
  have k1 := k1.symm
  subst k1
  cases k2
  cases hs : nn x 20 with
  | none =>
    refine vt rfl ?_
    exact ⟨h1, rfl⟩
  | some s =>
    obtain ⟨bs, rfl⟩ := nn_some (by decide) hs
    refine vf n10 ?_
    refine ⟨trivial, _, r_isFigure (x := y) t1.1.2.1 t1.1.1.1, fun z σ2 _ ⟨k1, k2⟩ => ?_⟩
    have k1 := k1.symm
    subst k1
    cases k2
    cases hf : nn y (tF (aT A)) with
    | none =>
      refine vt rfl ?_
      exact ⟨h1, rfl⟩
    | some f =>
      obtain ⟨bf, rfl⟩ := nn_some (by have := t1.1.1.1; omega) hf
      refine vf n10 ?_
      refine ⟨trivial, _, r_in0 w (n := 4) (by decide) (by decide) (by decide), fun z σ2 _ ⟨k1, k2⟩ => ?_⟩
      have k1 := k1.symm
      subst k1
      cases k2
      cases hk : nn w 4 with
      | none =>
        refine vt rfl ?_
        exact ⟨h1, rfl⟩
      | some k =>
        obtain ⟨bk, rfl⟩ := nn_some (by decide) hk
        refine vf n10 ?_
        refine ⟨trivial, _, r_atOf t1.1 t1.2.2.2.2.1 (l1 s bs) t1.2.2.2.2.2 bs bf bk, fun z σ2 ⟨k1, k2⟩ => ?_⟩
        have k1 := k1.symm
        subst k1
        cases k2
        exact ⟨h1, rfl⟩
theorem d_screen (h : KM σ A) (x : Int32) (y : Int32) : qw_Mt qw_tw wM my_X12_screen [.ref 0, .int x, .int y] σ (postM (do_screen A x y, A)) := by
  refine mt_X12_screen rfl (ev_X12_screen [] 100 ?_)
  refine ⟨trivial, _, r_find h, fun σ1 ⟨f1, h1, t1, l1⟩ => ?_⟩
  unfold do_screen
  refine ⟨trivial, _, r_isStep x, fun z σ2 _ ⟨k1, k2⟩ => ?_⟩
  have k1 := k1.symm
  subst k1
  cases k2
  cases hs : nn x 20 with
  | none =>
    refine vt rfl ?_
    exact ⟨h1, rfl⟩
  | some s =>
    obtain ⟨bs, rfl⟩ := nn_some (by decide) hs
    refine vf n10 ?_
    refine ⟨trivial, _, r_isTwo y, fun z σ2 _ ⟨k1, k2⟩ => ?_⟩
    have k1 := k1.symm
    subst k1
    cases k2
    cases hw : nn y 2 with
    | none =>
      refine vnf rfl ?_
      exact ⟨h1, rfl⟩
    | some w =>
      obtain ⟨bw, rfl⟩ := nn_some (by decide) hw
      refine vnt n10 ?_
      dsimp only
      by_cases w0 : w = 0
      · rw [if_pos w0]
        refine vnf (by rw [w0]; rfl) ?_
        refine ⟨trivial, _, r_falseOf t1.1 t1.2.2.1 t1.2.2.2.1 t1.2.2.2.2.1 (l1 s bs) t1.2.2.2.2.2.2 bs, fun z σ2 ⟨k1, k2⟩ => ?_⟩
        have k1 := k1.symm
        subst k1
        cases k2
        rw [nosk]
        exact ⟨h1, rfl⟩
      · rw [if_neg w0]
        refine vnt (nI_ne0 (n := w) (by omega) (by omega)) ?_
        refine ⟨trivial, _, r_darkOf t1.1 t1.2.2.2.1 t1.2.2.2.2.1 (l1 s bs) t1.2.2.2.2.2.2 bs, fun z σ2 ⟨k1, k2⟩ => ?_⟩
        have k1 := k1.symm
        subst k1
        cases k2
        rw [nosk]
        exact ⟨h1, rfl⟩
theorem d_shown (h : KM σ A) (y : Int32) : qw_Mt qw_tw wM my_X12_shown [.ref 0, .int y] σ (postM (do_shown A y, A)) := by
  refine mt_X12_shown rfl (ev_X12_shown [] 100 ?_)
  refine ⟨trivial, _, r_find h, fun σ1 ⟨f1, h1, t1, l1⟩ => ?_⟩
  unfold do_shown
  refine ⟨trivial, _, r_isTwo y, fun z σ2 _ ⟨k1, k2⟩ => ?_⟩
  have k1 := k1.symm
  subst k1
  cases k2
  cases hw : nn y 2 with
  | none =>
    refine vt rfl ?_
    exact ⟨h1, rfl⟩
  | some w =>
    obtain ⟨bw, rfl⟩ := nn_some (by decide) hw
    refine vf n10 ?_
    refine ⟨trivial, _, r_shownBy (C := aC A) ⟨t1.1, t1.2.2.1, t1.2.2.2.1, t1.2.2.2.2.1, t1.2.2.2.2.2⟩ l1 bw, fun z σ2 ⟨k1, x, k2, k3, k4⟩ => ?_⟩
    have k1 := k1.symm
    subst k1
    cases k2
    refine ⟨h1, congrArg (fun z => some (Value.int z)) ?_⟩
    dsimp only
    by_cases w0 : w = 0
    · rw [if_pos w0]
      exact the_fst (fst_20 (k3 w0))
    · rw [if_neg w0, cnt_20]
      exact k4 (by omega)
theorem d_touched (h : KM σ A) (y : Int32) : qw_Mt qw_tw wM my_X12_touched [.ref 0, .int y] σ (postM (do_touched A y, A)) := by
  refine mt_X12_touched rfl (ev_X12_touched [] 100 ?_)
  refine ⟨trivial, _, r_find h, fun σ1 ⟨f1, h1, t1, l1⟩ => ?_⟩
  unfold do_touched
  refine ⟨trivial, _, r_in0 y (n := 3) (by decide) (by decide) (by decide), fun z σ2 _ ⟨k1, k2⟩ => ?_⟩
  have k1 := k1.symm
  subst k1
  cases k2
  cases hw : nn y 3 with
  | none =>
    refine vt rfl ?_
    exact ⟨h1, rfl⟩
  | some w =>
    obtain ⟨bw, rfl⟩ := nn_some (by decide) hw
    refine vf n10 ?_
    refine ⟨trivial, _, r_touchedBy t1.1 l1 bw, fun z σ2 ⟨k1, x, k2, k3⟩ => ?_⟩
    have k1 := k1.symm
    subst k1
    cases k2
    exact ⟨h1, congrArg (fun z => some (Value.int z)) (the_ftc k3)⟩
theorem d_darkest (h : KM σ A) : qw_Mt qw_tw wM my_X12_darkest [.ref 0] σ (postM (do_darkest A, A)) := by
  refine mt_X12_darkest rfl (ev_X12_darkest [] 100 ?_)
  refine ⟨trivial, _, r_find h, fun σ1 ⟨f1, h1, t1, l1⟩ => ?_⟩
  unfold do_darkest
  refine ⟨trivial, _, r_darkestNow t1.1 t1.2.2.2.1 t1.2.2.2.2.1 t1.2.2.2.2.2 l1, fun z σ2 ⟨k1, k2⟩ => ?_⟩
  have k1 := k1.symm
  subst k1
  cases k2
  exact ⟨h1, rfl⟩
theorem d_hang (h : KM σ A) (x : Int32) (y : Int32) (w : Int32) : qw_Mt qw_tw wM my_X12_hang [.ref 0, .int x, .int y, .int w] σ (postM (do_hang A x y w, A)) := by
  refine mt_X12_hang rfl (ev_X12_hang [] 100 ?_)
  refine ⟨trivial, _, r_find h, fun σ1 ⟨f1, h1, t1, l1⟩ => ?_⟩
  unfold do_hang
  refine ⟨trivial, _, r_isFigure (x := x) t1.1.2.1 t1.1.1.1, fun z σ2 _ ⟨k1, k2⟩ => ?_⟩
  have k1 := k1.symm
  subst k1
  cases k2
  cases hf : nn x (tF (aT A)) with
  | none =>
    refine vt rfl ?_
    exact ⟨h1, rfl⟩
  | some f =>
    obtain ⟨bf, rfl⟩ := nn_some (by have := t1.1.1.1; omega) hf
    refine vf n10 ?_
    refine ⟨trivial, _, r_isStep y, fun z σ2 _ ⟨k1, k2⟩ => ?_⟩
    have k1 := k1.symm
    subst k1
    cases k2
    cases hs : nn y 20 with
    | none =>
      refine vt rfl ?_
      exact ⟨h1, rfl⟩
    | some s =>
      obtain ⟨bs, rfl⟩ := nn_some (by decide) hs
      refine vf n10 ?_
      refine ⟨trivial, _, r_in0 w (n := 3) (by decide) (by decide) (by decide), fun z σ2 _ ⟨k1, k2⟩ => ?_⟩
      have k1 := k1.symm
      subst k1
      cases k2
      cases hk : nn w 3 with
      | none =>
        refine vt rfl ?_
        exact ⟨h1, rfl⟩
      | some k =>
        obtain ⟨bk, rfl⟩ := nn_some (by decide) hk
        refine vf n10 ?_
        refine ⟨trivial, _, r_hangOf t1 bf bs bk, fun z σ2 ⟨k1, k2, i, k3, k4⟩ => ?_⟩
        cases k4
        refine ⟨h1.sc (toS k1 s7), ?_⟩
        have e := the_amn k3
        rw [e]
        rfl
theorem d_shift (h : KM σ A) (x : Int32) (y : Int32) : qw_Mt qw_tw wM my_X12_shift [.ref 0, .int x, .int y] σ (postM (do_shift A x y, A)) := by
  refine mt_X12_shift rfl (ev_X12_shift [] 100 ?_)
  refine ⟨trivial, _, r_find h, fun σ1 ⟨f1, h1, t1, l1⟩ => ?_⟩
  unfold do_shift
  refine ⟨trivial, _, r_isStep x, fun z σ2 _ ⟨k1, k2⟩ => ?_⟩
  have k1 := k1.symm
  subst k1
  cases k2
  cases hs : nn x 20 with
  | none =>
    refine vt rfl ?_
    exact ⟨h1, rfl⟩
  | some s =>
    obtain ⟨bs, rfl⟩ := nn_some (by decide) hs
    refine vf n10 ?_
    refine ⟨trivial, _, r_isTwo y, fun z σ2 _ ⟨k1, k2⟩ => ?_⟩
    have k1 := k1.symm
    subst k1
    cases k2
    cases hk : nn y 2 with
    | none =>
      refine vt rfl ?_
      exact ⟨h1, rfl⟩
    | some k =>
      obtain ⟨bk, rfl⟩ := nn_some (by decide) hk
      refine vf n10 ?_
      refine ⟨trivial, _, r_shiftOf t1 bs bk, fun z σ2 ⟨k1, k2, i, k3, k4⟩ => ?_⟩
      cases k4
      refine ⟨h1.sc (toS k1 s13), ?_⟩
      have e := the_amn k3
      rw [e]
      rfl
theorem d_more (h : KM σ A) (x : Int32) : qw_Mt qw_tw wM my_X12_more [.ref 0, .int x] σ (postM (do_more A x, A)) := by
  refine mt_X12_more rfl (ev_X12_more [] 100 ?_)
  refine ⟨trivial, _, r_find h, fun σ1 ⟨f1, h1, t1, l1⟩ => ?_⟩
  unfold do_more
  refine ⟨trivial, _, r_in3 x (by decide) (by decide), fun z σ2 _ ⟨k1, k2⟩ => ?_⟩
  have k1 := k1.symm
  subst k1
  cases k2
  cases hi : ni3 x with
  | none =>
    refine vt rfl ?_
    exact ⟨h1, rfl⟩
  | some i =>
    obtain ⟨bi, rfl⟩ := ni3_dn hi
    refine vf n10 ?_
    refine ⟨trivial, _, r_moreOf t1 bi, fun z σ2 ⟨k1, k2, y, k3, k4⟩ => ?_⟩
    cases k3
    exact ⟨h1.sc (toS k1 s13), congrArg (fun z => some (Value.int z)) (the_pk k4)⟩
theorem d_leave (h : KM σ A) (y : Int32) (x : Int32) : qw_Mt qw_tw wM my_X12_leave [.ref 0, .int y, .int x] σ (postM (do_leave A y x, A)) := by
  refine mt_X12_leave rfl (ev_X12_leave [] 100 ?_)
  refine ⟨trivial, _, r_find h, fun σ1 ⟨f1, h1, t1, l1⟩ => ?_⟩
  unfold do_leave
  refine ⟨trivial, _, r_isStep y, fun z σ2 _ ⟨k1, k2⟩ => ?_⟩
  have k1 := k1.symm
  subst k1
  cases k2
  cases hs : nn y 20 with
  | none =>
    refine vt rfl ?_
    exact ⟨h1, rfl⟩
  | some s =>
    obtain ⟨bs, rfl⟩ := nn_some (by decide) hs
    refine vf n10 ?_
    refine ⟨trivial, _, r_in3 x (by decide) (by decide), fun z σ2 _ ⟨k1, k2⟩ => ?_⟩
    have k1 := k1.symm
    subst k1
    cases k2
    cases hi : ni3 x with
    | none =>
      refine vt rfl ?_
      exact ⟨h1, rfl⟩
    | some i =>
      obtain ⟨bi, rfl⟩ := ni3_dn hi
      refine vf n10 ?_
      refine ⟨trivial, _, r_leaveOf t1 bs bi, fun z σ2 ⟨k1, k2, y, k3, k4⟩ => ?_⟩
      cases k3
      exact ⟨h1.sc (toS k1 s13), congrArg (fun z => some (Value.int z)) (the_pk k4)⟩
theorem d_never (h : KM σ A) : qw_Mt qw_tw wM my_X12_never [.ref 0] σ (postM (neA A, A)) := by
  refine mt_X12_never rfl (ev_X12_never [] 100 ?_)
  refine ⟨trivial, _, r_find h, fun σ1 ⟨f1, h1, t1, l1⟩ => ?_⟩
  refine ⟨trivial, _, r_neverNow t1 h1.2.2.2.1, fun z σ2 ⟨k1, k2, k3⟩ => ?_⟩
  cases k3
  exact ⟨h1.sc (toS k1 s13), rfl⟩
theorem d_was (h : KM σ A) (x : Int32) (y : Int32) : qw_Mt qw_tw wM my_X12_was [.ref 0, .int x, .int y] σ (postM (do_was A x y, A)) := by
  refine mt_X12_was rfl (ev_X12_was [] 100 ?_)
  refine ⟨trivial, _, r_find h, fun σ1 ⟨f1, h1, t1, l1⟩ => ?_⟩
  unfold do_was
  refine ⟨trivial, _, r_isFigure (x := x) t1.1.2.1 t1.1.1.1, fun z σ2 _ ⟨k1, k2⟩ => ?_⟩
  have k1 := k1.symm
  subst k1
  cases k2
  cases hf : nn x (tF (aT A)) with
  | none =>
    refine vt rfl ?_
    exact ⟨h1, rfl⟩
  | some f =>
    obtain ⟨bf, rfl⟩ := nn_some (by have := t1.1.1.1; omega) hf
    refine vf n10 ?_
    refine ⟨trivial, _, r_isTwo y, fun z σ2 _ ⟨k1, k2⟩ => ?_⟩
    have k1 := k1.symm
    subst k1
    cases k2
    cases hw : nn y 2 with
    | none =>
      refine vt rfl ?_
      exact ⟨h1, rfl⟩
    | some w =>
      obtain ⟨bw, rfl⟩ := nn_some (by decide) hw
      refine vf n10 ?_
      refine ⟨trivial, _, r_wasOf t1 h1.2.2.2.1 bf bw, fun z σ2 ⟨k1, k2, k3⟩ => ?_⟩
      cases k3
      exact ⟨h1.sc (toS k1 s7), rfl⟩
theorem d_ask (h : KM σ A) (x : Int32) : qw_Mt qw_tw wM my_X12_ask [.ref 0, .int x] σ (postM (do_ask A x, A)) := by
  refine mt_X12_ask rfl (ev_X12_ask [] 100 ?_)
  refine ⟨trivial, _, r_find h, fun σ1 ⟨f1, h1, t1, l1⟩ => ?_⟩
  unfold do_ask
  refine ⟨trivial, _, r_isFigure (x := x) t1.1.2.1 t1.1.1.1, fun z σ2 _ ⟨k1, k2⟩ => ?_⟩
  have k1 := k1.symm
  subst k1
  cases k2
  cases hf : nn x (tF (aT A)) with
  | none =>
    refine vt rfl ?_
    exact ⟨h1, rfl⟩
  | some f =>
    obtain ⟨bf, rfl⟩ := nn_some (by have := t1.1.1.1; omega) hf
    refine vf n10 ?_
    refine ⟨trivial, _, r_askOf t1 h1.2.2.2.1 bf (mk := deA A f) rfl, fun z σ2 ⟨k1, k2, i, k3, k4⟩ => ?_⟩
    cases k4
    refine ⟨h1.sc (toS k1 s18), ?_⟩
    have e := the_amn k3
    rw [e]
    rfl
theorem d_stumble (h : KM σ A) (x : Int32) (y : Int32) (w : Int32) (v : Int32) : qw_Mt qw_tw wM my_X12_stumble [.ref 0, .int x, .int y, .int w, .int v] σ (postML (do_stumble A x y w v) A) := by
  refine mt_X12_stumble rfl (ev_X12_stumble [] 100 ?_)
  refine ⟨trivial, _, r_find h, fun σ1 ⟨f1, h1, t1, l1⟩ => ?_⟩
  unfold do_stumble
  refine ⟨trivial, _, r_in0 x (n := 17) (by decide) (by decide) (by decide), fun z σ2 _ ⟨k1, k2⟩ => ?_⟩
  have k1 := k1.symm
  subst k1
  cases k2
  cases hc : nn x 17 with
  | none =>
    refine vt rfl ?_
    refine ⟨trivial, _, r_no (z := badL) (by decide), fun z σ2 ⟨k1, k2⟩ => ?_⟩
    have k1 := k1.symm
    subst k1
    cases k2
    exact ⟨h1, rfl⟩
  | some c =>
    obtain ⟨bc, rfl⟩ := nn_some (by decide) hc
    refine vf n10 ?_
    refine ⟨trivial, _, r_in0 y (n := 10) (by decide) (by decide) (by decide), fun z σ2 _ ⟨k1, k2⟩ => ?_⟩
    have k1 := k1.symm
    subst k1
    cases k2
    cases hl : nn y 10 with
    | none =>
      refine vt rfl ?_
      refine ⟨trivial, _, r_no (z := badL) (by decide), fun z σ2 ⟨k1, k2⟩ => ?_⟩
      have k1 := k1.symm
      subst k1
      cases k2
      exact ⟨h1, rfl⟩
    | some l =>
      obtain ⟨bl, rfl⟩ := nn_some (by decide) hl
      refine vf n10 ?_
      refine ⟨trivial, _, r_isStep w, fun z σ2 _ ⟨k1, k2⟩ => ?_⟩
      have k1 := k1.symm
      subst k1
      cases k2
      cases hs : nn w 20 with
      | none =>
        refine vt rfl ?_
        refine ⟨trivial, _, r_no (z := badL) (by decide), fun z σ2 ⟨k1, k2⟩ => ?_⟩
        have k1 := k1.symm
        subst k1
        cases k2
        exact ⟨h1, rfl⟩
      | some s =>
        obtain ⟨bs, rfl⟩ := nn_some (by decide) hs
        refine vf n10 ?_
        refine ⟨trivial, _, r_isTwo v, fun z σ2 _ ⟨k1, k2⟩ => ?_⟩
        have k1 := k1.symm
        subst k1
        cases k2
        cases hk : nn v 2 with
        | none =>
          refine vt rfl ?_
          refine ⟨trivial, _, r_no (z := badL) (by decide), fun z σ2 ⟨k1, k2⟩ => ?_⟩
          have k1 := k1.symm
          subst k1
          cases k2
          exact ⟨h1, rfl⟩
        | some k =>
          obtain ⟨bk, rfl⟩ := nn_some (by decide) hk
          refine vf n10 ?_
          refine ⟨trivial, _, r_stumbleOf t1 (c := c) (by omega) bl bs bk, fun z σ2 ⟨k1, k2, k3⟩ => ?_⟩
          cases k3
          exact ⟨h1.sc (toS k1 s13), rfl⟩
theorem d_play (h : KM σ A) (x : Int32) (y : Int32) (w : Int32) : qw_Mt qw_tw wM my_X12_play [.ref 0, .int x, .int y, .int w] σ (postM (do_play A x y w, A)) := by
  refine mt_X12_play rfl (ev_X12_play [] 100 ?_)
  refine ⟨trivial, _, r_find h, fun σ1 ⟨f1, h1, t1, l1⟩ => ?_⟩
  unfold do_play
  refine ⟨trivial, _, r_in0 y (n := 21) (by decide) (by decide) (by decide), fun z σ2 _ ⟨k1, k2⟩ => ?_⟩
  have k1 := k1.symm
  subst k1
  cases k2
  cases hm : nn y 21 with
  | none =>
    refine vt rfl ?_
    exact ⟨h1, rfl⟩
  | some m =>
    obtain ⟨bm, rfl⟩ := nn_some (by decide) hm
    refine vf n10 ?_
    refine ⟨trivial, _, r_isTwo w, fun z σ2 _ ⟨k1, k2⟩ => ?_⟩
    have k1 := k1.symm
    subst k1
    cases k2
    cases hk : nn w 2 with
    | none =>
      refine vt rfl ?_
      exact ⟨h1, rfl⟩
    | some k =>
      obtain ⟨bk, rfl⟩ := nn_some (by decide) hk
      refine vf n10 ?_
      refine ⟨trivial, _, r_playOf h1 t1 x (by omega) bk, fun z σ2 ⟨k1, k2, k3, k4⟩ => ?_⟩
      cases k4
      exact ⟨k2, rfl⟩
theorem d_count (h : KM σ A) (x : Int32) : qw_Mt qw_tw wM my_X12_count [.ref 0, .int x] σ (fun r σ2 => KM σ2 A ∧ thA σ2 A ∧ lvd σ2 (aT A) (aC A) nsk ∧ r = some (.int (do_count A x))) := by
  refine mt_X12_count rfl (ev_X12_count [] 100 ?_)
  refine ⟨trivial, _, r_find h, fun σ1 ⟨f1, h1, t1, l1⟩ => ?_⟩
  unfold do_count
  cases hx : nn x 9 with
  | none =>
    have hno := nn_none (by decide) hx
    exact And.intro (fun _ => ⟨h1, t1, l1, rfl⟩) (And.intro (by decide) (And.intro (fun e => absurd (ti_eq (j := 0) (by decide) e) (hno 0 (by decide))) (And.intro (fun e => absurd (ti_eq (j := 1) (by decide) e) (hno 1 (by decide))) (And.intro (fun e => absurd (ti_eq (j := 2) (by decide) e) (hno 2 (by decide))) (And.intro (fun e => absurd (ti_eq (j := 3) (by decide) e) (hno 3 (by decide))) (And.intro (fun e => absurd (ti_eq (j := 4) (by decide) e) (hno 4 (by decide))) (And.intro (fun e => absurd (ti_eq (j := 5) (by decide) e) (hno 5 (by decide))) (And.intro (fun e => absurd (ti_eq (j := 6) (by decide) e) (hno 6 (by decide))) (And.intro (fun e => absurd (ti_eq (j := 7) (by decide) e) (hno 7 (by decide))) (And.intro (fun e => absurd (ti_eq (j := 8) (by decide) e) (hno 8 (by decide))) trivial))))))))))
  | some t =>
    obtain ⟨bt_, rfl⟩ := nn_some (by decide) hx
    have bt9 : t = 0 ∨ t = 1 ∨ t = 2 ∨ t = 3 ∨ t = 4 ∨ t = 5 ∨ t = 6 ∨ t = 7 ∨ t = 8 := by omega
    rcases bt9 with rfl | rfl | rfl | rfl | rfl | rfl | rfl | rfl | rfl
    · refine And.intro (fun e => absurd e (by decide)) (And.intro (by decide) (And.intro (fun e => ?_) (And.intro (fun e => absurd e (by decide)) (And.intro (fun e => absurd e (by decide)) (And.intro (fun e => absurd e (by decide)) (And.intro (fun e => absurd e (by decide)) (And.intro (fun e => absurd e (by decide)) (And.intro (fun e => absurd e (by decide)) (And.intro (fun e => absurd e (by decide)) (And.intro (fun e => absurd e (by decide)) trivial))))))))))
      exact ⟨h1, t1, l1, congrArg (fun z => some (Value.int z)) t1.1.2.1⟩
    · refine And.intro (fun e => absurd e (by decide)) (And.intro (by decide) (And.intro (fun e => absurd e (by decide)) (And.intro (fun e => ?_) (And.intro (fun e => absurd e (by decide)) (And.intro (fun e => absurd e (by decide)) (And.intro (fun e => absurd e (by decide)) (And.intro (fun e => absurd e (by decide)) (And.intro (fun e => absurd e (by decide)) (And.intro (fun e => absurd e (by decide)) (And.intro (fun e => absurd e (by decide)) trivial))))))))))
      refine ⟨trivial, _, r_cuesTold t1.2.1, fun z σ2 ⟨k1, k2⟩ => ?_⟩
      have k1 := k1.symm
      subst k1
      cases k2
      have e := cnt_hi (f := fun s => (aC A s).isSome) (m := 20) 12 (fun i hi => by
        have : aC A i = none := by
          unfold aC cuC
          exact if_neg (fun z => by have := (h1.1 1 (by decide)).1; have e40 : cap 1 = 40 := rfl; omega)
        rw [this]
        rfl)
      have e : cnt (fun s => (aC A s).isSome) 32 = cnt (fun s => (aC A s).isSome) 20 := e
      dsimp only
      rw [e]
      exact ⟨h1, t1, l1, rfl⟩
    · refine And.intro (fun e => absurd e (by decide)) (And.intro (by decide) (And.intro (fun e => absurd e (by decide)) (And.intro (fun e => absurd e (by decide)) (And.intro (fun e => ?_) (And.intro (fun e => absurd e (by decide)) (And.intro (fun e => absurd e (by decide)) (And.intro (fun e => absurd e (by decide)) (And.intro (fun e => absurd e (by decide)) (And.intro (fun e => absurd e (by decide)) (And.intro (fun e => absurd e (by decide)) trivial))))))))))
      refine ⟨trivial, _, r_cellsTold t1.2.2.1, fun z σ2 ⟨k1, k2⟩ => ?_⟩
      have k1 := k1.symm
      subst k1
      cases k2
      exact ⟨h1, t1, l1, rfl⟩
    · refine And.intro (fun e => absurd e (by decide)) (And.intro (by decide) (And.intro (fun e => absurd e (by decide)) (And.intro (fun e => absurd e (by decide)) (And.intro (fun e => absurd e (by decide)) (And.intro (fun e => ?_) (And.intro (fun e => absurd e (by decide)) (And.intro (fun e => absurd e (by decide)) (And.intro (fun e => absurd e (by decide)) (And.intro (fun e => absurd e (by decide)) (And.intro (fun e => absurd e (by decide)) trivial))))))))))
      refine And.intro (pk_in 0 3 (by decide) (by decide)) ?_
      exact ⟨h1, t1, l1, congrArg (fun z => some (Value.int z)) (h1.1 0 (by decide)).2.1⟩
    · refine And.intro (fun e => absurd e (by decide)) (And.intro (by decide) (And.intro (fun e => absurd e (by decide)) (And.intro (fun e => absurd e (by decide)) (And.intro (fun e => absurd e (by decide)) (And.intro (fun e => absurd e (by decide)) (And.intro (fun e => ?_) (And.intro (fun e => absurd e (by decide)) (And.intro (fun e => absurd e (by decide)) (And.intro (fun e => absurd e (by decide)) (And.intro (fun e => absurd e (by decide)) trivial))))))))))
      refine And.intro (pk_in 1 3 (by decide) (by decide)) ?_
      exact ⟨h1, t1, l1, congrArg (fun z => some (Value.int z)) (h1.1 1 (by decide)).2.1⟩
    · refine And.intro (fun e => absurd e (by decide)) (And.intro (by decide) (And.intro (fun e => absurd e (by decide)) (And.intro (fun e => absurd e (by decide)) (And.intro (fun e => absurd e (by decide)) (And.intro (fun e => absurd e (by decide)) (And.intro (fun e => absurd e (by decide)) (And.intro (fun e => ?_) (And.intro (fun e => absurd e (by decide)) (And.intro (fun e => absurd e (by decide)) (And.intro (fun e => absurd e (by decide)) trivial))))))))))
      refine And.intro (pk_in 2 3 (by decide) (by decide)) ?_
      exact ⟨h1, t1, l1, congrArg (fun z => some (Value.int z)) (h1.1 2 (by decide)).2.1⟩
    · refine And.intro (fun e => absurd e (by decide)) (And.intro (by decide) (And.intro (fun e => absurd e (by decide)) (And.intro (fun e => absurd e (by decide)) (And.intro (fun e => absurd e (by decide)) (And.intro (fun e => absurd e (by decide)) (And.intro (fun e => absurd e (by decide)) (And.intro (fun e => absurd e (by decide)) (And.intro (fun e => ?_) (And.intro (fun e => absurd e (by decide)) (And.intro (fun e => absurd e (by decide)) trivial))))))))))
      exact ⟨h1, t1, l1, congrArg (fun z => some (Value.int z)) t1.2.2.2.1.2.1⟩
    · refine And.intro (fun e => absurd e (by decide)) (And.intro (by decide) (And.intro (fun e => absurd e (by decide)) (And.intro (fun e => absurd e (by decide)) (And.intro (fun e => absurd e (by decide)) (And.intro (fun e => absurd e (by decide)) (And.intro (fun e => absurd e (by decide)) (And.intro (fun e => absurd e (by decide)) (And.intro (fun e => absurd e (by decide)) (And.intro (fun e => ?_) (And.intro (fun e => absurd e (by decide)) trivial))))))))))
      exact ⟨h1, t1, l1, congrArg (fun z => some (Value.int z)) h1.2.2.2.1.2.1⟩
    · refine And.intro (fun e => absurd e (by decide)) (And.intro (by decide) (And.intro (fun e => absurd e (by decide)) (And.intro (fun e => absurd e (by decide)) (And.intro (fun e => absurd e (by decide)) (And.intro (fun e => absurd e (by decide)) (And.intro (fun e => absurd e (by decide)) (And.intro (fun e => absurd e (by decide)) (And.intro (fun e => absurd e (by decide)) (And.intro (fun e => absurd e (by decide)) (And.intro (fun e => ?_) trivial))))))))))
      exact ⟨h1, t1, l1, congrArg (fun z => some (Value.int z)) h1.2.2.2.2.2.1.1⟩
end
