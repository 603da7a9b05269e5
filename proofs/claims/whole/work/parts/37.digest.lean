/-! digest -/
def mix (h v : Int64) : Int64 := 31 * h + v
theorem m_mix (h v : Int64) {σ : qw_M} : qw_Mt qw_tw wC my_X11_mix [.long h, .long v] σ (fun r σ' => σ' = σ ∧ r = some (.long (mix h v))) := by
  refine mt_X11_mix rfl (ev_X11_mix [] 100 ?_)
  unfold mix
  exact ⟨rfl, rfl⟩
/-- numbers one behind the other -/
def mxs (f : Nat → Int32) (h : Int64) : Nat → Int64
  | 0 => h
  | n + 1 => mix (mxs f h n) (f n).toInt64
def itf (g : Int64 → Nat → Int64) (h : Int64) : Nat → Int64
  | 0 => h
  | n + 1 => g (itf g h n) n
theorem mxs_0 {f : Nat → Int32} {h : Int64} : mxs f h 0 = h := rfl
theorem mxs_s {f : Nat → Int32} {h : Int64} {n : Nat} : mxs f h (n + 1) = mix (mxs f h n) (f n).toInt64 := rfl
theorem itf_0 {g : Int64 → Nat → Int64} {h : Int64} : itf g h 0 = h := rfl
theorem itf_s {g : Int64 → Nat → Int64} {h : Int64} {n : Nat} : itf g h (n + 1) = g (itf g h n) n := rfl
def cvA (A : AS) (s c : Nat) : Int32 := bI (fun i => decide (i < tF (aT A)) && cv (aT A) (aL A) (ps (aT A) (aC A) s).1 (ps (aT A) (aC A) s).2 i c)
def lgA (A : AS) (s c : Nat) : Nat := lgS (aT A) (aC A) (aKn A) (aKa A) (aL A) s c
def dgS (A : AS) (h : Int64) (s : Nat) : Int64 := mix (mix (mix (mix h (cuf (aC A) s).toInt64) (cuw (aC A) s).toInt64) (nI (scf A s)).toInt64) (nI (scd A s)).toInt64
def dgC (A : AS) (h : Int64) (c : Nat) : Int64 := mix (mix (mix (mix (mix h (obi (aP A c)).toInt64) (nI (lgA A 0 c)).toInt64) (nI (lgA A 9 c)).toInt64) (nI (lgA A 19 c)).toInt64) (cvA A 19 c).toInt64
noncomputable def dgF (A : AS) (h : Int64) (f : Nat) : Int64 := mix (mix (mix (mxs (hgA A f 9) (mxs (wat (aT A) (aL A) (ps (aT A) (aC A) 19) f) (mxs (wat (aT A) (aL A) (ps (aT A) (aC A) 9) f) (mxs (dtl (aT A) f) h 10) 4) 4) 3) (coA A f).toInt64) (deA A f).toInt64) (akA A f).toInt64
noncomputable def tcA (A : AS) (w : Nat) : Int32 := the (ftc (aT A) (aC A) w)
noncomputable def dgSh (A : AS) (h : Int64) : Int64 := mix (mxs (tcA A) (mix (mix h (the (fst (shn A) 32)).toInt64) (nI (cnt (shn A) 32)).toInt64) 3) (do_darkest A).toInt64
noncomputable def dgP (A : AS) (h : Int64) (s : Nat) : Int64 := mix (mix (mix (mix h (sfA A s 0).toInt64) (sfA A s 1).toInt64) (leA A s 0).toInt64) (leA A s 1).toInt64
noncomputable def dgR (A : AS) (h : Int64) : Int64 := mix (mix (mix (mix (mix (mix (mix h (moA A 0).toInt64) (moA A 1).toInt64) (neA A).toInt64) (suA A 5 5 9 0)) (suA A 5 5 9 1)) (plA A (nI 7) 15 0).toInt64) (plA A (nI 7) 15 1).toInt64
def ctA (A : AS) (k : Nat) : Int32 := do_count A (nI k)
def faA (A : AS) (t : Nat) : Int32 := do_fault A (nI t)
noncomputable def dig (A : AS) : Int64 := dgR A (dgP A (dgP A (dgP A (dgSh A (itf (dgF A) (itf (dgC A) (itf (dgS A) (mxs (faA A) (mxs (ctA A) 17 8) 3) 20) 32) (tF (aT A)))) 0) 9) 19)
theorem sc0 {A : AS} {s : Nat} (hs : s < 20) : do_screen A (nI s) (nI 0) = nI (scf A s) := by
  unfold do_screen
  rw [nn_nI hs (by decide), nn_nI (n := 2) (by decide) (by decide)]
  rfl
theorem sc1 {A : AS} {s : Nat} (hs : s < 20) : do_screen A (nI s) (nI 1) = nI (scd A s) := by
  unfold do_screen
  rw [nn_nI hs (by decide), nn_nI (n := 2) (by decide) (by decide)]
  rfl
theorem pcE {A : AS} {c : Nat} (hc : c < 32) : do_picture A (nI c) = obi (aP A c) := by
  unfold do_picture
  rw [nn_nI hc (by decide)]
theorem ligE {A : AS} {s c : Nat} (hs : s < 20) (hc : c < 32) : do_light A (nI s) (nI c) = nI (lgA A s c) := by
  unfold do_light
  rw [nn_nI hs (by decide), nn_nI hc (by decide)]
  rfl
theorem cvE {A : AS} {s c : Nat} (hs : s < 20) (hc : c < 32) : do_covers A (nI s) (nI c) = cvA A s c := by
  unfold do_covers
  rw [nn_nI hs (by decide), nn_nI hc (by decide)]
  rfl
theorem fgE {A : AS} {f w : Nat} (hf : f < tF (aT A)) (hF : tF (aT A) ≤ 8) (hw : w < 10) : do_figure A (nI f) (nI w) = dtl (aT A) f w := by
  unfold do_figure
  rw [nn_nI hf (by omega), nn_nI hw (by decide)]
theorem shE0 {A : AS} : do_shown A (nI 0) = the (fst (shn A) 32) := by
  unfold do_shown
  rw [nn_nI (n := 2) (by decide) (by decide)]
  rfl
theorem shE1 {A : AS} : do_shown A (nI 1) = nI (cnt (shn A) 32) := by
  unfold do_shown
  rw [nn_nI (n := 2) (by decide) (by decide)]
  rfl
theorem tcE {A : AS} {w : Nat} (hw : w < 3) : do_touched A (nI w) = tcA A w := by
  unfold do_touched
  rw [nn_nI hw (by decide)]
  rfl
theorem m_mixStep {σ : qw_M} {A : AS} (hK : KC σ A) (h : Int64) {s : Nat} (hs : s < 20) : qw_Mt qw_tw wC my_X11_mixStep [.ref 0, .long h, .int (nI s)] σ (fun r σ' => KC σ' A ∧ r = some (.long (dgS A h s))) := by
  generalize hQ : (fun (r : Option Value) (σ' : qw_M) => KC σ' A ∧ r = some (.long (dgS A h s))) = Q
  refine mt_X11_mixStep (Q := Q) rfl (ev_X11_mixStep [] 100 ?_)
  refine ⟨trivial, _, m_figureOf (Or.inl rfl) hK.2.2.1.2.1 hs, fun z σ1 ⟨k1, k2⟩ => ?_⟩
  have k1 := k1.symm
  subst k1
  cases k2
  refine ⟨trivial, _, m_mix _ _, fun z σm ⟨k1, k2⟩ => ?_⟩
  have k1 := k1.symm
  subst k1
  have k2 := Value.long.inj (Option.some.inj k2)
  subst k2
  refine ⟨trivial, _, m_whitherOf (Or.inl rfl) hK.2.2.1.2.1 hs, fun z σ1 ⟨k1, k2⟩ => ?_⟩
  have k1 := k1.symm
  subst k1
  cases k2
  refine ⟨trivial, _, m_mix _ _, fun z σm ⟨k1, k2⟩ => ?_⟩
  have k1 := k1.symm
  subst k1
  have k2 := Value.long.inj (Option.some.inj k2)
  subst k2
  refine ⟨trivial, _, c_screen hK (nI s) (nI 0), fun z σ1 ⟨hK1, k2⟩ => ?_⟩
  have k2 := (Value.int.inj (Option.some.inj k2)).trans (sc0 hs)
  subst k2
  refine ⟨trivial, _, m_mix _ _, fun z σm ⟨k1, k2⟩ => ?_⟩
  have k1 := k1.symm
  subst k1
  have k2 := Value.long.inj (Option.some.inj k2)
  subst k2
  refine ⟨trivial, _, c_screen hK1 (nI s) (nI 1), fun z σ1 ⟨hK2, k2⟩ => ?_⟩
  have k2 := (Value.int.inj (Option.some.inj k2)).trans (sc1 hs)
  subst k2
  refine ⟨trivial, _, m_mix _ _, fun z σm ⟨k1, k2⟩ => ?_⟩
  have k1 := k1.symm
  subst k1
  have k2 := Value.long.inj (Option.some.inj k2)
  subst k2
  subst hQ
  exact ⟨hK2, rfl⟩
theorem m_mixCell {σ : qw_M} {A : AS} (hK : KC σ A) (h : Int64) {c : Nat} (hc : c < 32) : qw_Mt qw_tw wC my_X11_mixCell [.ref 0, .long h, .int (nI c)] σ (fun r σ' => KC σ' A ∧ r = some (.long (dgC A h c))) := by
  generalize hQ : (fun (r : Option Value) (σ' : qw_M) => KC σ' A ∧ r = some (.long (dgC A h c))) = Q
  refine mt_X11_mixCell (Q := Q) rfl (ev_X11_mixCell [26] 100 ?_)
  refine ⟨trivial, _, c_picture hK (nI c), fun z σ1 ⟨hK1, k2⟩ => ?_⟩
  have k2 := (Value.int.inj (Option.some.inj k2)).trans (pcE hc)
  subst k2
  refine ⟨trivial, _, m_mix _ _, fun z σm ⟨k1, k2⟩ => ?_⟩
  have k1 := k1.symm
  subst k1
  have k2 := Value.long.inj (Option.some.inj k2)
  subst k2
  refine ⟨trivial, _, c_light hK1 (nI 0) (nI c), fun z σ1 ⟨hK2, k2⟩ => ?_⟩
  have k2 := (Value.int.inj (Option.some.inj k2)).trans (ligE (s := 0) (by decide) hc)
  subst k2
  refine ⟨trivial, _, m_mix _ _, fun z σm ⟨k1, k2⟩ => ?_⟩
  have k1 := k1.symm
  subst k1
  have k2 := Value.long.inj (Option.some.inj k2)
  subst k2
  show E_X11_mixCell Q 26 [(0, .ref 0), (1, .long h), (3, .int (nI c)), (4, .long (mix (mix h (obi (aP A c)).toInt64) (nI (lgA A 0 c)).toInt64))] [] _
  refine ev_X11_mixCell [] 100 ?_
  refine ⟨trivial, _, c_light hK2 (nI 9) (nI c), fun z σ1 ⟨hK3, k2⟩ => ?_⟩
  have k2 := (Value.int.inj (Option.some.inj k2)).trans (ligE (s := 9) (by decide) hc)
  subst k2
  refine ⟨trivial, _, m_mix _ _, fun z σm ⟨k1, k2⟩ => ?_⟩
  have k1 := k1.symm
  subst k1
  have k2 := Value.long.inj (Option.some.inj k2)
  subst k2
  refine ⟨trivial, _, c_light hK3 (nI 19) (nI c), fun z σ1 ⟨hK4, k2⟩ => ?_⟩
  have k2 := (Value.int.inj (Option.some.inj k2)).trans (ligE (s := 19) (by decide) hc)
  subst k2
  refine ⟨trivial, _, m_mix _ _, fun z σm ⟨k1, k2⟩ => ?_⟩
  have k1 := k1.symm
  subst k1
  have k2 := Value.long.inj (Option.some.inj k2)
  subst k2
  refine ⟨trivial, _, c_covers hK4 (nI 19) (nI c), fun z σ1 ⟨hK5, k2⟩ => ?_⟩
  have k2 := (Value.int.inj (Option.some.inj k2)).trans (cvE (s := 19) (by decide) hc)
  subst k2
  refine ⟨trivial, _, m_mix _ _, fun z σm ⟨k1, k2⟩ => ?_⟩
  have k1 := k1.symm
  subst k1
  have k2 := Value.long.inj (Option.some.inj k2)
  subst k2
  subst hQ
  exact ⟨hK5, rfl⟩
theorem m_mixFigure {σ : qw_M} {A : AS} (hK : KC σ A) (h : Int64) {f : Nat} (hf : f < tF (aT A)) : qw_Mt qw_tw wC my_X11_mixFigure [.ref 0, .long h, .int (nI f)] σ (fun r σ' => KC σ' A ∧ r = some (.long (dgF A h f))) := by
  generalize hQ : (fun (r : Option Value) (σ' : qw_M) => KC σ' A ∧ r = some (.long (dgF A h f))) = Q
  refine mt_X11_mixFigure (Q := Q) rfl (ev_X11_mixFigure [6] 100 ?_)
  have hF := hK.2.2.1.1.1.1
  have tail : ∀ (ls : qw_L) (σ' : qw_M), KC σ' A → (∀ q ∈ [(0, Value.ref 0), (3, .int (nI f)), (4, .long (mxs (hgA A f 9) (mxs (wat (aT A) (aL A) (ps (aT A) (aC A) 19) f) (mxs (wat (aT A) (aL A) (ps (aT A) (aC A) 9) f) (mxs (dtl (aT A) f) h 10) 4) 4) 3))], q ∈ ls) → E_X11_mixFigure Q 146 ls [] σ' := fun ls σ' h' hls => by
    refine qw_Ev.sub (ev_X11_mixFigure [162] 100 ?_) hls
    refine ⟨trivial, _, m_colours h'.2.2.1 h'.2.2.2.1 hf, fun z σ1 ⟨f1, h1, y, k2, hy⟩ => ?_⟩
    cases k2
    have ez : z = coA A f := bI_eq hy
    subst ez
    have h1 := KCfrs h' f1 h1
    refine ⟨trivial, _, m_mix _ _, fun z σm ⟨k1, k2⟩ => ?_⟩
    have k1 := k1.symm
    subst k1
    have k2 := Value.long.inj (Option.some.inj k2)
    subst k2
    refine ev_X11_mixFigure [] 100 ?_
    refine ⟨trivial, _, m_depths h1.2.2.1 h1.2.2.2.1 hf, fun z σ2 ⟨f2, h2, y, k2, hy⟩ => ?_⟩
    cases k2
    have ez : z = deA A f := bI_eq hy
    subst ez
    have h2 := KCfrs h1 f2 h2
    refine ⟨trivial, _, m_mix _ _, fun z σm ⟨k1, k2⟩ => ?_⟩
    have k1 := k1.symm
    subst k1
    have k2 := Value.long.inj (Option.some.inj k2)
    subst k2
    refine ⟨trivial, _, m_cellToAsk h2.2.2.1 hf _, fun z σ3 ⟨f3, h3, i, hi, k2⟩ => ?_⟩
    cases k2
    have hi := the_amn hi
    subst hi
    have h3 := KCfr h2 f3 h3
    refine ⟨trivial, _, m_mix _ _, fun z σm ⟨k1, k2⟩ => ?_⟩
    have k1 := k1.symm
    subst k1
    have k2 := Value.long.inj (Option.some.inj k2)
    subst k2
    subst hQ
    exact ⟨h3, rfl⟩
  have loop117 : ∀ (p0 p1 p2 : Int32) (hp : ∀ w, w < 3 → pick w p0 p1 p2 = hgA A f 9 w) (k j : Nat) (y : Int32) (ls : qw_L) (σ' : qw_M), j + k = 3 → y = nI j → KC σ' A → pln σ' p0 p1 p2 → (∀ q ∈ [(0, Value.ref 0), (1, .long h), (3, .int (nI f)), (4, .long (mxs (hgA A f 9) (mxs (wat (aT A) (aL A) (ps (aT A) (aC A) 19) f) (mxs (wat (aT A) (aL A) (ps (aT A) (aC A) 9) f) (mxs (dtl (aT A) f) h 10) 4) 4) j)), (6, .int y)], q ∈ ls) → E_X11_mixFigure Q 117 ls [] σ' := by
    intro p0 p1 p2 hp k
    induction k with
    | zero =>
      intro j y ls σ' hj hy h' hpl hls
      subst hy
      have : j = 3 := by omega
      subst this
      refine qw_Ev.sub (ev_X11_mixFigure [117, 146] 100 ?_) hls
      refine vt (Int32.le_refl _) ?_
      refine tail _ σ' h' (fun z hz => ?_)
      simp only [List.mem_cons, List.not_mem_nil, or_false] at hz
      rcases hz with rfl | rfl | rfl
      · exact List.mem_of_getElem? (i := 0) rfl
      · exact List.mem_of_getElem? (i := 2) rfl
      · exact List.mem_of_getElem? (i := 3) rfl
    | succ k ih =>
      intro j y ls σ' hj hy h' hpl hls
      subst hy
      refine qw_Ev.sub (ev_X11_mixFigure [117, 146] 100 ?_) hls
      refine vf (nnle 3 j (by omega) (by omega)) ?_
      refine ⟨trivial, _, m_answer hpl (i := j) (by omega), fun z σ1 ⟨k1, k2⟩ => ?_⟩
      have k1 := k1.symm
      subst k1
      have k2 := (Value.int.inj (Option.some.inj k2)).trans (hp j (by omega))
      subst k2
      refine ⟨trivial, _, m_mix _ _, fun z σm ⟨k1, k2⟩ => ?_⟩
      have k1 := k1.symm
      subst k1
      have k2 := Value.long.inj (Option.some.inj k2)
      subst k2
      exact ih (j + 1) _ _ _ (by omega) (nI_add j 1) h' hpl (sub_pre rfl)
  have mid : ∀ (ls : qw_L) (σ' : qw_M), KC σ' A → (∀ q ∈ [(0, Value.ref 0), (1, .long h), (3, .int (nI f)), (4, .long (mxs (wat (aT A) (aL A) (ps (aT A) (aC A) 19) f) (mxs (wat (aT A) (aL A) (ps (aT A) (aC A) 9) f) (mxs (dtl (aT A) f) h 10) 4) 4))], q ∈ ls) → E_X11_mixFigure Q 104 ls [] σ' := fun ls σ' h' hls => by
    refine qw_Ev.sub (ev_X11_mixFigure [117] 100 ?_) hls
    refine ⟨trivial, _, m_planHang h'.2.2.1 hf (s := 9) (by decide), fun σ1 ⟨f1, h1, i, hi, hp⟩ => ?_⟩
    have hi := the_amn hi
    subst hi
    exact loop117 _ _ _ (fun w hw => rfl) 3 0 _ _ σ1 rfl rfl (KCfr h' f1 h1) hp (sub_pre rfl)
  have loop72 : ∀ (k j : Nat) (y : Int32) (ls : qw_L) (σ' : qw_M), j + k = 4 → y = nI j → KC σ' A → (∀ q ∈ [(0, Value.ref 0), (1, .long h), (3, .int (nI f)), (4, .long (mxs (wat (aT A) (aL A) (ps (aT A) (aC A) 19) f) (mxs (wat (aT A) (aL A) (ps (aT A) (aC A) 9) f) (mxs (dtl (aT A) f) h 10) 4) j)), (6, .int y)], q ∈ ls) → E_X11_mixFigure Q 72 ls [] σ' := by
    intro k
    induction k with
    | zero =>
      intro j y ls σ' hj hy h' hls
      subst hy
      have : j = 4 := by omega
      subst this
      refine qw_Ev.sub (ev_X11_mixFigure [72, 104] 100 ?_) hls
      refine vt (Int32.le_refl _) ?_
      exact mid _ σ' h' (sub_pre rfl)
    | succ k ih =>
      intro j y ls σ' hj hy h' hls
      subst hy
      refine qw_Ev.sub (ev_X11_mixFigure [72, 104] 100 ?_) hls
      refine vf (nnle 4 j (by omega) (by omega)) ?_
      refine ⟨trivial, _, m_whereabouts h'.2.2.1 (s := 19) (by decide) hf (what := j) (by omega), fun z σ1 ⟨f1, h1, y, k2, hy⟩ => ?_⟩
      cases k2
      have ez := wat_eq hy
      subst ez
      have h1 := KCfrs h' f1 h1
      refine ⟨trivial, _, m_mix _ _, fun z σm ⟨k1, k2⟩ => ?_⟩
      have k1 := k1.symm
      subst k1
      have k2 := Value.long.inj (Option.some.inj k2)
      subst k2
      exact ih (j + 1) _ _ _ (by omega) (nI_add j 1) h1 (sub_pre rfl)
  have loop37 : ∀ (k j : Nat) (y : Int32) (ls : qw_L) (σ' : qw_M), j + k = 4 → y = nI j → KC σ' A → (∀ q ∈ [(0, Value.ref 0), (1, .long h), (3, .int (nI f)), (4, .long (mxs (wat (aT A) (aL A) (ps (aT A) (aC A) 9) f) (mxs (dtl (aT A) f) h 10) j)), (6, .int y)], q ∈ ls) → E_X11_mixFigure Q 37 ls [] σ' := by
    intro k
    induction k with
    | zero =>
      intro j y ls σ' hj hy h' hls
      subst hy
      have : j = 4 := by omega
      subst this
      refine qw_Ev.sub (ev_X11_mixFigure [37, 72] 100 ?_) hls
      refine vt (Int32.le_refl _) ?_
      exact loop72 4 0 _ _ σ' rfl rfl h' (sub_pre rfl)
    | succ k ih =>
      intro j y ls σ' hj hy h' hls
      subst hy
      refine qw_Ev.sub (ev_X11_mixFigure [37, 72] 100 ?_) hls
      refine vf (nnle 4 j (by omega) (by omega)) ?_
      refine ⟨trivial, _, m_whereabouts h'.2.2.1 (s := 9) (by decide) hf (what := j) (by omega), fun z σ1 ⟨f1, h1, y, k2, hy⟩ => ?_⟩
      cases k2
      have ez := wat_eq hy
      subst ez
      have h1 := KCfrs h' f1 h1
      refine ⟨trivial, _, m_mix _ _, fun z σm ⟨k1, k2⟩ => ?_⟩
      have k1 := k1.symm
      subst k1
      have k2 := Value.long.inj (Option.some.inj k2)
      subst k2
      exact ih (j + 1) _ _ _ (by omega) (nI_add j 1) h1 (sub_pre rfl)
  have loop6 : ∀ (k j : Nat) (y : Int32) (ls : qw_L) (σ' : qw_M), j + k = 10 → y = nI j → KC σ' A → (∀ q ∈ [(0, Value.ref 0), (1, .long h), (3, .int (nI f)), (4, .long (mxs (dtl (aT A) f) h j)), (6, .int y)], q ∈ ls) → E_X11_mixFigure Q 6 ls [] σ' := by
    intro k
    induction k with
    | zero =>
      intro j y ls σ' hj hy h' hls
      subst hy
      have : j = 10 := by omega
      subst this
      refine qw_Ev.sub (ev_X11_mixFigure [6, 37] 100 ?_) hls
      refine vt (Int32.le_refl _) ?_
      exact loop37 4 0 _ _ σ' rfl rfl h' (sub_pre rfl)
    | succ k ih =>
      intro j y ls σ' hj hy h' hls
      subst hy
      refine qw_Ev.sub (ev_X11_mixFigure [6, 37] 100 ?_) hls
      refine vf (nnle 10 j (by omega) (by omega)) ?_
      refine ⟨trivial, _, c_figure h' (nI f) (nI j), fun z σ1 ⟨h1, k2⟩ => ?_⟩
      have k2 := (Value.int.inj (Option.some.inj k2)).trans (fgE hf hF (by omega))
      subst k2
      refine ⟨trivial, _, m_mix _ _, fun z σm ⟨k1, k2⟩ => ?_⟩
      have k1 := k1.symm
      subst k1
      have k2 := Value.long.inj (Option.some.inj k2)
      subst k2
      exact ih (j + 1) _ _ _ (by omega) (nI_add j 1) h1 (sub_pre rfl)
  exact loop6 10 0 _ _ σ rfl rfl hK (sub_pre rfl)
theorem m_mixShown {σ : qw_M} {A : AS} (hK : KC σ A) (h : Int64) : qw_Mt qw_tw wC my_X11_mixShown [.ref 0, .long h] σ (fun r σ' => KC σ' A ∧ r = some (.long (dgSh A h))) := by
  generalize hQ : (fun (r : Option Value) (σ' : qw_M) => KC σ' A ∧ r = some (.long (dgSh A h))) = Q
  refine mt_X11_mixShown (Q := Q) rfl (ev_X11_mixShown [25] 100 ?_)
  have loop25 : ∀ (k j : Nat) (y : Int32) (σ' : qw_M), j + k = 3 → y = nI j → KC σ' A → E_X11_mixShown Q 25 [(0, .ref 0), (1, .long h), (3, .long (mxs (tcA A) (mix (mix h (the (fst (shn A) 32)).toInt64) (nI (cnt (shn A) 32)).toInt64) j)), (5, .int y)] [] σ' := by
    intro k
    induction k with
    | zero =>
      intro j y σ' hj hy h'
      subst hy
      have : j = 3 := by omega
      subst this
      refine ev_X11_mixShown [25] 100 ?_
      refine vt (Int32.le_refl _) ?_
      refine ⟨trivial, _, c_darkest h', fun z σ1 ⟨h1, k2⟩ => ?_⟩
      have k2 := (Value.int.inj (Option.some.inj k2)).trans rfl
      subst k2
      refine ⟨trivial, _, m_mix _ _, fun z σm ⟨k1, k2⟩ => ?_⟩
      have k1 := k1.symm
      subst k1
      have k2 := Value.long.inj (Option.some.inj k2)
      subst k2
      subst hQ
      exact ⟨h1, rfl⟩
    | succ k ih =>
      intro j y σ' hj hy h'
      subst hy
      refine ev_X11_mixShown [25] 100 ?_
      refine vf (nnle 3 j (by omega) (by omega)) ?_
      refine ⟨trivial, _, c_touched h' (nI j), fun z σ1 ⟨h1, k2⟩ => ?_⟩
      have k2 := (Value.int.inj (Option.some.inj k2)).trans (tcE (by omega))
      subst k2
      refine ⟨trivial, _, m_mix _ _, fun z σm ⟨k1, k2⟩ => ?_⟩
      have k1 := k1.symm
      subst k1
      have k2 := Value.long.inj (Option.some.inj k2)
      subst k2
      exact ih (j + 1) _ _ (by omega) (nI_add j 1) h1
  refine ⟨trivial, _, c_shown hK (nI 0), fun z σ1 ⟨hK1, k2⟩ => ?_⟩
  have k2 := (Value.int.inj (Option.some.inj k2)).trans shE0
  subst k2
  refine ⟨trivial, _, m_mix _ _, fun z σm ⟨k1, k2⟩ => ?_⟩
  have k1 := k1.symm
  subst k1
  have k2 := Value.long.inj (Option.some.inj k2)
  subst k2
  refine ⟨trivial, _, c_shown hK1 (nI 1), fun z σ1 ⟨hK2, k2⟩ => ?_⟩
  have k2 := (Value.int.inj (Option.some.inj k2)).trans shE1
  subst k2
  refine ⟨trivial, _, m_mix _ _, fun z σm ⟨k1, k2⟩ => ?_⟩
  have k1 := k1.symm
  subst k1
  have k2 := Value.long.inj (Option.some.inj k2)
  subst k2
  exact loop25 3 0 _ _ rfl rfl hK2
theorem m_mixStepPlans {σ : qw_M} {A : AS} (hK : KC σ A) (h : Int64) {s : Nat} (hs : s < 20) : qw_Mt qw_tw wC my_X11_mixStepPlans [.ref 0, .long h, .int (nI s)] σ (fun r σ' => KC σ' A ∧ r = some (.long (dgP A h s))) := by
  generalize hQ : (fun (r : Option Value) (σ' : qw_M) => KC σ' A ∧ r = some (.long (dgP A h s))) = Q
  refine mt_X11_mixStepPlans (Q := Q) rfl (ev_X11_mixStepPlans [39] 100 ?_)
  refine ⟨trivial, _, m_planShift hK.2.2.1 hs, fun σ1 ⟨f1, h1, i, hi, hp⟩ => ?_⟩
  have hi := the_amn hi
  subst hi
  have hK1 := KCfr hK f1 h1
  refine ⟨trivial, _, m_answer hp (i := 0) (by decide), fun z σ1 ⟨k1, k2⟩ => ?_⟩
  have k1 := k1.symm
  subst k1
  have k2 := (Value.int.inj (Option.some.inj k2)).trans (show _ = sfA A s 0 from rfl)
  subst k2
  refine ⟨trivial, _, m_mix _ _, fun z σm ⟨k1, k2⟩ => ?_⟩
  have k1 := k1.symm
  subst k1
  have k2 := Value.long.inj (Option.some.inj k2)
  subst k2
  refine ⟨trivial, _, m_answer hp (i := 1) (by decide), fun z σ1 ⟨k1, k2⟩ => ?_⟩
  have k1 := k1.symm
  subst k1
  have k2 := (Value.int.inj (Option.some.inj k2)).trans (show _ = sfA A s 1 from rfl)
  subst k2
  refine ⟨trivial, _, m_mix _ _, fun z σm ⟨k1, k2⟩ => ?_⟩
  have k1 := k1.symm
  subst k1
  have k2 := Value.long.inj (Option.some.inj k2)
  subst k2
  show E_X11_mixStepPlans Q 39 [(0, .ref 0), (1, .long h), (3, .int (nI s)), (4, .long (mix (mix h (sfA A s 0).toInt64) (sfA A s 1).toInt64))] [] _
  refine ev_X11_mixStepPlans [] 100 ?_
  refine ⟨trivial, _, m_planLeave hK1.2.2.1 hs, fun σ2 ⟨f2, h2, k, x1, y1, hk, hp2⟩ => ?_⟩
  have hK2 := KCfr hK1 f2 h2
  refine ⟨trivial, _, m_answer hp2 (i := 0) (by decide), fun z σ1 ⟨k1, k2⟩ => ?_⟩
  have k1 := k1.symm
  subst k1
  have k2 := (Value.int.inj (Option.some.inj k2)).trans (show _ = leA A s 0 from the_pk ⟨k, x1, y1, hk, rfl⟩)
  subst k2
  refine ⟨trivial, _, m_mix _ _, fun z σm ⟨k1, k2⟩ => ?_⟩
  have k1 := k1.symm
  subst k1
  have k2 := Value.long.inj (Option.some.inj k2)
  subst k2
  refine ⟨trivial, _, m_answer hp2 (i := 1) (by decide), fun z σ1 ⟨k1, k2⟩ => ?_⟩
  have k1 := k1.symm
  subst k1
  have k2 := (Value.int.inj (Option.some.inj k2)).trans (show _ = leA A s 1 from the_pk ⟨k, x1, y1, hk, rfl⟩)
  subst k2
  refine ⟨trivial, _, m_mix _ _, fun z σm ⟨k1, k2⟩ => ?_⟩
  have k1 := k1.symm
  subst k1
  have k2 := Value.long.inj (Option.some.inj k2)
  subst k2
  subst hQ
  exact ⟨hK2, rfl⟩
theorem m_mixRest {σ : qw_M} {A : AS} (hK : KC σ A) (h : Int64) : qw_Mt qw_tw wC my_X11_mixRest [.ref 0, .long h] σ (fun r σ' => KC σ' A ∧ r = some (.long (dgR A h))) := by
  generalize hQ : (fun (r : Option Value) (σ' : qw_M) => KC σ' A ∧ r = some (.long (dgR A h))) = Q
  refine mt_X11_mixRest (Q := Q) rfl (ev_X11_mixRest [35] 100 ?_)
  refine ⟨trivial, _, m_planMore hK.2.2.1, fun σ1 ⟨f1, h1, k, x1, y1, hk, hp⟩ => ?_⟩
  have hK1 := KCfr hK f1 h1
  refine ⟨trivial, _, m_answer hp (i := 0) (by decide), fun z σ1 ⟨k1, k2⟩ => ?_⟩
  have k1 := k1.symm
  subst k1
  have k2 := (Value.int.inj (Option.some.inj k2)).trans (show _ = moA A 0 from the_pk ⟨k, x1, y1, hk, rfl⟩)
  subst k2
  refine ⟨trivial, _, m_mix _ _, fun z σm ⟨k1, k2⟩ => ?_⟩
  have k1 := k1.symm
  subst k1
  have k2 := Value.long.inj (Option.some.inj k2)
  subst k2
  refine ⟨trivial, _, m_answer hp (i := 1) (by decide), fun z σ1 ⟨k1, k2⟩ => ?_⟩
  have k1 := k1.symm
  subst k1
  have k2 := (Value.int.inj (Option.some.inj k2)).trans (show _ = moA A 1 from the_pk ⟨k, x1, y1, hk, rfl⟩)
  subst k2
  refine ⟨trivial, _, m_mix _ _, fun z σm ⟨k1, k2⟩ => ?_⟩
  have k1 := k1.symm
  subst k1
  have k2 := Value.long.inj (Option.some.inj k2)
  subst k2
  show E_X11_mixRest Q 35 [(0, .ref 0), (1, .long h), (3, .long (mix (mix h (moA A 0).toInt64) (moA A 1).toInt64))] [] _
  refine ev_X11_mixRest [45] 100 ?_
  refine ⟨trivial, _, c_never hK1, fun z σ1 ⟨hK2, k2⟩ => ?_⟩
  have k2 := (Value.int.inj (Option.some.inj k2)).trans rfl
  subst k2
  refine ⟨trivial, _, m_mix _ _, fun z σm ⟨k1, k2⟩ => ?_⟩
  have k1 := k1.symm
  subst k1
  have k2 := Value.long.inj (Option.some.inj k2)
  subst k2
  show E_X11_mixRest Q 45 [(0, .ref 0), (1, .long h), (3, .long (mix (mix (mix h (moA A 0).toInt64) (moA A 1).toInt64) (neA A).toInt64))] [] _
  refine ev_X11_mixRest [80] 100 ?_
  refine ⟨trivial, _, m_reckon hK2.2.2.1 (c := 5) (last := 5) (s := 9) (by decide) (by decide) (by decide), fun σ3 ⟨f3, h3, a1, a2⟩ => ?_⟩
  have hK3 := KCfr hK2 f3 h3
  have a1 : (σ3 38).2 2 = suA A 5 5 9 0 := a1
  have a2 : (σ3 38).2 3 = suA A 5 5 9 1 := a2
  refine ⟨trivial, _, m_mix _ _, fun z σm ⟨k1, k2⟩ => ?_⟩
  have k1 := k1.symm
  subst k1
  have k2 := (Value.long.inj (Option.some.inj k2)).trans (congrArg (mix _) a1)
  subst k2
  refine ⟨trivial, _, m_mix _ _, fun z σm ⟨k1, k2⟩ => ?_⟩
  have k1 := k1.symm
  subst k1
  have k2 := (Value.long.inj (Option.some.inj k2)).trans (congrArg (mix _) a2)
  subst k2
  show E_X11_mixRest Q 80 [(0, .ref 0), (1, .long h), (3, .long (mix (mix (mix (mix (mix h (moA A 0).toInt64) (moA A 1).toInt64) (neA A).toInt64) (suA A 5 5 9 0)) (suA A 5 5 9 1)))] [] _
  refine ev_X11_mixRest [] 100 ?_
  refine ⟨trivial, _, m_playOut hK3.2.2.1 (nI 7) (m := 15) (what := 0) (by decide) (by decide), fun z σ4 ⟨f4, h4, k2⟩ => ?_⟩
  have hK4 := KCfr hK3 f4 h4
  have k2 := (Value.int.inj (Option.some.inj k2)).trans (show _ = plA A (nI 7) 15 0 from rfl)
  subst k2
  refine ⟨trivial, _, m_mix _ _, fun z σm ⟨k1, k2⟩ => ?_⟩
  have k1 := k1.symm
  subst k1
  have k2 := Value.long.inj (Option.some.inj k2)
  subst k2
  refine ⟨trivial, _, m_playOut hK4.2.2.1 (nI 7) (m := 15) (what := 1) (by decide) (by decide), fun z σ4 ⟨f4, h4, k2⟩ => ?_⟩
  have hK5 := KCfr hK4 f4 h4
  have k2 := (Value.int.inj (Option.some.inj k2)).trans (show _ = plA A (nI 7) 15 1 from rfl)
  subst k2
  refine ⟨trivial, _, m_mix _ _, fun z σm ⟨k1, k2⟩ => ?_⟩
  have k1 := k1.symm
  subst k1
  have k2 := Value.long.inj (Option.some.inj k2)
  subst k2
  subst hQ
  exact ⟨hK5, rfl⟩
theorem m_digest {σ : qw_M} {A : AS} (hK : KC σ A) : qw_Mt qw_tw wC my_X11_digest [.ref 0] σ (fun r σ' => KC σ' A ∧ r = some (.long (dig A))) := by
  generalize hQ : (fun (r : Option Value) (σ' : qw_M) => KC σ' A ∧ r = some (.long (dig A))) = Q
  refine mt_X11_digest (Q := Q) rfl (ev_X11_digest [6] 100 ?_)
  have hF := hK.2.2.1.1.1.1
  have tail : ∀ (a : Int64) (y : Int32) σ', KC σ' A → a = itf (dgF A) (itf (dgC A) (itf (dgS A) (mxs (faA A) (mxs (ctA A) 17 8) 3) 20) 32) (tF (aT A)) → E_X11_digest Q 124 [(0, .ref 0), (1, .long a), (3, .int y)] [] σ' := fun a y σ' h' ha => by
    refine ev_X11_digest [] 100 ?_
    refine ⟨trivial, _, m_mixShown h' _, fun z σ1 ⟨h1, k2⟩ => ?_⟩
    have k2 := Value.long.inj (Option.some.inj k2)
    subst k2
    refine ⟨trivial, _, m_mixStepPlans h1 _ (s := 0) (by decide), fun z σ2 ⟨h2, k2⟩ => ?_⟩
    have k2 := Value.long.inj (Option.some.inj k2)
    subst k2
    refine ⟨trivial, _, m_mixStepPlans h2 _ (s := 9) (by decide), fun z σ3 ⟨h3, k2⟩ => ?_⟩
    have k2 := Value.long.inj (Option.some.inj k2)
    subst k2
    refine ⟨trivial, _, m_mixStepPlans h3 _ (s := 19) (by decide), fun z σ4 ⟨h4, k2⟩ => ?_⟩
    have k2 := Value.long.inj (Option.some.inj k2)
    subst k2
    refine ⟨trivial, _, m_mixRest h4 _, fun z σ5 ⟨h5, k2⟩ => ?_⟩
    have k2 := Value.long.inj (Option.some.inj k2)
    subst k2
    rw [ha]
    subst hQ
    exact ⟨h5, rfl⟩
  have loop97 : ∀ (k j : Nat) (y : Int32) (a : Int64) (σ' : qw_M), j + k = tF (aT A) → y = nI j → KC σ' A → a = itf (dgF A) (itf (dgC A) (itf (dgS A) (mxs (faA A) (mxs (ctA A) 17 8) 3) 20) 32) j → E_X11_digest Q 97 [(0, .ref 0), (1, .long a), (3, .int y)] [] σ' := by
    intro k
    induction k with
    | zero =>
      intro j y a σ' hj hy h' ha
      subst hy
      have : j = tF (aT A) := by omega
      subst this
      refine ev_X11_digest [97, 124] 100 ?_
      refine vt (by rw [h'.2.2.1.1.2.1]; exact Int32.le_refl _) ?_
      exact tail _ _ σ' h' ha
    | succ k ih =>
      intro j y a σ' hj hy h' ha
      subst hy
      refine ev_X11_digest [97, 124] 100 ?_
      refine vf (by rw [h'.2.2.1.1.2.1]; exact nnle (tF (aT A)) j (by omega) (by omega)) ?_
      refine ⟨trivial, _, m_mixFigure h' _ (f := j) (by omega), fun z σ1 ⟨h1, k2⟩ => ?_⟩
      have k2 := Value.long.inj (Option.some.inj k2)
      subst k2
      exact ih (j + 1) _ _ _ (by omega) (nI_add j 1) h1 (by rw [ha]; exact itf_s.symm)
  have loop76 : ∀ (k j : Nat) (y : Int32) (a : Int64) (σ' : qw_M), j + k = 32 → y = nI j → KC σ' A → a = itf (dgC A) (itf (dgS A) (mxs (faA A) (mxs (ctA A) 17 8) 3) 20) j → E_X11_digest Q 76 [(0, .ref 0), (1, .long a), (3, .int y)] [] σ' := by
    intro k
    induction k with
    | zero =>
      intro j y a σ' hj hy h' ha
      subst hy
      have : j = 32 := by omega
      subst this
      refine ev_X11_digest [76, 95] 100 ?_
      refine vt (Int32.le_refl _) ?_
      refine ev_X11_digest [97] 100 ?_
      exact loop97 (tF (aT A)) 0 _ _ σ' (by omega) rfl h' (by rw [ha]; exact itf_0.symm)
    | succ k ih =>
      intro j y a σ' hj hy h' ha
      subst hy
      refine ev_X11_digest [76, 95] 100 ?_
      refine vf (by exact nnle (32) j (by omega) (by omega)) ?_
      refine ⟨trivial, _, m_mixCell h' _ (c := j) (by omega), fun z σ1 ⟨h1, k2⟩ => ?_⟩
      have k2 := Value.long.inj (Option.some.inj k2)
      subst k2
      exact ih (j + 1) _ _ _ (by omega) (nI_add j 1) h1 (by rw [ha]; exact itf_s.symm)
  have loop55 : ∀ (k j : Nat) (y : Int32) (a : Int64) (σ' : qw_M), j + k = 20 → y = nI j → KC σ' A → a = itf (dgS A) (mxs (faA A) (mxs (ctA A) 17 8) 3) j → E_X11_digest Q 55 [(0, .ref 0), (1, .long a), (3, .int y)] [] σ' := by
    intro k
    induction k with
    | zero =>
      intro j y a σ' hj hy h' ha
      subst hy
      have : j = 20 := by omega
      subst this
      refine ev_X11_digest [55, 74] 100 ?_
      refine vt (Int32.le_refl _) ?_
      refine ev_X11_digest [76] 100 ?_
      exact loop76 32 0 _ _ σ' rfl rfl h' (by rw [ha]; exact itf_0.symm)
    | succ k ih =>
      intro j y a σ' hj hy h' ha
      subst hy
      refine ev_X11_digest [55, 74] 100 ?_
      refine vf (by exact nnle (20) j (by omega) (by omega)) ?_
      refine ⟨trivial, _, m_mixStep h' _ (s := j) (by omega), fun z σ1 ⟨h1, k2⟩ => ?_⟩
      have k2 := Value.long.inj (Option.some.inj k2)
      subst k2
      exact ih (j + 1) _ _ _ (by omega) (nI_add j 1) h1 (by rw [ha]; exact itf_s.symm)
  have loop31 : ∀ (k j : Nat) (y : Int32) (a : Int64) (σ' : qw_M), j + k = 3 → y = nI j → KC σ' A → a = mxs (faA A) (mxs (ctA A) 17 8) j → E_X11_digest Q 31 [(0, .ref 0), (1, .long a), (3, .int y)] [] σ' := by
    intro k
    induction k with
    | zero =>
      intro j y a σ' hj hy h' ha
      subst hy
      have : j = 3 := by omega
      subst this
      refine ev_X11_digest [31, 53] 100 ?_
      refine vt (Int32.le_refl _) ?_
      refine ev_X11_digest [55] 100 ?_
      exact loop55 20 0 _ _ σ' rfl rfl h' (by rw [ha]; exact itf_0.symm)
    | succ k ih =>
      intro j y a σ' hj hy h' ha
      subst hy
      refine ev_X11_digest [31, 53] 100 ?_
      refine vf (by exact nnle (3) j (by omega) (by omega)) ?_
      refine ⟨trivial, _, c_fault h' (nI j), fun z σ1 ⟨h1, k2⟩ => ?_⟩
      have k2 := (Value.int.inj (Option.some.inj k2)).trans (show _ = faA A j from rfl)
      subst k2
      refine ⟨trivial, _, m_mix _ _, fun z σm ⟨k1, k2⟩ => ?_⟩
      have k1 := k1.symm
      subst k1
      have k2 := Value.long.inj (Option.some.inj k2)
      subst k2
      exact ih (j + 1) _ _ _ (by omega) (nI_add j 1) h1 (by rw [ha]; exact mxs_s.symm)
  have loop6 : ∀ (k j : Nat) (y : Int32) (a : Int64) (σ' : qw_M), j + k = 8 → y = nI j → KC σ' A → a = mxs (ctA A) 17 j → E_X11_digest Q 6 [(0, .ref 0), (1, .long a), (3, .int y)] [] σ' := by
    intro k
    induction k with
    | zero =>
      intro j y a σ' hj hy h' ha
      subst hy
      have : j = 8 := by omega
      subst this
      refine ev_X11_digest [6, 29] 100 ?_
      refine vt (Int32.le_refl _) ?_
      refine ev_X11_digest [31] 100 ?_
      exact loop31 3 0 _ _ σ' rfl rfl h' (by rw [ha]; exact mxs_0.symm)
    | succ k ih =>
      intro j y a σ' hj hy h' ha
      subst hy
      refine ev_X11_digest [6, 29] 100 ?_
      refine vf (by exact nnle (8) j (by omega) (by omega)) ?_
      refine ⟨trivial, _, c_count h' (nI j), fun z σ1 ⟨h1, k2⟩ => ?_⟩
      have k2 := (Value.int.inj (Option.some.inj k2)).trans (show _ = ctA A j from rfl)
      subst k2
      refine ⟨trivial, _, m_mix _ _, fun z σm ⟨k1, k2⟩ => ?_⟩
      have k1 := k1.symm
      subst k1
      have k2 := Value.long.inj (Option.some.inj k2)
      subst k2
      exact ih (j + 1) _ _ _ (by omega) (nI_add j 1) h1 (by rw [ha]; exact mxs_s.symm)
  exact loop6 8 0 _ _ σ rfl rfl hK mxs_0.symm
