/-! Stage: moves, covers, light -/
theorem sg.at {σ : qw_M} {F : Nat} {d p q : Nat → Nat} (h : sg σ F d p q) {f : Nat} (hf : f < F) : 1 ≤ d f ∧ d f ≤ 8 ∧ p f < 32 ∧ q f < 4 ∧ (σ 23).1 f = nI (d f) ∧ (σ 24).1 f = nI (p f) ∧ (σ 25).1 f = nI (q f) := h f hf
theorem up_eq {d : Nat → Nat} {f v : Nat} : va_up d f v f = v := by simp [va_up]
theorem up_ne {d : Nat → Nat} {f v g : Nat} (h : g ≠ f) : va_up d f v g = d g := by simp [va_up, h]
theorem up_id {d : Nat → Nat} {f : Nat} : va_up d f (d f) = d := by
  funext g
  by_cases h : g = f
  · subst h; exact up_eq
  · exact up_ne h
theorem m_put {T : TT} {σ : qw_M} (hT : tr σ T) {d p q : Nat → Nat} (hs : sg σ (tF T) d p q) {f a b : Nat} (hf : f < tF T) (ha : 1 ≤ a) (ha8 : a ≤ 8) (hb : b < 32) : qw_Mt qw_tw wC my_X8_put [.ref 21, .int (nI f), .int (nI a), .int (nI b)] σ (fun _ σ' => fr [23, 24] σ σ' ∧ sg σ' (tF T) (va_up d f a) (va_up p f b) q) := by
  have hF := hT.1.1
  refine mt_X8_put rfl (ev_X8_put [] 100 ?_)
  refine ⟨trivial, _, m_has hT _, fun x σ' _ ⟨h1, h2⟩ => ?_⟩
  subst h1
  rcases h2 with ⟨g, hg, e, h2⟩ | ⟨h2, -⟩
  · cases h2
    refine vf (by decide) ?_
    refine And.intro (nin f 8 (by omega) (by omega)) ?_
    refine And.intro (nin f 8 (by omega) (by omega)) ?_
    refine ⟨(fr.pi (by simp)).tr (fr.pi (by simp)), fun g hg => ?_⟩
    obtain ⟨s1, s2, s3, s4, s5, s6, s7⟩ := hs g hg
    rw [nI_clamp (by omega)]
    by_cases h : g = f
    · subst h
      refine ⟨by rw [up_eq]; exact ha, by rw [up_eq]; exact ha8, by rw [up_eq]; exact hb, s4, ?_, ?_, ?_⟩
      · rw [up_eq]
        simp [pi_at, pi_off]
      · rw [up_eq]
        simp [pi_at, pi_off]
      · simp [pi_at, pi_off, s7]
    · rw [up_ne h, up_ne h]
      refine ⟨s1, s2, s3, s4, ?_, ?_, ?_⟩
      · simp [pi_at, pi_off, h, s5]
      · simp [pi_at, pi_off, h, s6]
      · simp [pi_at, pi_off, s7]
  · exact absurd rfl (h2 f hf)
theorem m_paint {T : TT} {σ : qw_M} (hT : tr σ T) {d p q : Nat → Nat} (hs : sg σ (tF T) d p q) {f a : Nat} (hf : f < tF T) (ha : a < 4) : qw_Mt qw_tw wC my_X8_paint [.ref 21, .int (nI f), .int (nI a)] σ (fun _ σ' => fr [25] σ σ' ∧ sg σ' (tF T) d p (va_up q f a)) := by
  have hF := hT.1.1
  refine mt_X8_paint rfl (ev_X8_paint [] 100 ?_)
  refine ⟨trivial, _, m_has hT _, fun x σ' _ ⟨h1, h2⟩ => ?_⟩
  subst h1
  rcases h2 with ⟨g, hg, e, h2⟩ | ⟨h2, -⟩
  · cases h2
    refine vf (by decide) ?_
    refine And.intro (nin f 8 (by omega) (by omega)) ?_
    refine ⟨fr.pi (by simp), fun g hg => ?_⟩
    obtain ⟨s1, s2, s3, s4, s5, s6, s7⟩ := hs g hg
    rw [nI_clamp (by omega)]
    by_cases h : g = f
    · subst h
      refine ⟨s1, s2, s3, by rw [up_eq]; exact ha, ?_, ?_, ?_⟩
      · simp [pi_off, s5]
      · simp [pi_off, s6]
      · rw [up_eq]
        simp [pi_at]
    · rw [up_ne h]
      refine ⟨s1, s2, s3, s4, ?_, ?_, ?_⟩
      · simp [pi_off, s5]
      · simp [pi_off, s6]
      · simp [pi_at, h, s7]
  · exact absurd rfl (h2 f hf)
theorem m_depthOf {T : TT} {σ : qw_M} (hT : tr σ T) {d p q : Nat → Nat} (hs : sg σ (tF T) d p q) {f : Nat} (hf : f < tF T) : qw_Mt qw_tw wC my_X8_depthOf [.ref 21, .int (nI f)] σ (fun r σ' => σ' = σ ∧ r = some (.int (nI (d f)))) := by
  have hF := hT.1.1
  refine mt_X8_depthOf rfl (ev_X8_depthOf [] 100 ?_)
  refine ⟨trivial, _, m_has hT _, fun x σ' _ ⟨h1, h2⟩ => ?_⟩
  subst h1
  rcases h2 with ⟨g, hg, e, h2⟩ | ⟨h2, -⟩
  · cases h2
    refine vf (by decide) ?_
    refine And.intro (nin f 8 (by omega) (by omega)) ?_
    refine ⟨rfl, ?_⟩
    rw [nI_clamp (by omega), (hs f hf).2.2.2.2.1]
  · exact absurd rfl (h2 f hf)
theorem m_placeOf {T : TT} {σ : qw_M} (hT : tr σ T) {d p q : Nat → Nat} (hs : sg σ (tF T) d p q) {f : Nat} (hf : f < tF T) : qw_Mt qw_tw wC my_X8_placeOf [.ref 21, .int (nI f)] σ (fun r σ' => σ' = σ ∧ r = some (.int (nI (p f)))) := by
  have hF := hT.1.1
  refine mt_X8_placeOf rfl (ev_X8_placeOf [] 100 ?_)
  refine ⟨trivial, _, m_has hT _, fun x σ' _ ⟨h1, h2⟩ => ?_⟩
  subst h1
  rcases h2 with ⟨g, hg, e, h2⟩ | ⟨h2, -⟩
  · cases h2
    refine vf (by decide) ?_
    refine And.intro (nin f 8 (by omega) (by omega)) ?_
    refine ⟨rfl, ?_⟩
    rw [nI_clamp (by omega), (hs f hf).2.2.2.2.2.1]
  · exact absurd rfl (h2 f hf)
/-- a step of a figure: whither 0 l, 1 r, 2 f, 3 b -/
def mvD (w d : Nat) : Nat := if w = 2 then (if 1 < d then d - 1 else d) else if w = 3 then (if d < 8 then d + 1 else d) else d
def mvP (w p : Nat) : Nat := if w = 0 then p - 1 else if w = 1 then (if p < 31 then p + 1 else p) else p
theorem m_move0 {T : TT} {σ : qw_M} (hT : tr σ T) {x y : Int32} (hx : ∀ f, f < tF T → x ≠ nI f) : qw_Mt qw_tw wC my_X8_move [.ref 21, .int x, .int y] σ (fun _ σ' => σ' = σ) := by
  refine mt_X8_move rfl (ev_X8_move [] 100 ?_)
  refine ⟨trivial, _, m_has hT _, fun x σ' _ ⟨h1, h2⟩ => ?_⟩
  subst h1
  rcases h2 with ⟨g, hg, e, h2⟩ | ⟨h2, h3⟩
  · exact absurd e (hx g hg)
  · cases h3
    refine vnf (by decide) ?_
    rfl
theorem sgP {σ : qw_M} {F f v : Nat} {d p q : Nat → Nat} (hs : sg σ F d p q) (hv : v < 32) : sg (qw_pi σ 24 f (nI v)) F d (va_up p f v) q := by
  intro g hg
  obtain ⟨s1, s2, s3, s4, s5, s6, s7⟩ := hs g hg
  by_cases h : g = f
  · subst h
    rw [up_eq]
    exact ⟨s1, s2, hv, s4, by rw [pi_off (by decide)]; exact s5, pi_eq, by rw [pi_off (by decide)]; exact s7⟩
  · rw [up_ne h]
    exact ⟨s1, s2, s3, s4, by rw [pi_off (by decide)]; exact s5, by rw [pi_ne h]; exact s6, by rw [pi_off (by decide)]; exact s7⟩
theorem sgD {σ : qw_M} {F f v : Nat} {d p q : Nat → Nat} (hs : sg σ F d p q) (h1 : 1 ≤ v) (hv : v ≤ 8) : sg (qw_pi σ 23 f (nI v)) F (va_up d f v) p q := by
  intro g hg
  obtain ⟨s1, s2, s3, s4, s5, s6, s7⟩ := hs g hg
  by_cases h : g = f
  · subst h
    rw [up_eq]
    exact ⟨h1, hv, s3, s4, pi_eq, by rw [pi_off (by decide)]; exact s6, by rw [pi_off (by decide)]; exact s7⟩
  · rw [up_ne h]
    exact ⟨s1, s2, s3, s4, by rw [pi_ne h]; exact s5, by rw [pi_off (by decide)]; exact s6, by rw [pi_off (by decide)]; exact s7⟩
theorem m_move {T : TT} {σ : qw_M} (hT : tr σ T) {d p q : Nat → Nat} (hs : sg σ (tF T) d p q) {f w : Nat} (hf : f < tF T) (hw : w < 4) : qw_Mt qw_tw wC my_X8_move [.ref 21, .int (nI f), .int (nI w)] σ (fun _ σ' => fr [23, 24] σ σ' ∧ sg σ' (tF T) (va_up d f (mvD w (d f))) (va_up p f (mvP w (p f))) q) := by
  have hF := hT.1.1
  obtain ⟨s1, s2, s3, s4, s5, s6, s7⟩ := hs f hf
  have e5 : (σ 23).1 (nI f).toNatClampNeg = nI (d f) := by rw [nI_clamp (by omega)]; exact s5
  have e6 : (σ 24).1 (nI f).toNatClampNeg = nI (p f) := by rw [nI_clamp (by omega)]; exact s6
  have hin : vp_in (nI f) 8 := nin f 8 (by omega) (by omega)
  have stay : ∀ {d' p' : Nat → Nat}, d' = d → p' = p → fr [23, 24] σ σ ∧ sg σ (tF T) d' p' q := fun h1 h2 => by subst h1; subst h2; exact ⟨fr.rf, hs⟩
  refine mt_X8_move rfl (ev_X8_move [] 100 ?_)
  refine ⟨trivial, _, m_has hT _, fun x σ' _ ⟨h1, h2⟩ => ?_⟩
  subst h1
  rcases h2 with ⟨g, hg, e, h2⟩ | ⟨h2, -⟩
  · cases h2
    refine vnt (by decide) ?_
    rcases (show w = 0 ∨ w = 1 ∨ w = 2 ∨ w = 3 by omega) with rfl | rfl | rfl | rfl
    · refine vnf rfl ?_
      refine And.intro hin ?_
      refine vb (fun a => ?_) (fun a => ?_)
      · have a0 : p f = 0 := by
          rw [e6] at a
          rcases Nat.eq_zero_or_pos (p f) with z | z
          · exact z
          · exact absurd a (nI_nle z (by omega))
        refine vnt (by decide) ?_
        refine vnt (by decide) ?_
        refine vnt (by decide) ?_
        exact stay (by simp [mvD, up_id]) (by simp only [mvP, if_true]; rw [a0, show 0 - 1 = 0 from rfl, ← a0]; exact up_id)
      · have a0 : 0 < p f := by
          rw [e6] at a
          rcases Nat.eq_zero_or_pos (p f) with z | z
          · rw [z] at a; exact absurd (Int32.le_refl _) a
          · exact z
        refine And.intro hin ?_
        refine And.intro hin ?_
        refine ⟨fr.pi (by simp), ?_⟩
        rw [e6, nI_clamp (by omega), pk_sub (a := p f) (b := 1) (by omega)]
        have := sgP (f := f) (v := p f - 1) hs (by omega)
        simpa [mvD, mvP, up_id] using this
    · refine vnt (by decide) ?_
      refine vnf rfl ?_
      refine And.intro hin ?_
      refine vb (fun a => ?_) (fun a => ?_)
      · have a0 : ¬ p f < 31 := by
          rw [e6] at a
          intro z
          exact nnle 31 (p f) z (by omega) a
        refine vnt (by decide) ?_
        refine vnt (by decide) ?_
        exact stay (by simp [mvD, up_id]) (by simp [mvP, a0, up_id])
      · have a0 : p f < 31 := by
          rw [e6] at a
          rcases Nat.lt_or_ge (p f) 31 with z | z
          · exact z
          · exact absurd (nle 31 (p f) z (by omega)) a
        refine And.intro hin ?_
        refine And.intro hin ?_
        refine ⟨fr.pi (by simp), ?_⟩
        rw [e6, nI_clamp (by omega), nI_add]
        have := sgP (f := f) (v := p f + 1) hs (by omega)
        simpa [mvD, mvP, up_id, a0] using this
    · refine vnt (by decide) ?_
      refine vnt (by decide) ?_
      refine vnf rfl ?_
      refine And.intro hin ?_
      refine vb (fun a => ?_) (fun a => ?_)
      · have a0 : ¬ 1 < d f := by
          rw [e5] at a
          intro z
          exact nnle (d f) 1 z (by omega) a
        refine vnt (by decide) ?_
        exact stay (by simp [mvD, a0, up_id]) (by simp [mvP, up_id])
      · have a0 : 1 < d f := by
          rw [e5] at a
          rcases Nat.lt_or_ge 1 (d f) with z | z
          · exact z
          · exact absurd (nle (d f) 1 z (by omega)) a
        refine And.intro hin ?_
        refine And.intro hin ?_
        refine ⟨fr.pi (by simp), ?_⟩
        rw [e5, nI_clamp (by omega), pk_sub (a := d f) (b := 1) (by omega)]
        have := sgD (f := f) (v := d f - 1) hs (by omega) (by omega)
        simpa [mvD, mvP, up_id, a0] using this
    · refine vnt (by decide) ?_
      refine vnt (by decide) ?_
      refine vnt (by decide) ?_
      refine vnf rfl ?_
      refine And.intro hin ?_
      refine vb (fun a => ?_) (fun a => ?_)
      · have a0 : ¬ d f < 8 := by
          rw [e5] at a
          intro z
          exact nnle 8 (d f) z (by omega) a
        exact stay (by simp [mvD, a0, up_id]) (by simp [mvP, up_id])
      · have a0 : d f < 8 := by
          rw [e5] at a
          rcases Nat.lt_or_ge (d f) 8 with z | z
          · exact z
          · exact absurd (nle 8 (d f) z (by omega)) a
        refine And.intro hin ?_
        refine And.intro hin ?_
        refine ⟨fr.pi (by simp), ?_⟩
        rw [e5, nI_clamp (by omega), nI_add]
        have := sgD (f := f) (v := d f + 1) hs (by omega) (by omega)
        simpa [mvD, mvP, up_id, a0] using this
  · exact absurd rfl (h2 f hf)
