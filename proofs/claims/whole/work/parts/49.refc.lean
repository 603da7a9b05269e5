/-! The reference: texts typed, lamp, flickers, sights -/
section
variable {σ σ' : qw_M} {A : AS}
theorem KM_t (h : KM σ A) {t : Nat} (ht : t < 3) {n : Nat} {B : Nat → Nat} (hn : n ≤ cap t) (hf : frM [5, 6] [] σ σ') (hm : mtx σ' t n B) (ho : ∀ u, u < 3 → u ≠ t → (σ' 6).1 u = (σ 6).1 u ∧ ∀ i, i < 88 → (σ' 5).1 (88 * u + i) = (σ 5).1 (88 * u + i)) : KM σ' (stx A t n B) := by
  obtain ⟨h1, h2, h3, h4, h5, h6, h7⟩ := h
  refine ⟨fun u hu => ?_, h2.fr hf (by decide) (by decide), h3.fr hf (by decide), h4.fr hf (by decide) (by decide), fun s hs => (h5 s hs).fr hf (by decide) (by decide) (by decide), ⟨by rw [hf.2 4 (by decide)]; exact h6.1, h6.2⟩, h7.fr hf (by decide) (by decide)⟩
  show (if u = t then n else aN A u) ≤ cap u ∧ mtx σ' u (if u = t then n else aN A u) (if u = t then B else aB A u)
  by_cases e : u = t
  · subst e
    rw [if_pos rfl, if_pos rfl]
    exact ⟨hn, hm⟩
  · rw [if_neg e, if_neg e]
    obtain ⟨o1, o2⟩ := ho u hu e
    obtain ⟨g1, g2, g3⟩ := h1 u hu
    have c88 : cap u ≤ 88 := by
      unfold cap
      split
      · decide
      · split <;> decide
    exact ⟨g1, by rw [o1]; exact g2, fun i hi => ⟨(g3 i hi).1, by rw [o2 i (by omega)]; exact (g3 i hi).2⟩⟩
theorem KM_lp (h : KM σ A) {v : Nat} (hv : v < 32) : KM (qw_pi σ 0 13 (nI v)) (slp A v) := by
  obtain ⟨h1, h2, h3, h4, h5, h6, h7⟩ := h
  have hf : frM [] [13] σ (qw_pi σ 0 13 (nI v)) := frM.p0 (by decide)
  exact ⟨fun u hu => ⟨(h1 u hu).1, (h1 u hu).2.fr hf (by decide) (by decide)⟩, h2.fr hf (by decide) (by decide), ⟨hv, pi_eq⟩, h4.fr hf (by decide) (by decide), fun s hs => (h5 s hs).fr hf (by decide) (by decide) (by decide), ⟨by rw [hf.2 4 (by decide)]; exact h6.1, h6.2⟩, h7.fr hf (by decide) (by decide)⟩
theorem KM_fl (h : KM σ A) {n : Nat} {a : Nat → Nat} (hf : frM [12] [14] σ σ') (hk : mfk σ' n a) : KM σ' (sfl A n a) := by
  obtain ⟨h1, h2, h3, h4, h5, h6, h7⟩ := h
  exact ⟨fun u hu => ⟨(h1 u hu).1, (h1 u hu).2.fr hf (by decide) (by decide)⟩, hk, h3.fr hf (by decide), h4.fr hf (by decide) (by decide), fun s hs => (h5 s hs).fr hf (by decide) (by decide) (by decide), ⟨by rw [hf.2 4 (by decide)]; exact h6.1, h6.2⟩, h7.fr hf (by decide) (by decide)⟩
theorem KM_si (h : KM σ A) {n : Nat} {e : Nat → Nat} (hf : frM [17] [22] σ σ') (hk : msi σ' n e) : KM σ' (ssi A n e) := by
  obtain ⟨h1, h2, h3, h4, h5, h6, h7⟩ := h
  exact ⟨fun u hu => ⟨(h1 u hu).1, (h1 u hu).2.fr hf (by decide) (by decide)⟩, h2.fr hf (by decide) (by decide), h3.fr hf (by decide), hk, fun s hs => (h5 s hs).fr hf (by decide) (by decide) (by decide), ⟨by rw [hf.2 4 (by decide)]; exact h6.1, h6.2⟩, h7.fr hf (by decide) (by decide)⟩
theorem KM_fd (h : KM σ A) {d : Nat} (hd : d ≤ 5) : KM (qw_pi σ 0 4 (nI d)) (sfd A d) := by
  obtain ⟨h1, h2, h3, h4, h5, h6, h7⟩ := h
  have hf : frM [] [4] σ (qw_pi σ 0 4 (nI d)) := frM.p0 (by decide)
  exact ⟨fun u hu => ⟨(h1 u hu).1, (h1 u hu).2.fr hf (by decide) (by decide)⟩, h2.fr hf (by decide) (by decide), h3.fr hf (by decide), h4.fr hf (by decide) (by decide), fun s hs => (h5 s hs).fr hf (by decide) (by decide) (by decide), ⟨pi_eq, hd⟩, h7.fr hf (by decide) (by decide)⟩
/-- the other sheets -/
def oth (s : Nat) (σ σ' : qw_M) : Prop := ∀ u, u < 4 → u ≠ s → (σ' 1).1 u = (σ 1).1 u ∧ (σ' 2).1 u = (σ 2).1 u ∧ ∀ i, i < 60 → (σ' 3).1 (60 * u + i) = (σ 3).1 (60 * u + i)
theorem KM_pg (h : KM σ A) {s : Nat} {x : PG} (hf : frM [1, 2, 3, 4] [] σ σ') (hk : mpg σ' s x) (ho : oth s σ σ') : KM σ' (spg A s x) := by
  obtain ⟨h1, h2, h3, h4, h5, h6, h7⟩ := h
  refine ⟨fun u hu => ⟨(h1 u hu).1, (h1 u hu).2.fr hf (by decide) (by decide)⟩, h2.fr hf (by decide) (by decide), h3.fr hf (by decide), h4.fr hf (by decide) (by decide), fun u hu => ?_, ⟨by rw [hf.2 4 (by decide)]; exact h6.1, h6.2⟩, h7.fr hf (by decide) (by decide)⟩
  show mpg σ' u (if u = s then x else aG A u)
  by_cases e : u = s
  · rw [if_pos e, e]
    exact hk
  · rw [if_neg e]
    obtain ⟨o1, o2, o3⟩ := ho u hu e
    obtain ⟨g1, g2, g3, g4⟩ := h5 u hu
    exact ⟨g1, by rw [o1]; exact g2, fun z => by rw [o2]; exact g3 z, fun i hi => by rw [o3 i (by have := psz_le g1; omega)]; exact g4 i hi⟩
theorem d_type (h : KM σ A) (x y : Int32) : qw_Mt qw_tw wM my_X12_type [.ref 0, .int x, .int y] σ (postM (do_type A x y)) := by
  generalize hQ : postM (do_type A x y) = Q
  refine mt_X12_type (Q := Q) rfl (ev_X12_type [55] 100 ?_)
  unfold do_type at hQ
  refine ⟨trivial, _, r_isText x, fun z σ2 _ ⟨k1, k2⟩ => ?_⟩
  have k1 := k1.symm
  subst k1
  cases k2
  cases hx : nn x 3 with
  | none =>
    rw [hx] at hQ
    refine vt rfl ?_
    subst hQ
    exact ⟨h, rfl⟩
  | some t =>
    rw [hx] at hQ
    obtain ⟨ht, rfl⟩ := nn_some (by decide) hx
    refine vf n10 ?_
    refine ⟨trivial, _, r_in0 y (n := 256) (by decide) (by decide) (by decide), fun z σ2 _ ⟨k1, k2⟩ => ?_⟩
    have k1 := k1.symm
    subst k1
    cases k2
    cases hy : nn y 256 with
    | none =>
      rw [hy] at hQ
      refine vnf rfl ?_
      subst hQ
      exact ⟨h, rfl⟩
    | some b =>
      rw [hy] at hQ
      obtain ⟨hb, rfl⟩ := nn_some (by decide) hy
      refine vnt n10 ?_
      obtain ⟨hc, hn, hB⟩ := h.1 t ht
      have ecl : (nI t).toNatClampNeg = t := nI_clamp (by omega)
      have c88 : cap t < 88 := by
        unfold cap
        split
        · decide
        · split <;> decide
      refine And.intro (nin t 3 ht (by decide)) ?_
      have at55 : aN A t ≠ cap t → E_X12_type Q 55 [(0, .ref 0), (1, .int (nI t)), (2, .int (nI b))] [] σ := fun hne => by
        dsimp only at hQ
        rw [if_neg hne] at hQ
        refine ev_X12_type [] 100 ?_
        refine And.intro (nin t 3 ht (by decide)) ?_
        have ei : nI 88 * nI t + (σ 6).1 (nI t).toNatClampNeg = nI (88 * t + aN A t) := by rw [ecl, hn, ixm]
        refine And.intro (pk_in (88 * t + aN A t) 264 (by omega) ei) ?_
        refine And.intro (nin t 3 ht (by decide)) ?_
        refine And.intro (nin t 3 ht (by decide)) ?_
        refine And.intro (nin t 3 ht (by decide)) ?_
        have eic : (nI 88 * nI t + (σ 6).1 (nI t).toNatClampNeg).toNatClampNeg = 88 * t + aN A t := by rw [ei, nI_clamp (by omega)]
        have e6 : (qw_pi σ 5 (88 * t + aN A t) (nI b) 6).1 t = nI (aN A t) := by rw [pi_off (by decide)]; exact hn
        subst hQ
        show KM (qw_pi (qw_pi σ 5 (nI 88 * nI t + (σ 6).1 (nI t).toNatClampNeg).toNatClampNeg (nI b)) 6 (nI t).toNatClampNeg ((qw_pi σ 5 (nI 88 * nI t + (σ 6).1 (nI t).toNatClampNeg).toNatClampNeg (nI b) 6).1 (nI t).toNatClampNeg + nI 1)) _ ∧ some (Value.int ((qw_pi (qw_pi σ 5 (nI 88 * nI t + (σ 6).1 (nI t).toNatClampNeg).toNatClampNeg (nI b)) 6 (nI t).toNatClampNeg ((qw_pi σ 5 (nI 88 * nI t + (σ 6).1 (nI t).toNatClampNeg).toNatClampNeg (nI b) 6).1 (nI t).toNatClampNeg + nI 1) 6).1 (nI t).toNatClampNeg)) = some (Value.int (nI (aN A t + 1)))
        rw [eic, ecl, e6, nI_add, pi_eq]
        refine ⟨KM_t h ht (by omega) ((frM.pi (by decide) (by decide)).tr (frM.pi (by decide) (by decide))) ⟨pi_eq, fun i hi => ?_⟩ (fun u hu hne => ⟨?_, fun i hi => ?_⟩), rfl⟩
        · rw [pi_off (c := 5) (k := 6) (by decide), pi_at]
          dsimp only
          by_cases q : i = aN A t
          · rw [if_pos q, if_pos (by omega)]
            exact ⟨hb, rfl⟩
          · rw [if_neg q, if_neg (by omega)]
            exact hB i (by omega)
        · rw [pi_ne hne, pi_off (c := 6) (k := 5) (by decide)]
        · rw [pi_off (c := 5) (k := 6) (by decide), pi_ne (by omega)]
      have full_ : aN A t = cap t → Q (some (.int full)) σ := fun he => by
        dsimp only at hQ
        rw [if_pos he] at hQ
        subst hQ
        exact ⟨h, rfl⟩
      have ht3 : t = 0 ∨ t = 1 ∨ t = 2 := by omega
      rcases ht3 with rfl | rfl | rfl
      · refine vnf rfl ?_
        by_cases q : aN A 0 = cap 0
        · refine vnf (by rw [ecl, hn, q]; rfl) ?_
          exact full_ q
        · refine vnt (by rw [ecl, hn]; exact nne (aN A 0) 87 q (by omega) (by decide)) ?_
          exact at55 q
      · refine vnt (by decide) ?_
        refine vnf rfl ?_
        by_cases q : aN A 1 = cap 1
        · refine vnf (by rw [ecl, hn, q]; rfl) ?_
          exact full_ q
        · refine vnt (by rw [ecl, hn]; exact nne (aN A 1) 40 q (by omega) (by decide)) ?_
          exact at55 q
      · refine vnt (by decide) ?_
        refine vnt (by decide) ?_
        by_cases q : aN A 2 = cap 2
        · refine vnf (by rw [ecl, hn, q]; rfl) ?_
          exact full_ q
        · refine vnt (by rw [ecl, hn]; exact nne (aN A 2) 32 q (by omega) (by decide)) ?_
          exact at55 q
theorem d_wipe (h : KM σ A) (x : Int32) : qw_Mt qw_tw wM my_X12_wipe [.ref 0, .int x] σ (postM (do_wipe A x)) := by
  refine mt_X12_wipe rfl (ev_X12_wipe [] 100 ?_)
  unfold do_wipe
  refine ⟨trivial, _, r_isText x, fun z σ2 _ ⟨k1, k2⟩ => ?_⟩
  have k1 := k1.symm
  subst k1
  cases k2
  cases hx : nn x 3 with
  | none =>
    refine vnf rfl ?_
    exact ⟨h, rfl⟩
  | some t =>
    obtain ⟨ht, rfl⟩ := nn_some (by decide) hx
    refine vnt n10 ?_
    obtain ⟨hc, hn, hB⟩ := h.1 t ht
    have ecl : (nI t).toNatClampNeg = t := nI_clamp (by omega)
    refine And.intro (nin t 3 ht (by decide)) ?_
    refine And.intro (nin t 3 ht (by decide)) ?_
    show KM (qw_pi σ 6 (nI t).toNatClampNeg (nI 0)) _ ∧ some (Value.int ((σ 6).1 (nI t).toNatClampNeg)) = _
    rw [ecl, hn]
    refine ⟨KM_t h ht (Nat.zero_le _) (frM.pi (by decide) (by decide)) ⟨pi_eq, fun i hi => absurd hi (Nat.not_lt_zero i)⟩ (fun u hu hne => ⟨pi_ne hne, fun i hi => ?_⟩), rfl⟩
    rw [pi_off (by decide)]
theorem d_undo (h : KM σ A) (x : Int32) : qw_Mt qw_tw wM my_X12_undo [.ref 0, .int x] σ (postM (do_undo A x)) := by
  refine mt_X12_undo rfl (ev_X12_undo [] 100 ?_)
  unfold do_undo
  refine ⟨trivial, _, r_isText x, fun z σ2 _ ⟨k1, k2⟩ => ?_⟩
  have k1 := k1.symm
  subst k1
  cases k2
  cases hx : nn x 3 with
  | none =>
    refine vnf rfl ?_
    exact ⟨h, rfl⟩
  | some t =>
    obtain ⟨ht, rfl⟩ := nn_some (by decide) hx
    refine vnt n10 ?_
    obtain ⟨hc, hn, hB⟩ := h.1 t ht
    have c88 : cap t < 88 := by
      unfold cap
      split
      · decide
      · split <;> decide
    have ecl : (nI t).toNatClampNeg = t := nI_clamp (by omega)
    refine And.intro (nin t 3 ht (by decide)) ?_
    dsimp only
    by_cases q : aN A t = 0
    · rw [if_pos q]
      refine vnf (by rw [ecl, hn, q]; rfl) ?_
      exact ⟨h, rfl⟩
    · rw [if_neg q]
      refine vnt (by rw [ecl, hn]; exact nI_ne0 (by omega) (by omega)) ?_
      refine And.intro (nin t 3 ht (by decide)) ?_
      refine And.intro (nin t 3 ht (by decide)) ?_
      refine And.intro (nin t 3 ht (by decide)) ?_
      show KM (qw_pi σ 6 (nI t).toNatClampNeg ((σ 6).1 (nI t).toNatClampNeg - nI 1)) _ ∧ some (Value.int ((qw_pi σ 6 (nI t).toNatClampNeg ((σ 6).1 (nI t).toNatClampNeg - nI 1) 6).1 (nI t).toNatClampNeg)) = _
      rw [ecl, hn, pk_sub (by omega), pi_eq]
      refine ⟨KM_t h ht (by omega) (frM.pi (by decide) (by decide)) ⟨pi_eq, fun i hi => ?_⟩ (fun u hu hne => ⟨pi_ne hne, fun i hi => ?_⟩), rfl⟩
      · rw [pi_off (by decide)]
        exact hB i (by omega)
      · rw [pi_off (by decide)]
theorem d_fault (h : KM σ A) (x : Int32) : qw_Mt qw_tw wM my_X12_fault [.ref 0, .int x] σ (postM (do_fault A x, A)) := by
  refine mt_X12_fault rfl (ev_X12_fault [] 100 ?_)
  unfold do_fault
  refine ⟨trivial, _, r_isText x, fun z σ2 _ ⟨k1, k2⟩ => ?_⟩
  have k1 := k1.symm
  subst k1
  cases k2
  cases hx : nn x 3 with
  | none =>
    refine vt rfl ?_
    exact ⟨h, rfl⟩
  | some t =>
    obtain ⟨ht, rfl⟩ := nn_some (by decide) hx
    refine vf n10 ?_
    refine ⟨trivial, _, r_readsText h ht, fun z σ2 ⟨k1, k2, k3, k4⟩ => ?_⟩
    cases k4
    exact ⟨k2, rfl⟩
theorem d_figure (h : KM σ A) (x y : Int32) : qw_Mt qw_tw wM my_X12_figure [.ref 0, .int x, .int y] σ (postM (do_figure A x y, A)) := by
  refine mt_X12_figure rfl (ev_X12_figure [] 100 ?_)
  unfold do_figure
  refine ⟨trivial, _, rdF h, fun z σ1 ⟨k1, k2, k3⟩ => ?_⟩
  have h1 : KM σ1 A := h.fr k1 (by decide) (by decide)
  refine ⟨trivial, _, r_isFigure (x := x) k3.2.1 k3.1.1, fun z σ2 _ ⟨k1, k2⟩ => ?_⟩
  have k1 := k1.symm
  subst k1
  cases k2
  cases hf : nn x (tF (aT A)) with
  | none =>
    refine vt rfl ?_
    exact ⟨h1, rfl⟩
  | some f =>
    obtain ⟨bf, rfl⟩ := nn_some (by have := k3.1.1; omega) hf
    refine vf n10 ?_
    refine ⟨trivial, _, r_in0 y (n := 10) (by decide) (by decide) (by decide), fun z σ2 _ ⟨k1, k2⟩ => ?_⟩
    have k1 := k1.symm
    subst k1
    cases k2
    cases hw : nn y 10 with
    | none =>
      refine vt rfl ?_
      exact ⟨h1, rfl⟩
    | some w =>
      obtain ⟨bw, rfl⟩ := nn_some (by decide) hw
      refine vf n10 ?_
      refine ⟨trivial, _, r_figureBy k3 bf bw, fun z σ2 ⟨k1, k2⟩ => ?_⟩
      have k1 := k1.symm
      subst k1
      cases k2
      exact ⟨h1, rfl⟩
theorem d_cue (h : KM σ A) (x y : Int32) : qw_Mt qw_tw wM my_X12_cue [.ref 0, .int x, .int y] σ (postM (do_cue A x y, A)) := by
  refine mt_X12_cue rfl (ev_X12_cue [] 100 ?_)
  unfold do_cue
  refine ⟨trivial, _, rdC h, fun z σ1 ⟨k1, k2, k3⟩ => ?_⟩
  have h1 : KM σ1 A := h.fr k1 (by decide) (by decide)
  refine ⟨trivial, _, r_isStep x, fun z σ2 _ ⟨k1, k2⟩ => ?_⟩
  have k1 := k1.symm
  subst k1
  cases k2
  cases hf : nn x 20 with
  | none =>
    refine vt rfl ?_
    exact ⟨h1, rfl⟩
  | some f =>
    obtain ⟨bf, rfl⟩ := nn_some (by decide) hf
    refine vf n10 ?_
    refine ⟨trivial, _, r_isTwo y, fun z σ2 _ ⟨k1, k2⟩ => ?_⟩
    have k1 := k1.symm
    subst k1
    cases k2
    cases hw : nn y 2 with
    | none =>
      refine vt rfl ?_
      exact ⟨h1, rfl⟩
    | some w =>
      obtain ⟨bw, rfl⟩ := nn_some (by decide) hw
      refine vf n10 ?_
      refine ⟨trivial, _, r_cueBy k3 bf bw, fun z σ2 ⟨k1, k2⟩ => ?_⟩
      have k1 := k1.symm
      subst k1
      cases k2
      exact ⟨h1, rfl⟩
theorem d_picture (h : KM σ A) (x : Int32) : qw_Mt qw_tw wM my_X12_picture [.ref 0, .int x] σ (postM (do_picture A x, A)) := by
  refine mt_X12_picture rfl (ev_X12_picture [] 100 ?_)
  unfold do_picture
  refine ⟨trivial, _, rdP h, fun z σ1 ⟨k1, k2, k3⟩ => ?_⟩
  have h1 : KM σ1 A := h.fr k1 (by decide) (by decide)
  refine ⟨trivial, _, r_isCell x, fun z σ2 _ ⟨k1, k2⟩ => ?_⟩
  have k1 := k1.symm
  subst k1
  cases k2
  cases hf : nn x 32 with
  | none =>
    refine vt rfl ?_
    exact ⟨h1, rfl⟩
  | some c =>
    obtain ⟨bc, rfl⟩ := nn_some (by decide) hf
    refine vf n10 ?_
    refine And.intro (nin c 32 bc (by decide)) ?_
    refine ⟨h1, congrArg (fun z => some (Value.int z)) ?_⟩
    show (σ1 11).1 (nI c).toNatClampNeg = obi (aP A c)
    rw [nI_clamp (by omega)]
    exact (k3 c bc).1
theorem d_lamp (h : KM σ A) (x : Int32) : qw_Mt qw_tw wM my_X12_lamp [.ref 0, .int x] σ (postM (do_lamp A x)) := by
  refine mt_X12_lamp rfl (ev_X12_lamp [] 100 ?_)
  unfold do_lamp
  refine ⟨trivial, _, r_isCell x, fun z σ2 _ ⟨k1, k2⟩ => ?_⟩
  have k1 := k1.symm
  subst k1
  cases k2
  cases hf : nn x 32 with
  | none =>
    refine vnf rfl ?_
    exact ⟨h, rfl⟩
  | some v =>
    obtain ⟨bv, rfl⟩ := nn_some (by decide) hf
    refine vnt n10 ?_
    exact ⟨KM_lp h bv, congrArg (fun z => some (Value.int z)) h.2.2.1.2⟩
theorem d_flicker (h : KM σ A) (x : Int32) : qw_Mt qw_tw wM my_X12_flicker [.ref 0, .int x] σ (postM (do_flicker A x)) := by
  refine mt_X12_flicker rfl (ev_X12_flicker [] 100 ?_)
  unfold do_flicker
  refine ⟨trivial, _, r_isStep x, fun z σ2 _ ⟨k1, k2⟩ => ?_⟩
  have k1 := k1.symm
  subst k1
  cases k2
  cases hf : nn x 20 with
  | none =>
    refine vnf rfl ?_
    exact ⟨h, rfl⟩
  | some s =>
    obtain ⟨bs, rfl⟩ := nn_some (by decide) hf
    refine vnt n10 ?_
    obtain ⟨g1, g2, g3⟩ := h.2.1
    dsimp only
    by_cases q : aKn A = 8
    · rw [if_pos q]
      refine vnf (by rw [g2, q]) ?_
      exact ⟨h, rfl⟩
    · rw [if_neg q]
      refine vnt (by rw [g2]; exact nne (aKn A) 8 q (by omega) (by decide)) ?_
      refine And.intro (by rw [g2]; exact nin (aKn A) 8 (by omega) (by decide)) ?_
      have e1 : ((σ 0).1 14).toNatClampNeg = aKn A := by rw [g2, nI_clamp (by omega)]
      have e2 : (qw_pi σ 12 (aKn A) (nI s) 0).1 14 = nI (aKn A) := by rw [pi_off (by decide)]; exact g2
      show KM (qw_pi (qw_pi σ 12 ((σ 0).1 14).toNatClampNeg (nI s)) 0 14 ((qw_pi σ 12 ((σ 0).1 14).toNatClampNeg (nI s) 0).1 14 + nI 1)) _ ∧ some (Value.int ((qw_pi (qw_pi σ 12 ((σ 0).1 14).toNatClampNeg (nI s)) 0 14 ((qw_pi σ 12 ((σ 0).1 14).toNatClampNeg (nI s) 0).1 14 + nI 1) 0).1 14)) = _
      rw [e1, e2, nI_add, pi_eq]
      refine ⟨KM_fl h ((frM.pi (by decide) (by decide)).tr (frM.p0 (by decide))) ⟨by omega, pi_eq, fun i hi => ?_⟩, rfl⟩
      rw [pi_off (c := 12) (k := 0) (by decide), pi_at]
      dsimp only
      by_cases q2 : i = aKn A
      · rw [if_pos q2, if_pos q2]
        exact ⟨bs, rfl⟩
      · rw [if_neg q2, if_neg q2]
        exact g3 i (by omega)
theorem d_back (h : KM σ A) : qw_Mt qw_tw wM my_X12_back [.ref 0] σ (postM (do_back A)) := by
  refine mt_X12_back rfl (ev_X12_back [] 100 ?_)
  unfold do_back
  obtain ⟨g1, g2, g3⟩ := h.2.1
  by_cases q : aKn A = 0
  · rw [if_pos q]
    refine vnf (by rw [g2, q]; rfl) ?_
    exact ⟨h, rfl⟩
  · rw [if_neg q]
    refine vnt (by rw [g2]; exact nI_ne0 (by omega) (by omega)) ?_
    show KM (qw_pi σ 0 14 ((σ 0).1 14 - nI 1)) _ ∧ some (Value.int ((qw_pi σ 0 14 ((σ 0).1 14 - nI 1) 0).1 14)) = _
    rw [g2, pk_sub (by omega), pi_eq]
    refine ⟨KM_fl h (frM.p0 (by decide)) ⟨by omega, pi_eq, fun i hi => ?_⟩, rfl⟩
    rw [pi_off (by decide)]
    exact g3 i (by omega)
theorem d_seen (h : KM σ A) (x y w : Int32) : qw_Mt qw_tw wM my_X12_seen [.ref 0, .int x, .int y, .int w] σ (postM (do_seen A x y w)) := by
  refine mt_X12_seen rfl (ev_X12_seen [] 100 ?_)
  unfold do_seen
  refine ⟨trivial, _, r_isStep x, fun z σ2 _ ⟨k1, k2⟩ => ?_⟩
  have k1 := k1.symm
  subst k1
  cases k2
  cases hs : nn x 20 with
  | none =>
    refine vt rfl ?_
    exact ⟨h, rfl⟩
  | some s =>
    obtain ⟨bs, rfl⟩ := nn_some (by decide) hs
    refine vf n10 ?_
    refine ⟨trivial, _, r_isCell y, fun z σ2 _ ⟨k1, k2⟩ => ?_⟩
    have k1 := k1.symm
    subst k1
    cases k2
    cases hc : nn y 32 with
    | none =>
      refine vt rfl ?_
      exact ⟨h, rfl⟩
    | some c =>
      obtain ⟨bc, rfl⟩ := nn_some (by decide) hc
      refine vf n10 ?_
      refine ⟨trivial, _, r_in0 w (n := 8) (by decide) (by decide) (by decide), fun z σ2 _ ⟨k1, k2⟩ => ?_⟩
      have k1 := k1.symm
      subst k1
      cases k2
      cases hv : nn w 8 with
      | none =>
        refine vnf rfl ?_
        exact ⟨h, rfl⟩
      | some v =>
        obtain ⟨bv, rfl⟩ := nn_some (by decide) hv
        refine vnt n10 ?_
        obtain ⟨g1, g2, g3⟩ := h.2.2.2.1
        dsimp only
        by_cases q : aSn A = 8
        · rw [if_pos q]
          refine vnf (by rw [g2, q]) ?_
          exact ⟨h, rfl⟩
        · rw [if_neg q]
          refine vnt (by rw [g2]; exact nne (aSn A) 8 q (by omega) (by decide)) ?_
          have m0 : nI 3 * (σ 0).1 22 = nI (3 * aSn A) := by rw [g2, pk_mul]
          have m1_ : nI 3 * (σ 0).1 22 + nI 1 = nI (3 * aSn A + 1) := by rw [g2, ixm]
          have m2 : nI 3 * (σ 0).1 22 + nI 2 = nI (3 * aSn A + 2) := by rw [g2, ixm]
          refine And.intro (pk_in (3 * aSn A) 24 (by omega) m0) ?_
          refine And.intro (pk_in (3 * aSn A + 1) 24 (by omega) m1_) ?_
          refine And.intro (pk_in (3 * aSn A + 2) 24 (by omega) m2) ?_
          have c0 : (nI 3 * (σ 0).1 22).toNatClampNeg = 3 * aSn A := by rw [m0, nI_clamp (by omega)]
          have c1 : (nI 3 * (σ 0).1 22 + nI 1).toNatClampNeg = 3 * aSn A + 1 := by rw [m1_, nI_clamp (by omega)]
          have c2 : (nI 3 * (σ 0).1 22 + nI 2).toNatClampNeg = 3 * aSn A + 2 := by rw [m2, nI_clamp (by omega)]
          obtain ⟨σ2, hσ2⟩ : ∃ σ2, σ2 = qw_pi (qw_pi (qw_pi σ 17 (nI 3 * (σ 0).1 22).toNatClampNeg (nI s)) 17 (nI 3 * (σ 0).1 22 + nI 1).toNatClampNeg (nI c)) 17 (nI 3 * (σ 0).1 22 + nI 2).toNatClampNeg (nI v) := ⟨_, rfl⟩
          show KM (qw_pi (qw_pi (qw_pi (qw_pi σ 17 (nI 3 * (σ 0).1 22).toNatClampNeg (nI s)) 17 (nI 3 * (σ 0).1 22 + nI 1).toNatClampNeg (nI c)) 17 (nI 3 * (σ 0).1 22 + nI 2).toNatClampNeg (nI v)) 0 22 ((qw_pi (qw_pi (qw_pi σ 17 (nI 3 * (σ 0).1 22).toNatClampNeg (nI s)) 17 (nI 3 * (σ 0).1 22 + nI 1).toNatClampNeg (nI c)) 17 (nI 3 * (σ 0).1 22 + nI 2).toNatClampNeg (nI v) 0).1 22 + nI 1)) _ ∧ some (Value.int ((qw_pi (qw_pi (qw_pi (qw_pi σ 17 (nI 3 * (σ 0).1 22).toNatClampNeg (nI s)) 17 (nI 3 * (σ 0).1 22 + nI 1).toNatClampNeg (nI c)) 17 (nI 3 * (σ 0).1 22 + nI 2).toNatClampNeg (nI v)) 0 22 ((qw_pi (qw_pi (qw_pi σ 17 (nI 3 * (σ 0).1 22).toNatClampNeg (nI s)) 17 (nI 3 * (σ 0).1 22 + nI 1).toNatClampNeg (nI c)) 17 (nI 3 * (σ 0).1 22 + nI 2).toNatClampNeg (nI v) 0).1 22 + nI 1) 0).1 22)) = _
          rw [← hσ2]
          rw [c0, c1, c2] at hσ2
          have f2 : frM [17] [22] σ σ2 := by
            rw [hσ2]
            exact ((frM.pi (by decide) (by decide)).tr (frM.pi (by decide) (by decide))).tr (frM.pi (by decide) (by decide))
          have e22 : (σ2 0).1 22 = nI (aSn A) := by
            rw [hσ2, pi_off (by decide), pi_off (by decide), pi_off (by decide)]
            exact g2
          rw [e22, nI_add, pi_eq]
          refine ⟨KM_si h (f2.tr (frM.p0 (by decide))) ⟨by omega, pi_eq, fun i hi => ?_⟩, rfl⟩
          rw [pi_off (c := 17) (k := 0) (by decide), hσ2]
          dsimp only
          by_cases q2 : i = aSn A
          · rw [if_pos q2, q2]
            refine ⟨by omega, ?_, ?_, ?_⟩
            · rw [pi_ne (by omega), pi_ne (by omega), pi_eq]
              exact congrArg nI (by omega)
            · rw [pi_ne (by omega), pi_eq]
              exact congrArg nI (by omega)
            · rw [pi_eq]
              exact congrArg nI (by omega)
          · rw [if_neg q2, pi_ne (q := 3 * i) (by omega), pi_ne (q := 3 * i) (by omega), pi_ne (q := 3 * i) (by omega), pi_ne (q := 3 * i + 1) (by omega), pi_ne (q := 3 * i + 1) (by omega), pi_ne (q := 3 * i + 1) (by omega), pi_ne (q := 3 * i + 2) (by omega), pi_ne (q := 3 * i + 2) (by omega), pi_ne (q := 3 * i + 2) (by omega)]
            exact g3 i (by omega)
theorem d_forget (h : KM σ A) : qw_Mt qw_tw wM my_X12_forget [.ref 0] σ (postM (do_forget A)) := by
  refine mt_X12_forget rfl (ev_X12_forget [] 100 ?_)
  obtain ⟨g1, g2, g3⟩ := h.2.2.2.1
  exact ⟨KM_si h (frM.p0 (by decide)) ⟨Nat.zero_le _, pi_eq, fun i hi => absurd hi (Nat.not_lt_zero i)⟩, congrArg (fun z => some (Value.int z)) g2⟩
end
