/-! The reference: all that it keeps; all found; what is shown, touched, darkest -/
def mpg (σ : qw_M) (s : Nat) (x : PG) : Prop := pokk x ∧ (σ 1).1 s = pfm x ∧ (x ≠ none → (σ 2).1 s = nI (psz x)) ∧ ∀ i, i < psz x → (σ 3).1 (60 * s + i) = pit x i
def msi (σ : qw_M) (m : Nat) (e : Nat → Nat) : Prop := m ≤ 8 ∧ (σ 0).1 22 = nI m ∧ ∀ i, i < m → e i < 5120 ∧ (σ 17).1 (3 * i) = nI (e i / 256) ∧ (σ 17).1 (3 * i + 1) = nI (e i / 8 % 32) ∧ (σ 17).1 (3 * i + 2) = nI (e i % 8)
def mnz (σ : qw_M) : Prop := (σ 0).1 20 = nI 0 ∧ (σ 0).1 21 = nI 0
def KM (σ : qw_M) (A : AS) : Prop := (∀ t, t < 3 → aN A t ≤ cap t ∧ mtx σ t (aN A t) (aB A t)) ∧ mfk σ (aKn A) (aKa A) ∧ mL σ (aL A) ∧ msi σ (aSn A) (aSe A) ∧ (∀ s, s < 4 → mpg σ s (aG A s)) ∧ ((σ 0).1 4 = nI (aFd A) ∧ aFd A ≤ 5) ∧ mnz σ
theorem mnz.fr {σ σ' : qw_M} {l fl : List Nat} (h : mnz σ) (hf : frM l fl σ σ') (h1 : 20 ∉ fl) (h2 : 21 ∉ fl) : mnz σ' := ⟨by rw [hf.2 20 h1]; exact h.1, by rw [hf.2 21 h2]; exact h.2⟩
theorem msi.fr {σ σ' : qw_M} {m : Nat} {e : Nat → Nat} {l fl : List Nat} (h : msi σ m e) (hf : frM l fl σ σ') (h1 : 22 ∉ fl) (h2 : 17 ∉ l) : msi σ' m e := by
  unfold msi
  rw [hf.2 22 h1, hf.1 17 h2 (by decide)]
  exact h
theorem mpg.fr {σ σ' : qw_M} {s : Nat} {x : PG} {l fl : List Nat} (h : mpg σ s x) (hf : frM l fl σ σ') (h1 : 1 ∉ l) (h2 : 2 ∉ l) (h3 : 3 ∉ l) : mpg σ' s x := by
  unfold mpg
  rw [hf.1 1 h1 (by decide), hf.1 2 h2 (by decide), hf.1 3 h3 (by decide)]
  exact h
theorem KM.fr {σ σ' : qw_M} {A : AS} {l fl : List Nat} (h : KM σ A) (hf : frM l fl σ σ') (hl : ∀ k ∈ [1, 2, 3, 5, 6, 12, 17], k ∉ l) (hfl : ∀ k ∈ [4, 13, 14, 20, 21, 22], k ∉ fl) : KM σ' A := by
  obtain ⟨h1, h2, h3, h4, h5, h6, h7⟩ := h
  exact ⟨fun t ht => ⟨(h1 t ht).1, (h1 t ht).2.fr hf (hl 5 (by decide)) (hl 6 (by decide))⟩, h2.fr hf (hfl 14 (by decide)) (hl 12 (by decide)), h3.fr hf (hfl 13 (by decide)), h4.fr hf (hfl 22 (by decide)) (hl 17 (by decide)), fun s hs => (h5 s hs).fr hf (hl 1 (by decide)) (hl 2 (by decide)) (hl 3 (by decide)), ⟨by rw [hf.2 4 (hfl 4 (by decide))]; exact h6.1, h6.2⟩, h7.fr hf (hfl 20 (by decide)) (hfl 21 (by decide))⟩
/-- cells, and numbers of the object, that finding may change -/
def scM : List Nat := [7, 8, 9, 10, 11, 13, 14, 15, 16, 18]
def sfM : List Nat := [7, 25]
theorem KM.sc {σ σ' : qw_M} {A : AS} (h : KM σ A) (hf : frM scM sfM σ σ') : KM σ' A := h.fr hf (by unfold scM; decide) (by unfold sfM; decide)
/-- what is told, found -/
def th (σ : qw_M) (T : TT) (C : CC) (P : Nat → Option Nat) (n : Nat) (a : Nat → Nat) (L : Nat) : Prop := rf σ T ∧ rc σ C ∧ rp σ P ∧ mfk σ n a ∧ mL σ L ∧ mnz σ
def thA (σ : qw_M) (A : AS) : Prop := th σ (aT A) (aC A) (aP A) (aKn A) (aKa A) (aL A)
theorem th.fr {σ σ' : qw_M} {T : TT} {C : CC} {P : Nat → Option Nat} {n : Nat} {a : Nat → Nat} {L : Nat} {l fl : List Nat} (h : th σ T C P n a L) (hf : frM l fl σ σ') (hl : ∀ k ∈ [7, 8, 9, 10, 11, 12], k ∉ l) (hfl : ∀ k ∈ [7, 13, 14, 20, 21], k ∉ fl) : th σ' T C P n a L := by
  obtain ⟨h1, h2, h3, h4, h5, h6⟩ := h
  exact ⟨h1.fr hf (hl 7 (by decide)) (hl 8 (by decide)) (hfl 7 (by decide)), h2.fr hf (hl 9 (by decide)) (hl 10 (by decide)), h3.fr hf (hl 11 (by decide)), h4.fr hf (hfl 14 (by decide)) (hl 12 (by decide)), h5.fr hf (hfl 13 (by decide)), h6.fr hf (hfl 20 (by decide)) (hfl 21 (by decide))⟩
theorem th.lv {σ σ' : qw_M} {T : TT} {C : CC} {P : Nat → Option Nat} {n : Nat} {a : Nat → Nat} {L : Nat} (h : th σ T C P n a L) (hf : frM [13, 14, 15, 16] [] σ σ') : th σ' T C P n a L := h.fr hf (by decide) (by decide)
/-- figures done, nothing undone -/
abbrev nsk : Nat → Bool := fun _ => false
theorem r_livesT {σ : qw_M} {T : TT} {C : CC} {P : Nat → Option Nat} {n : Nat} {a : Nat → Nat} {L : Nat} (h : th σ T C P n a L) : qw_Mt qw_tw wM my_X12_lives [.ref 0] σ (fun _ σ' => frM [13, 14, 15, 16] [] σ σ' ∧ th σ' T C P n a L ∧ lvd σ' T C nsk ∧ dp σ' (tF T) (gos (tF T) C nsk (tdp T) 20)) := by
  refine mt_mono (r_lives h.1 h.2.1) (fun r σ' ⟨k1, k2, k3⟩ => ?_)
  rw [h.2.2.2.2.2.1, nosk] at k2 k3
  exact ⟨k1, h.lv k1, k2, k3⟩
theorem rdF {σ : qw_M} {A : AS} (h : KM σ A) : qw_Mt qw_tw wM my_X12_readsFigures [.ref 0] σ (fun r σ' => frM [7, 8] [7] σ σ' ∧ r = some (.int (obi (aF A 0))) ∧ rf σ' (aT A)) := by
  obtain ⟨h1, h2⟩ := h.1 0 (by decide)
  exact r_readsFigures h1 h2.1 (fun i hi => by have := h2.2 i hi; rwa [show 88 * 0 + i = i by omega] at this)
theorem rdC {σ : qw_M} {A : AS} (h : KM σ A) : qw_Mt qw_tw wM my_X12_readsCues [.ref 0] σ (fun r σ' => frM [9, 10] [] σ σ' ∧ r = some (.int (obi (aF A 1))) ∧ rc σ' (aC A)) := by
  obtain ⟨h1, h2⟩ := h.1 1 (by decide)
  exact r_readsCues h1 h2
theorem rdP {σ : qw_M} {A : AS} (h : KM σ A) : qw_Mt qw_tw wM my_X12_readsPicture [.ref 0] σ (fun r σ' => frM [11] [] σ σ' ∧ r = some (.int (obi (aF A 2))) ∧ rp σ' (aP A)) := by
  obtain ⟨h1, h2⟩ := h.1 2 (by decide)
  exact r_readsPicture h1 h2
theorem r_find {σ : qw_M} {A : AS} (h : KM σ A) : qw_Mt qw_tw wM my_X12_find [.ref 0] σ (fun _ σ' => frM scM sfM σ σ' ∧ KM σ' A ∧ thA σ' A ∧ lvd σ' (aT A) (aC A) nsk) := by
  refine mt_X12_find rfl (ev_X12_find [] 100 ?_)
  refine ⟨trivial, _, rdF h, fun z σ1 ⟨k1, k2, k3⟩ => ?_⟩
  have g1 : frM scM sfM σ σ1 := k1.mo (by unfold scM; decide) (by unfold sfM; decide)
  have h1 := h.sc g1
  refine ⟨trivial, _, rdC h1, fun z σ2 ⟨l1, l2, l3⟩ => ?_⟩
  have g2 : frM scM sfM σ1 σ2 := l1.mo (by unfold scM; decide) (by unfold sfM; decide)
  have h2 := h1.sc g2
  refine ⟨trivial, _, rdP h2, fun z σ3 ⟨m1, m2, m3⟩ => ?_⟩
  have g3 : frM scM sfM σ2 σ3 := m1.mo (by unfold scM; decide) (by unfold sfM; decide)
  have h3 := h2.sc g3
  have t3 : thA σ3 A := ⟨(k3.fr l1 (by decide) (by decide) (by decide)).fr m1 (by decide) (by decide) (by decide), l3.fr m1 (by decide) (by decide), m3, h3.2.1, h3.2.2.1, h3.2.2.2.2.2.2⟩
  refine ⟨trivial, _, r_livesT t3, fun σ4 ⟨n1, n2, n3, n4⟩ => ?_⟩
  have g4 : frM scM sfM σ3 σ4 := n1.mo (by unfold scM; decide) (by unfold sfM; decide)
  exact ⟨((g1.tr g2).tr g3).tr g4, h3.sc g4, n2, n3⟩
/-- counting down -/
def dn (j : Nat) : Int32 := match j with
  | 0 => m1
  | i + 1 => nI i
theorem dn_step (j : Nat) : dn (j + 1) + Int32.ofInt (Int.negSucc 0) = dn j := by
  cases j with
  | zero => decide
  | succ i => exact pk_m1 i
theorem dn_0 : dn 0 < 0 := by decide
/-- the first from j on -/
def fsx (f : Nat → Bool) (j N : Nat) (x : Int32) : Prop := (∃ i, j ≤ i ∧ i < N ∧ f i = true ∧ (∀ q, j ≤ q → q < i → f q = false) ∧ x = nI i) ∨ ((∀ i, j ≤ i → i < N → f i = false) ∧ x = m1)
theorem fsx_0 {f : Nat → Bool} {N : Nat} {x : Int32} (h : fsx f 0 N x) : fst f N x := by
  rcases h with ⟨i, h1, h2, h3, h4, h5⟩ | ⟨h1, h2⟩
  · exact Or.inl ⟨i, h2, h3, fun q hq => h4 q (Nat.zero_le _) hq, h5⟩
  · exact Or.inr ⟨fun i hi => h1 i (Nat.zero_le _) hi, h2⟩
theorem fsx_t {f : Nat → Bool} {j N : Nat} (hj : j < N) (h : f j = true) : fsx f j N (nI j) := Or.inl ⟨j, Nat.le_refl _, hj, h, fun q h1 h2 => by omega, rfl⟩
theorem fsx_f {f : Nat → Bool} {j N : Nat} {x : Int32} (hf : f j = false) (h : fsx f (j + 1) N x) : fsx f j N x := by
  rcases h with ⟨i, h1, h2, h3, h4, h5⟩ | ⟨h1, h2⟩
  · refine Or.inl ⟨i, by omega, h2, h3, fun q hq hq2 => ?_, h5⟩
    by_cases e : q = j
    · rw [e]; exact hf
    · exact h4 q (by omega) hq2
  · refine Or.inr ⟨fun i hi hi2 => ?_, h2⟩
    by_cases e : i = j
    · rw [e]; exact hf
    · exact h1 i (by omega) hi2
theorem r_atOf {σ : qw_M} {T : TT} {L : Nat} {x : DP} {s : Nat} (hT : rf σ T) (hL : mL σ L) (hd : lvs σ (tF T) s x) (hz : mnz σ) (hs : s < 20) {k w : Nat} (hk : k < tF T) (hw : w < 4) : qw_Mt qw_tw wM my_X12_atOf [.ref 0, .int (nI s), .int (nI k), .int (nI w)] σ (fun r σ' => σ' = σ ∧ r = some (.int (wat T L x k w))) := by
  have hF := hT.1.1
  obtain ⟨d1, d2, d3⟩ := hd k hk
  have hov : ∀ {c : Nat}, c < 32 → qw_Mt qw_tw wM my_X12_isOver [.ref 0, .int (nI s), .int (nI k), .int (nI c)] σ (fun r σ' => σ' = σ ∧ r = some (.int (nI (cv T L x.1 x.2 k c).toNat))) := fun hc => by
    refine mt_mono (r_isOver hT hL hd hz.2 hs hk hc) (fun r σ' ⟨k1, k2⟩ => ⟨k1, ?_⟩)
    rw [k2, b_n0]
    rfl
  generalize hg : cv T L x.1 x.2 k = g at hov
  generalize hQ : (fun (r : Option Value) (σ' : qw_M) => σ' = σ ∧ r = some (.int (wat T L x k w))) = Q
  refine mt_X12_atOf (Q := Q) rfl ?_
  have loop : ∀ (j N : Nat) (y z f : Int32) (ls : qw_L), j ≤ 32 → y = dn j → z = nI N → N + cnt g j = cnt g 32 → fsx g j 32 f → (∀ q ∈ [(0, Value.ref 0), (1, .int (nI s)), (2, .int (nI k)), (3, .int (nI w)), (4, .int z), (5, .int f), (6, .int y)], q ∈ ls) → E_X12_atOf Q 10 ls [] σ := by
    intro j
    induction j with
    | zero =>
      intro N y z f ls hj hy hz hN hf hls
      subst hy hz
      refine qw_Ev.sub (ev_X12_atOf [] 100 ?_) hls
      refine vt dn_0 ?_
      have e2 : cnt (cv T L x.1 x.2 k) 32 = N := by
        rw [hg, ← hN]
        rfl
      have e3 : the (fst (cv T L x.1 x.2 k) 32) = f := by
        rw [hg]
        exact (the_fst (fsx_0 hf)).symm
      have e8 : (nI 8 * nI s + nI k).toNatClampNeg = 8 * s + k := ixc (by omega)
      by_cases w0 : w = 0
      · refine vnf (by rw [w0]; rfl) ?_
        refine And.intro (pk_in (8 * s + k) 160 (by omega) (ixm 8 s k)) ?_
        subst hQ
        refine ⟨rfl, ?_⟩
        unfold wat
        rw [if_pos w0, e8, d2]
      · refine vnt (nI_ne0 (n := w) (by omega) (by omega)) ?_
        by_cases w1 : w = 1
        · refine vnf (by rw [w1]) ?_
          refine And.intro (pk_in (8 * s + k) 160 (by omega) (ixm 8 s k)) ?_
          subst hQ
          refine ⟨rfl, ?_⟩
          unfold wat
          rw [if_neg w0, if_pos w1, e8, d3]
        · refine vnt (nne w 1 w1 (by omega) (by decide)) ?_
          by_cases w2 : w = 2
          · refine vnf (by rw [w2]) ?_
            subst hQ
            refine ⟨rfl, ?_⟩
            unfold wat
            rw [if_neg w0, if_neg w1, if_pos w2, e2]
          · refine vnt (nne w 2 w2 (by omega) (by decide)) ?_
            subst hQ
            refine ⟨rfl, ?_⟩
            unfold wat
            rw [if_neg w0, if_neg w1, if_neg w2, e3]
    | succ j ih =>
      intro N y z f ls hj hy hz hN hf hls
      subst hy hz
      have ec : cnt g (j + 1) = cnt g j + (g j).toNat := rfl
      refine qw_Ev.sub (ev_X12_atOf [10] 100 ?_) hls
      refine vf (nI_pos (n := j) (by omega)) ?_
      refine ⟨trivial, _, hov (c := j) (by omega), fun y σ1 h01 ⟨k1, k2⟩ => ?_⟩
      cases k2
      have k1 := k1.symm
      subst k1
      cases hb : g j with
      | true =>
        refine vf n10 ?_
        refine vf n10 ?_
        rw [hb] at ec
        have ec : cnt g (j + 1) = cnt g j + 1 := ec
        exact ih (N + 1) _ _ _ _ (by omega) (dn_step j) (nI_add N 1) (by omega) (fsx_t (by omega) hb) (sub_pre rfl)
      | false =>
        refine vt rfl ?_
        refine vt rfl ?_
        rw [hb] at ec
        have ec : cnt g (j + 1) = cnt g j + 0 := ec
        exact ih N _ _ _ _ (by omega) (dn_step j) (nI_add N 0) (by omega) (fsx_f hb hf) (sub_pre rfl)
  refine ev_X12_atOf [10] 100 ?_
  exact loop 32 0 _ _ _ _ (by decide) rfl rfl (Nat.zero_add _) (Or.inr ⟨fun i h1 h2 => by omega, rfl⟩) (sub_pre rfl)
theorem r_shownBy {σ : qw_M} {T : TT} {C C2 : CC} {P : Nat → Option Nat} {n : Nat} {a : Nat → Nat} {L : Nat} (h : rf σ T ∧ rp σ P ∧ mfk σ n a ∧ mL σ L ∧ mnz σ) (hd : lvd σ T C2 nsk) {w : Nat} (hw : w < 2) : qw_Mt qw_tw wM my_X12_shownBy [.ref 0, .int (nI w)] σ (fun r σ' => σ' = σ ∧ ∃ x, r = some (.int x) ∧ (w = 0 → fst (fun i => psh P (lgS T C2 n a L i)) 20 x) ∧ (w = 1 → x = nI (cnt (fun i => psh P (lgS T C2 n a L i)) 20))) := by
  have hsh : ∀ {i : Nat}, i < 20 → qw_Mt qw_tw wM my_X12_isShown [.ref 0, .int (nI i)] σ (fun r σ' => σ' = σ ∧ r = some (.int (nI (psh P (lgS T C2 n a L i)).toNat))) := fun {i} hi => by
    have := r_isShown h.1 h.2.1 h.2.2.1 h.2.2.2.1 (hd i hi) h.2.2.2.2.2 hi
    rw [nosk] at this
    exact this
  generalize hg : (fun i => psh P (lgS T C2 n a L i)) = g
  have hsh : ∀ {i : Nat}, i < 20 → qw_Mt qw_tw wM my_X12_isShown [.ref 0, .int (nI i)] σ (fun r σ' => σ' = σ ∧ r = some (.int (nI (g i).toNat))) := fun hi => by
    rw [← hg]
    exact hsh hi
  generalize hQ : (fun (r : Option Value) (σ' : qw_M) => σ' = σ ∧ ∃ x, r = some (.int x) ∧ (w = 0 → fst g 20 x) ∧ (w = 1 → x = nI (cnt g 20))) = Q
  refine mt_X12_shownBy (Q := Q) rfl ?_
  have loop : ∀ (j N : Nat) (y z f : Int32) (ls : qw_L), j ≤ 20 → y = dn j → z = nI N → N + cnt g j = cnt g 20 → fsx g j 20 f → (∀ q ∈ [(0, Value.ref 0), (1, .int (nI w)), (2, .int f), (3, .int z), (4, .int y)], q ∈ ls) → E_X12_shownBy Q 8 ls [] σ := by
    intro j
    induction j with
    | zero =>
      intro N y z f ls hj hy hz hN hf hls
      subst hy hz
      refine qw_Ev.sub (ev_X12_shownBy [] 100 ?_) hls
      refine vt dn_0 ?_
      by_cases w0 : w = 0
      · refine vnf (by rw [w0]; rfl) ?_
        subst hQ
        exact ⟨rfl, _, rfl, fun _ => fsx_0 hf, fun z => by omega⟩
      · refine vnt (nI_ne0 (n := w) (by omega) (by omega)) ?_
        subst hQ
        refine ⟨rfl, _, rfl, fun z => absurd z w0, fun _ => ?_⟩
        rw [← hN]
        rfl
    | succ j ih =>
      intro N y z f ls hj hy hz hN hf hls
      subst hy hz
      have ec : cnt g (j + 1) = cnt g j + (g j).toNat := rfl
      refine qw_Ev.sub (ev_X12_shownBy [8] 100 ?_) hls
      refine vf (nI_pos (n := j) (by omega)) ?_
      refine ⟨trivial, _, hsh (i := j) (by omega), fun y σ1 h01 ⟨k1, k2⟩ => ?_⟩
      cases k2
      have k1 := k1.symm
      subst k1
      cases hb : g j with
      | true =>
        refine vf n10 ?_
        refine vf n10 ?_
        rw [hb] at ec
        have ec : cnt g (j + 1) = cnt g j + 1 := ec
        exact ih (N + 1) _ _ _ _ (by omega) (dn_step j) (nI_add N 1) (by omega) (fsx_t (by omega) hb) (sub_pre rfl)
      | false =>
        refine vt rfl ?_
        refine vt rfl ?_
        rw [hb] at ec
        have ec : cnt g (j + 1) = cnt g j + 0 := ec
        exact ih N _ _ _ _ (by omega) (dn_step j) (nI_add N 0) (by omega) (fsx_f hb hf) (sub_pre rfl)
  refine ev_X12_shownBy [8] 100 ?_
  exact loop 20 0 _ _ _ _ (by decide) rfl rfl (Nat.zero_add _) (Or.inr ⟨fun i h1 h2 => by omega, rfl⟩) (sub_pre rfl)
theorem r_isTouching {σ : qw_M} {T : TT} {x : DP} {s : Nat} (hT : rf σ T) (hd : lvs σ (tF T) s x) (hs : s < 20) {a b : Nat} (ha : a < tF T) (hb : b < tF T) : qw_Mt qw_tw wM my_X12_isTouching [.ref 0, .int (nI s), .int (nI a), .int (nI b)] σ (fun r σ' => σ' = σ ∧ r = some (.int (nI (tch T x.1 x.2 a b).toNat))) := by
  have hF := hT.1.1
  obtain ⟨⟨a1, a2, a3⟩, a4, a5⟩ := hd a ha
  obtain ⟨⟨b1, b2, b3⟩, b4, b5⟩ := hd b hb
  have ma := (hT.2.2 a ha).2.2.2.1
  have mb := (hT.2.2 b hb).2.2.2.1
  have oa := (hT.1.2 a ha).2.2.2.2.2.1
  have ob := (hT.1.2 b hb).2.2.2.2.2.1
  have ea : (nI 8 * nI s + nI a).toNatClampNeg = 8 * s + a := ixc (by omega)
  have eb : (nI 8 * nI s + nI b).toNatClampNeg = 8 * s + b := ixc (by omega)
  have ea4 : (nI 4 * nI a + nI 3).toNatClampNeg = 4 * a + 3 := ixc (by omega)
  have eb4 : (nI 4 * nI b + nI 3).toNatClampNeg = 4 * b + 3 := ixc (by omega)
  generalize hQ : (fun (r : Option Value) (σ' : qw_M) => σ' = σ ∧ r = some (.int (nI (tch T x.1 x.2 a b).toNat))) = Q
  refine mt_X12_isTouching (Q := Q) rfl (ev_X12_isTouching [] 100 ?_)
  refine And.intro (pk_in (8 * s + a) 160 (by omega) (ixm 8 s a)) ?_
  refine And.intro (pk_in (8 * s + b) 160 (by omega) (ixm 8 s b)) ?_
  refine And.intro (pk_in (8 * s + a) 160 (by omega) (ixm 8 s a)) ?_
  refine And.intro (pk_in (8 * s + b) 160 (by omega) (ixm 8 s b)) ?_
  have no : tch T x.1 x.2 a b = false → Q (some (.int (nI 0))) σ := fun e => by
    subst hQ
    rw [e]
    exact ⟨rfl, rfl⟩
  by_cases q1 : x.1 a = x.1 b
  · refine vnf (by rw [ea, eb, a4, b4, q1]) ?_
    refine And.intro (pk_in (4 * b + 3) 32 (by omega) (ixm 4 b 3)) ?_
    by_cases q2 : x.2 a < x.2 b + tM T b
    · refine vf (by rw [ea, eb, eb4, a5, b5, mb, nI_add]; exact nnle (x.2 b + tM T b) (x.2 a) q2 (by omega)) ?_
      refine And.intro (pk_in (4 * a + 3) 32 (by omega) (ixm 4 a 3)) ?_
      by_cases q3 : x.2 b < x.2 a + tM T a
      · refine vf (by rw [ea, eb, ea4, a5, b5, ma, nI_add]; exact nnle (x.2 a + tM T a) (x.2 b) q3 (by omega)) ?_
        subst hQ
        refine ⟨Or.inr rfl, rfl, ?_⟩
        unfold tch
        rw [decide_eq_true q1, decide_eq_true q2, decide_eq_true q3]
        rfl
      · refine vt (by rw [ea, eb, ea4, a5, b5, ma, nI_add]; exact nle (x.2 a + tM T a) (x.2 b) (by omega) (by omega)) ?_
        refine ⟨Or.inl rfl, no ?_⟩
        unfold tch
        rw [decide_eq_false q3, Bool.and_false, Bool.and_false]
    · refine vt (by rw [ea, eb, eb4, a5, b5, mb, nI_add]; exact nle (x.2 b + tM T b) (x.2 a) (by omega) (by omega)) ?_
      refine ⟨Or.inl rfl, no ?_⟩
      unfold tch
      rw [decide_eq_false q2, Bool.false_and, Bool.and_false]
  · refine vnt (by rw [ea, eb, a4, b4]; exact nne (x.1 a) (x.1 b) q1 (by omega) (by omega)) ?_
    refine ⟨Or.inl rfl, no ?_⟩
    unfold tch
    rw [decide_eq_false q1, Bool.false_and]
theorem r_touchedBy {σ : qw_M} {T : TT} {C : CC} (hT : rf σ T) (hd : lvd σ T C nsk) {w : Nat} (hw : w < 3) : qw_Mt qw_tw wM my_X12_touchedBy [.ref 0, .int (nI w)] σ (fun r σ' => σ' = σ ∧ ∃ x, r = some (.int x) ∧ ftc T C w x) := by
  have hF := hT.1.1
  generalize hQ : (fun (r : Option Value) (σ' : qw_M) => σ' = σ ∧ ∃ x, r = some (.int x) ∧ ftc T C w x) = Q
  refine mt_X12_touchedBy (Q := Q) rfl ?_
  generalize ht : (fun s a b => tch T (ps T C s).1 (ps T C s).2 a b) = t
  have loop : ∀ (m s : Nat) (y : Int32) (ls : qw_L), s + m = 20 → y = nI s → (∀ s2 a2 b2, s2 < s → a2 < b2 → b2 < tF T → t s2 a2 b2 = false) → (∀ q ∈ [(0, Value.ref 0), (1, .int (nI w)), (2, .int y)], q ∈ ls) → E_X12_touchedBy Q 2 ls [] σ := by
    intro m
    induction m with
    | zero =>
      intro s y ls hs hy hno hls
      subst hy
      refine qw_Ev.sub (ev_X12_touchedBy [] 100 ?_) hls
      refine vt (nle 20 s (by omega) (by omega)) ?_
      subst hQ
      refine ⟨rfl, _, rfl, Or.inr ⟨fun s2 a2 b2 h1 h2 h3 => ?_, rfl⟩⟩
      have := hno s2 a2 b2 (by omega) h2 h3
      rw [← ht] at this
      exact this
    | succ m ih =>
      intro s y ls hs hy hno hls
      subst hy
      have loopa : ∀ (m2 a : Nat) (y : Int32) (ls : qw_L), a + m2 = tF T → y = nI a → (∀ a2 b2, a2 < a → a2 < b2 → b2 < tF T → t s a2 b2 = false) → (∀ q ∈ [(0, Value.ref 0), (1, .int (nI w)), (2, .int (nI s)), (3, .int y)], q ∈ ls) → E_X12_touchedBy Q 10 ls [] σ := by
        intro m2
        induction m2 with
        | zero =>
          intro a y ls ha hy hna hls
          subst hy
          refine qw_Ev.sub (ev_X12_touchedBy [2] 100 ?_) hls
          refine vt (by rw [hT.2.1]; exact nle (tF T) a (by omega) (by omega)) ?_
          refine ih (s + 1) _ _ (by omega) (nI_add s 1) (fun s2 a2 b2 h1 h2 h3 => ?_) (sub_pre rfl)
          by_cases q : s2 = s
          · rw [q]
            exact hna a2 b2 (by omega) h2 h3
          · exact hno s2 a2 b2 (by omega) h2 h3
        | succ m2 iha =>
          intro a y ls ha hy hna hls
          subst hy
          have loopb : ∀ (m3 b : Nat) (y : Int32) (ls : qw_L), b + m3 = tF T → a < b → y = nI b → (∀ b2, a < b2 → b2 < b → t s a b2 = false) → (∀ q ∈ [(0, Value.ref 0), (1, .int (nI w)), (2, .int (nI s)), (3, .int (nI a)), (4, .int y)], q ∈ ls) → E_X12_touchedBy Q 23 ls [] σ := by
            intro m3
            induction m3 with
            | zero =>
              intro b y ls hb hab hy hnb hls
              subst hy
              refine qw_Ev.sub (ev_X12_touchedBy [10] 100 ?_) hls
              refine vt (by rw [hT.2.1]; exact nle (tF T) b (by omega) (by omega)) ?_
              refine iha (a + 1) _ _ (by omega) (nI_add a 1) (fun a2 b2 h1 h2 h3 => ?_) (sub_pre rfl)
              by_cases q : a2 = a
              · rw [q]
                exact hnb b2 (by omega) (by omega)
              · exact hna a2 b2 (by omega) h2 h3
            | succ m3 ihb =>
              intro b y ls hb hab hy hnb hls
              subst hy
              refine qw_Ev.sub (ev_X12_touchedBy [23] 100 ?_) hls
              refine vf (by rw [hT.2.1]; exact nnle (tF T) b (by omega) (by omega)) ?_
              refine ⟨trivial, _, r_isTouching hT (hd s (by omega)) (s := s) (by omega) (a := a) (b := b) (by omega) (by omega), fun y σ1 h01 ⟨k1, k2⟩ => ?_⟩
              cases k2
              have k1 := k1.symm
              subst k1
              have et : tch T (gos (tF T) C nsk (tdp T) (s + 1)).1 (gos (tF T) C nsk (tdp T) (s + 1)).2 a b = t s a b := by
                rw [← ht]
                rfl
              rw [et]
              cases hb2 : t s a b with
              | false =>
                refine vt rfl ?_
                refine ihb (b + 1) _ _ (by omega) (by omega) (nI_add b 1) (fun b2 h1 h2 => ?_) (sub_pre rfl)
                by_cases q : b2 = b
                · rw [q]
                  exact hb2
                · exact hnb b2 h1 (by omega)
              | true =>
                refine vf n10 ?_
                have key : ftc T C w (nI (if w = 0 then s else if w = 1 then a else b)) := by
                  refine Or.inl ⟨s, a, b, by omega, hab, by omega, ?_, fun a2 b2 h1 h2 h3 => ?_, fun s2 a2 b2 h1 h2 h3 => ?_, rfl⟩
                  · rw [← ht] at hb2
                    exact hb2
                  · have : t s a2 b2 = false := by
                      rcases h3 with h3 | ⟨rfl, h3⟩
                      · exact hna a2 b2 h3 h1 h2
                      · exact hnb b2 h1 h3
                    rw [← ht] at this
                    exact this
                  · have := hno s2 a2 b2 h1 h2 h3
                    rw [← ht] at this
                    exact this
                by_cases w0 : w = 0
                · refine vnf (by rw [w0]; rfl) ?_
                  rw [if_pos w0] at key
                  subst hQ
                  exact ⟨rfl, _, rfl, key⟩
                · rw [if_neg w0] at key
                  refine vnt (nI_ne0 (n := w) (by omega) (by omega)) ?_
                  by_cases w1 : w = 1
                  · refine vnf (by rw [w1]) ?_
                    rw [if_pos w1] at key
                    subst hQ
                    exact ⟨rfl, _, rfl, key⟩
                  · refine vnt (nne w 1 w1 (by omega) (by decide)) ?_
                    rw [if_neg w1] at key
                    subst hQ
                    exact ⟨rfl, _, rfl, key⟩
          refine qw_Ev.sub (ev_X12_touchedBy [23] 100 ?_) hls
          refine vf (by rw [hT.2.1]; exact nnle (tF T) a (by omega) (by omega)) ?_
          exact loopb (m2) (a + 1) _ _ (by omega) (by omega) (nI_add a 1) (fun b2 h1 h2 => by omega) (sub_pre rfl)
      refine qw_Ev.sub (ev_X12_touchedBy [10] 100 ?_) hls
      refine vf (nnle 20 s (by omega) (by omega)) ?_
      exact loopa (tF T) 0 _ _ (by omega) rfl (fun a2 b2 h1 => absurd h1 (Nat.not_lt_zero _)) (sub_pre rfl)
  refine ev_X12_touchedBy [2] 100 ?_
  exact loop 20 0 _ _ rfl rfl (fun s2 a2 b2 h1 => absurd h1 (Nat.not_lt_zero _)) (sub_pre rfl)
theorem r_darkestNow {σ : qw_M} {T : TT} {C : CC} {n : Nat} {a : Nat → Nat} {L : Nat} (hT : rf σ T) (hk : mfk σ n a) (hL : mL σ L) (hz : mnz σ) (hd : lvd σ T C nsk) : qw_Mt qw_tw wM my_X12_darkestNow [.ref 0] σ (fun r σ' => σ' = σ ∧ r = some (.int (dkb (dks (dkn T C L) (fun s => isx a s n) 20)))) := by
  have hdk : ∀ s, dkn T C L s ≤ 32 := fun s => cnt_le _ _
  have hle := dks_le (dk := dkn T C L) (o := fun s => isx a s n) hdk
  refine mt_X12_darkestNow rfl ?_
  generalize ho : (fun s => isx a s n) = o at hle
  have loop : ∀ (m j : Nat) (y b v : Int32) (ls : qw_L), j + m = 20 → y = nI j → b = dkb (dks (dkn T C L) o j) → v = dkm (dks (dkn T C L) o j) → (∀ q ∈ [(0, Value.ref 0), (1, .int b), (2, .int v), (3, .int y)], q ∈ ls) → E_X12_darkestNow (fun r σ' => σ' = σ ∧ r = some (.int (dkb (dks (dkn T C L) o 20)))) 6 ls [] σ := by
    intro m
    induction m with
    | zero =>
      intro j y b v ls hj hy hb hv hls
      subst hy hb hv
      refine qw_Ev.sub (ev_X12_darkestNow [] 100 ?_) hls
      refine vt (nle 20 j (by omega) (by omega)) ?_
      have : j = 20 := by omega
      subst this
      exact ⟨rfl, rfl⟩
    | succ m ih =>
      intro j y b v ls hj hy hb hv hls
      subst hy hb hv
      have hlej := hle j
      have est : dks (dkn T C L) o (j + 1) = match dks (dkn T C L) o j with
        | none => if o j then none else some (j, dkn T C L j)
        | some b => if !o j && decide (b.2 < dkn T C L j) then some (j, dkn T C L j) else some b := rfl
      have hoj : isx a j n = o j := by rw [← ho]
      generalize dks (dkn T C L) o j = X at hlej est hls ⊢
      -- the number compared
      have go : ∀ (z : Int32), (o j = true → z = m1) → (o j = false → z = nI (dkn T C L j)) → ∀ ls2 : qw_L, (∀ q ∈ [(0, Value.ref 0), (1, .int (dkb X)), (2, .int (dkm X)), (3, .int (nI j))], q ∈ ls2) → ∀ st, st = [Value.int z] → E_X12_darkestNow (fun r σ' => σ' = σ ∧ r = some (.int (dkb (dks (dkn T C L) o 20)))) 29 ls2 st σ := fun z z1 z2 ls2 hls2 st hst => by
        subst hst
        refine qw_Ev.sub (ev_X12_darkestNow [6] 100 ?_) hls2
        by_cases q : dkm X < z
        · refine vf (Int32.not_le.mpr q) ?_
          refine ⟨trivial, _, r_greaterE (z := z) (if_pos q), fun y σ1 ⟨k1, k2⟩ => ?_⟩
          cases k2
          have k1 := k1.symm
          subst k1
          have key : dks (dkn T C L) o (j + 1) = some (j, dkn T C L j) ∧ z = nI (dkn T C L j) := by
            rw [est]
            cases hX : X with
            | none =>
              cases hoj2 : o j with
              | true =>
                rw [z1 hoj2, hX] at q
                exact absurd q (by decide)
              | false => exact ⟨rfl, z2 hoj2⟩
            | some c =>
              obtain ⟨c1, c2⟩ := hlej c hX
              cases hoj2 : o j with
              | true =>
                rw [z1 hoj2, hX] at q
                have q : nI c.2 < m1 := q
                exact absurd (Int32.lt_trans q (show m1 < nI 0 by decide)) (nnlt c.2 0 (Nat.zero_le _) (by omega))
              | false =>
                rw [z2 hoj2, hX] at q
                have q : nI c.2 < nI (dkn T C L j) := q
                rw [nI_ltI (by omega) (by have := hdk j; omega)] at q
                exact ⟨if_pos (by rw [decide_eq_true q]; rfl), z2 hoj2⟩
          refine ih (j + 1) _ _ _ _ (by omega) (nI_add j 1) ?_ ?_ (sub_pre rfl)
          · rw [key.1]
            rfl
          · rw [key.1, key.2]
            rfl
        · refine vt (Int32.not_lt.mp q) ?_
          refine ⟨trivial, _, r_greaterE (z := dkm X) (if_neg q), fun y σ1 ⟨k1, k2⟩ => ?_⟩
          cases k2
          have k1 := k1.symm
          subst k1
          have key : dks (dkn T C L) o (j + 1) = X := by
            rw [est]
            cases hX : X with
            | none =>
              cases hoj2 : o j with
              | true => rfl
              | false =>
                rw [z2 hoj2, hX] at q
                exact absurd (Int32.lt_of_lt_of_le (show m1 < nI 0 by decide) (nle 0 (dkn T C L j) (Nat.zero_le _) (by have := hdk j; omega))) q
            | some c =>
              obtain ⟨c1, c2⟩ := hlej c hX
              cases hoj2 : o j with
              | true => rfl
              | false =>
                rw [z2 hoj2, hX] at q
                have q : ¬ nI c.2 < nI (dkn T C L j) := q
                rw [nI_ltI (by omega) (by have := hdk j; omega)] at q
                exact if_neg (by rw [decide_eq_false q]; decide)
          refine ih (j + 1) _ _ _ _ (by omega) (nI_add j 1) ?_ ?_ (sub_pre rfl)
          · rw [key]
          · rw [key]
      refine qw_Ev.sub (ev_X12_darkestNow [29] 100 ?_) hls
      refine vf (nnle 20 j (by omega) (by omega)) ?_
      refine ⟨trivial, _, r_isOut hk (s := j) (by omega), fun y σ1 h01 ⟨k1, k2⟩ => ?_⟩
      cases k2
      have k1 := k1.symm
      subst k1
      rw [hoj]
      cases hoj2 : o j with
      | true =>
        refine vf n10 ?_
        exact go _ (fun _ => rfl) (fun z => by rw [hoj2] at z; cases z) _ (sub_pre rfl) _ rfl
      | false =>
        refine vt rfl ?_
        refine ⟨trivial, _, r_darkOf hT hk hL (hd j (by omega)) hz.2 (s := j) (by omega), fun y σ1 ⟨k1, k2⟩ => ?_⟩
        cases k2
        have k1 := k1.symm
        subst k1
        refine go _ (fun z => by rw [hoj2] at z; cases z) (fun _ => ?_) _ (sub_pre rfl) _ rfl
        rw [nosk]
        unfold lgD
        rw [hoj, hoj2]
        rfl
  refine ev_X12_darkestNow [6] 100 ?_
  exact loop 20 0 _ _ _ _ rfl rfl rfl rfl (sub_pre rfl)
