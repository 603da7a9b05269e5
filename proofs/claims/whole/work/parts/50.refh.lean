/-! The reference: sheets -/
section
variable {σ σ' : qw_M} {A : AS}
theorem pfm_n (h : pfm none < 0) : True := trivial
theorem pfm_s {z : Nat × Nat × (Nat → Int32)} (h : pokk (some z)) : ¬ pfm (some z) < 0 := nI_pos (by have : z.1 < 3 := h.1; omega)
theorem fnd_fr {d : Nat} : frM [] [4] σ (qw_pi σ 0 4 (nI d)) := frM.p0 (by decide)
theorem r_cutE {f : Nat} {u : Int32} (hu : u = nI f) (hf : f < 3) (v : Int32) : qw_Mt qw_tw wM my_X12_cut [.int u, .int v] σ (fun r σ' => σ' = σ ∧ r = some (.int (cutI f v))) := by
  subst hu
  exact r_cut hf v
theorem r_lacks {x : PG} {s f : Nat} (hs : s < 4) (h : mpg σ s x) (hf : f < 3) (i : Int32) : qw_Mt qw_tw wM my_X12_lacks [.ref 0, .int (nI s), .int (nI f), .int i] σ (fun r σ' => (fdo x f i = 0 ∧ σ' = σ ∧ r = some (.int (nI 0))) ∨ (0 < fdo x f i ∧ σ' = qw_pi σ 0 4 (nI (fdo x f i)) ∧ r = some (.int (fnd (fdo x f i))))) := by
  obtain ⟨g1, g2, g3, g4⟩ := h
  have ecl : (nI s).toNatClampNeg = s := nI_clamp (by omega)
  refine mt_X12_lacks rfl (ev_X12_lacks [] 100 ?_)
  refine And.intro (nin s 4 hs (by decide)) ?_
  cases x with
  | none =>
    refine vf (by rw [ecl, g2]; decide) ?_
    refine ⟨trivial, _, r_finds (d := 1), fun z σ2 ⟨k1, k2⟩ => ?_⟩
    exact Or.inr ⟨Nat.one_pos, k1, k2⟩
  | some z =>
    have gz : z.1 < 3 ∧ z.2.1 ≤ 60 := g1
    refine vt (by rw [ecl, g2]; exact nI_pos' (by omega)) ?_
    refine And.intro (nin s 4 hs (by decide)) ?_
    by_cases q : z.1 = f
    · refine vt (by rw [ecl, g2]; exact congrArg nI q) ?_
      refine And.intro (nin s 4 hs (by decide)) ?_
      have e2 : (σ 2).1 (nI s).toNatClampNeg = nI z.2.1 := by rw [ecl]; exact g3 (fun z => by cases z)
      refine ⟨trivial, _, r_in0 i (n := z.2.1) (by omega) (by decide) (by rw [e2, Int32.toInt_toInt64]; exact pk_sub_toInt (a := z.2.1) (b := 1) (by omega) (by decide)), fun y σ2 _ ⟨k1, k2⟩ => ?_⟩
      have k1 := k1.symm
      subst k1
      cases k2
      have ef : fdo (some z) f i = (match nn i z.2.1 with
        | none => 2
        | some _ => 0) := if_pos q
      rw [ef]
      cases hn : nn i z.2.1 with
      | none =>
        refine vt rfl ?_
        refine ⟨trivial, _, r_finds (d := 2), fun z σ2 ⟨k1, k2⟩ => ?_⟩
        exact Or.inr ⟨by decide, k1, k2⟩
      | some j =>
        refine vf n10 ?_
        exact Or.inl ⟨rfl, rfl, rfl⟩
    · refine vf (by rw [ecl, g2]; exact nne z.1 f q (by omega) (by omega)) ?_
      have ef : fdo (some z) f i = 3 := if_neg q
      rw [ef]
      refine ⟨trivial, _, r_finds (d := 3), fun z σ2 ⟨k1, k2⟩ => ?_⟩
      exact Or.inr ⟨by decide, k1, k2⟩
theorem d_sheet (h : KM σ A) (x y w : Int32) : qw_Mt qw_tw wM my_X12_sheet [.ref 0, .int x, .int y, .int w] σ (postM (do_sheet A x y w)) := by
  generalize hQ : postM (do_sheet A x y w) = Q
  unfold do_sheet at hQ
  refine mt_X12_sheet (Q := Q) rfl (ev_X12_sheet [55] 100 ?_)
  refine ⟨trivial, _, r_isSheet x, fun z σ2 _ ⟨k1, k2⟩ => ?_⟩
  have k1 := k1.symm
  subst k1
  cases k2
  cases hx : nn x 4 with
  | none =>
    rw [hx] at hQ
    refine vt rfl ?_
    subst hQ
    exact ⟨h, rfl⟩
  | some s =>
    rw [hx] at hQ
    obtain ⟨bs, rfl⟩ := nn_some (by decide) hx
    refine vf n10 ?_
    refine ⟨trivial, _, r_in0 y (n := 3) (by decide) (by decide) (by decide), fun z σ2 _ ⟨k1, k2⟩ => ?_⟩
    have k1 := k1.symm
    subst k1
    cases k2
    cases hy : nn y 3 with
    | none =>
      rw [hy] at hQ
      refine vt rfl ?_
      subst hQ
      exact ⟨h, rfl⟩
    | some f =>
      rw [hy] at hQ
      obtain ⟨bf, rfl⟩ := nn_some (by decide) hy
      refine vf n10 ?_
      dsimp only at hQ
      cases hw : nn w 61 with
      | none =>
        rw [hw] at hQ
        dsimp only at hQ
        by_cases q : w < 0
        · rw [if_pos q] at hQ
          refine vt (Int32.le_of_lt (Int32.lt_trans q (show (0 : Int32) < nI 60 by decide))) ?_
          refine vf (Int32.not_le.mpr q) ?_
          refine ⟨trivial, _, r_finds (d := 5), fun z σ2 ⟨k1, k2⟩ => ?_⟩
          subst hQ
          rw [k1]
          exact ⟨KM_fd h (by decide), k2⟩
        · rw [if_neg q] at hQ
          obtain ⟨j, hj, rfl⟩ := nI_of q
          have hj61 : 61 ≤ j := by
            rcases Nat.lt_or_ge j 61 with z | z
            · exact absurd (nn_nI z (by decide)) (by rw [hw]; intro z; cases z)
            · exact z
          refine vf (nnle j 60 (by omega) hj) ?_
          subst hQ
          exact ⟨h, rfl⟩
      | some n =>
        rw [hw] at hQ
        obtain ⟨bn, rfl⟩ := nn_some (by decide) hw
        refine vt (nle n 60 (by omega) (by decide)) ?_
        refine vt (nI_pos' (by omega)) ?_
        refine And.intro (nin s 4 bs (by decide)) ?_
        refine And.intro (nin s 4 bs (by decide)) ?_
        have ecl : (nI s).toNatClampNeg = s := nI_clamp (by omega)
        have loop : ∀ (r j : Nat) (y : Int32) (ls : qw_L) (σ' : qw_M), j + r = n → y = nI j → frM [1, 2, 3, 4] [] σ σ' → oth s σ σ' → (σ' 1).1 s = nI f → (σ' 2).1 s = nI n → (∀ i, i < j → (σ' 3).1 (60 * s + i) = nI 0) → (∀ q ∈ [(0, Value.ref 0), (1, .int (nI s)), (2, .int (nI f)), (3, .int (nI n)), (4, .int y)], q ∈ ls) → E_X12_sheet Q 55 ls [] σ' := by
          intro r
          induction r with
          | zero =>
            intro j y ls σ' hj hy hf ho h1 h2 h3 hls
            subst hy
            have : j = n := by omega
            subst this
            refine qw_Ev.sub (ev_X12_sheet [] 100 ?_) hls
            refine vt (Int32.le_refl _) ?_
            subst hQ
            exact ⟨KM_pg h hf ⟨⟨bf, (show j ≤ 60 by omega)⟩, h1, fun _ => h2, h3⟩ ho, rfl⟩
          | succ r ih =>
            intro j y ls σ' hj hy hf ho h1 h2 h3 hls
            subst hy
            refine qw_Ev.sub (ev_X12_sheet [55] 100 ?_) hls
            refine vf (nnle n j (by omega) (by omega)) ?_
            refine And.intro (pk_in (60 * s + j) 240 (by omega) (ixm 60 s j)) ?_
            have ei : (nI 60 * nI s + nI j).toNatClampNeg = 60 * s + j := ixc (by omega)
            refine ih (j + 1) _ _ _ (by omega) (nI_add j 1) (hf.tr (frM.pi (by decide) (by decide))) (fun u hu hne => ?_) (by rw [pi_off (by decide)]; exact h1) (by rw [pi_off (by decide)]; exact h2) (fun i hi => ?_) (sub_pre rfl)
            · obtain ⟨o1, o2, o3⟩ := ho u hu hne
              rw [pi_off (c := 1) (k := 3) (by decide), pi_off (c := 2) (k := 3) (by decide), ei]
              exact ⟨o1, o2, fun i hi => by rw [pi_ne (by omega)]; exact o3 i hi⟩
            · rw [ei, pi_at]
              by_cases q : i = j
              · rw [if_pos (by omega)]
              · rw [if_neg (by omega)]
                exact h3 i (by omega)
        refine loop n 0 _ _ _ (by omega) rfl ((frM.pi (by decide) (by decide)).tr (frM.pi (by decide) (by decide))) (fun u hu hne => ?_) ?_ ?_ (fun i hi => absurd hi (Nat.not_lt_zero i)) (sub_pre rfl)
        · rw [ecl, pi_off (c := 1) (k := 2) (by decide), pi_ne hne, pi_ne hne, pi_off (c := 2) (k := 1) (by decide), pi_off (c := 3) (k := 2) (by decide), pi_off (c := 3) (k := 1) (by decide)]
          exact ⟨rfl, rfl, fun i _ => rfl⟩
        · rw [ecl, pi_off (c := 1) (k := 2) (by decide), pi_eq]
        · rw [ecl, pi_eq]
theorem d_lose (h : KM σ A) (x : Int32) : qw_Mt qw_tw wM my_X12_lose [.ref 0, .int x] σ (postM (do_lose A x)) := by
  generalize hQ : postM (do_lose A x) = Q
  unfold do_lose at hQ
  refine mt_X12_lose (Q := Q) rfl (ev_X12_lose [] 100 ?_)
  refine ⟨trivial, _, r_isSheet x, fun z σ2 _ ⟨k1, k2⟩ => ?_⟩
  have k1 := k1.symm
  subst k1
  cases k2
  cases hx : nn x 4 with
  | none =>
    rw [hx] at hQ
    refine vnf rfl ?_
    subst hQ
    exact ⟨h, rfl⟩
  | some s =>
    rw [hx] at hQ
    obtain ⟨bs, rfl⟩ := nn_some (by decide) hx
    refine vnt n10 ?_
    obtain ⟨g1, g2, g3, g4⟩ := h.2.2.2.2.1 s bs
    have ecl : (nI s).toNatClampNeg = s := nI_clamp (by omega)
    refine And.intro (nin s 4 bs (by decide)) ?_
    dsimp only at hQ
    cases hg : aG A s with
    | none =>
      rw [hg] at hQ g2
      refine vf (by rw [ecl, g2]; decide) ?_
      refine ⟨trivial, _, r_finds (d := 1), fun z σ2 ⟨k1, k2⟩ => ?_⟩
      subst hQ
      rw [k1]
      exact ⟨KM_fd h (by decide), k2⟩
    | some z =>
      rw [hg] at hQ g1 g2 g3 g4
      have gz : z.1 < 3 ∧ z.2.1 ≤ 60 := g1
      refine vt (by rw [ecl, g2]; exact nI_pos' (by omega)) ?_
      refine And.intro (nin s 4 bs (by decide)) ?_
      refine And.intro (nin s 4 bs (by decide)) ?_
      have e2 : (qw_pi σ 1 (nI s).toNatClampNeg m1 2).1 (nI s).toNatClampNeg = nI z.2.1 := by rw [pi_off (by decide), ecl]; exact g3 (fun z => by cases z)
      subst hQ
      refine ⟨KM_pg (x := none) h (frM.pi (by decide) (by decide)) ⟨trivial, ?_, fun q => absurd rfl q, fun i hi => absurd hi (Nat.not_lt_zero i)⟩ (fun u hu hne => ?_), congrArg (fun z => some (Value.int z)) e2⟩
      · rw [ecl, pi_eq]
        rfl
      · rw [ecl, pi_ne hne, pi_off (c := 2) (k := 1) (by decide), pi_off (c := 3) (k := 1) (by decide)]
        exact ⟨rfl, rfl, fun i _ => rfl⟩
theorem fdo_le {x : PG} {f : Nat} {i : Int32} : fdo x f i ≤ 3 := by
  unfold fdo
  cases x with
  | none => exact (show 1 ≤ 3 by decide)
  | some z =>
    dsimp only
    split
    · cases nn i z.2.1 with
      | none => exact (show 2 ≤ 3 by decide)
      | some j => exact (show 0 ≤ 3 by decide)
    · exact Nat.le_refl 3
theorem d_lay (h : KM σ A) (x y w v : Int32) : qw_Mt qw_tw wM my_X12_lay [.ref 0, .int x, .int y, .int w, .int v] σ (postM (do_lay A x y w v)) := by
  generalize hQ : postM (do_lay A x y w v) = Q
  unfold do_lay at hQ
  refine mt_X12_lay (Q := Q) rfl (ev_X12_lay [] 100 ?_)
  refine ⟨trivial, _, r_isSheet x, fun z σ2 _ ⟨k1, k2⟩ => ?_⟩
  have k1 := k1.symm
  subst k1
  cases k2
  cases hx : nn x 4 with
  | none =>
    rw [hx] at hQ
    refine vt rfl ?_
    subst hQ
    exact ⟨h, rfl⟩
  | some s =>
    rw [hx] at hQ
    obtain ⟨bs, rfl⟩ := nn_some (by decide) hx
    refine vf n10 ?_
    refine ⟨trivial, _, r_in0 y (n := 3) (by decide) (by decide) (by decide), fun z σ2 _ ⟨k1, k2⟩ => ?_⟩
    have k1 := k1.symm
    subst k1
    cases k2
    cases hy : nn y 3 with
    | none =>
      rw [hy] at hQ
      refine vnf rfl ?_
      subst hQ
      exact ⟨h, rfl⟩
    | some f =>
      rw [hy] at hQ
      obtain ⟨bf, rfl⟩ := nn_some (by decide) hy
      refine vnt n10 ?_
      have hp := h.2.2.2.2.1 s bs
      have ecl : (nI s).toNatClampNeg = s := nI_clamp (by omega)
      dsimp only at hQ
      refine ⟨trivial, _, r_lacks bs hp bf w, fun z σ2 hk => ?_⟩
      rcases hk with ⟨k0, k1, k2⟩ | ⟨k0, k1, k2⟩
      · have k1 := k1.symm
        subst k1
        cases k2
        refine vt rfl ?_
        cases hg : aG A s with
        | none => rw [hg] at k0; cases k0
        | some z =>
          rw [hg] at hQ k0 hp
          obtain ⟨g1, g2, g3, g4⟩ := hp
          have gz : z.1 < 3 ∧ z.2.1 ≤ 60 := g1
          dsimp only at hQ
          by_cases q : z.1 = f
          · rw [if_pos q] at hQ
            have ef : fdo (some z) f w = (match nn w z.2.1 with
              | none => 2
              | some _ => 0) := if_pos q
            rw [ef] at k0
            cases hn : nn w z.2.1 with
            | none => rw [hn] at k0; cases k0
            | some j =>
              rw [hn] at hQ
              obtain ⟨bj, rfl⟩ := nn_some (by omega) hn
              refine ⟨trivial, _, r_cut bf v, fun y σ2 ⟨k1, k2⟩ => ?_⟩
              have k1 := k1.symm
              subst k1
              cases k2
              refine And.intro (pk_in (60 * s + j) 240 (by omega) (ixm 60 s j)) ?_
              have ei : (nI 60 * nI s + nI j).toNatClampNeg = 60 * s + j := ixc (by omega)
              subst hQ
              refine ⟨KM_pg h (frM.pi (by decide) (by decide)) ⟨g1, ?_, fun _ => ?_, fun i hi => ?_⟩ (fun u hu hne => ?_), rfl⟩
              · rw [pi_off (by decide)]
                exact g2
              · rw [pi_off (by decide)]
                exact g3 (fun z => by cases z)
              · rw [ei, pi_at]
                show _ = if i = j then cutI z.1 v else z.2.2 i
                by_cases q2 : i = j
                · rw [if_pos (by omega), if_pos q2, q]
                · rw [if_neg (by omega), if_neg q2]
                  exact g4 i hi
              · rw [ei, pi_off (c := 1) (k := 3) (by decide), pi_off (c := 2) (k := 3) (by decide)]
                exact ⟨rfl, rfl, fun i hi => by rw [pi_ne (by omega)]⟩
          · have ef : fdo (some z) f w = 3 := if_neg q
            rw [ef] at k0
            cases k0
      · have k2 := Value.int.inj (Option.some.inj k2)
        subst k2
        have hd5 := fdo_le (x := aG A s) (f := f) (i := w)
        refine vf ?_ ?_
        · have : fdo (aG A s) f w = 1 ∨ fdo (aG A s) f w = 2 ∨ fdo (aG A s) f w = 3 := by omega
          rcases this with e | e | e <;> rw [e] <;> decide
        · have key : ∀ d, fdo (aG A s) f w = d → postM (fnd d, sfd A d) = Q → Q (some (.int (fnd (fdo (aG A s) f w)))) σ2 := fun d e1 e2 => by
            rw [← e2, k1, e1]
            exact ⟨KM_fd h (by omega), rfl⟩
          cases hg : aG A s with
          | none =>
            rw [hg] at hQ key
            exact key 1 rfl hQ
          | some z =>
            rw [hg] at hQ key k0
            dsimp only at hQ
            by_cases q : z.1 = f
            · rw [if_pos q] at hQ
              have ef : fdo (some z) f w = (match nn w z.2.1 with
                | none => 2
                | some _ => 0) := if_pos q
              cases hn : nn w z.2.1 with
              | none =>
                rw [hn] at hQ ef
                exact key 2 ef hQ
              | some j =>
                rw [hn] at ef
                rw [ef] at k0
                exact absurd k0 (show ¬ 0 < 0 by decide)
            · rw [if_neg q] at hQ
              have ef : fdo (some z) f w = 3 := if_neg q
              exact key 3 ef hQ
theorem d_get (h : KM σ A) (x y w : Int32) : qw_Mt qw_tw wM my_X12_get [.ref 0, .int x, .int y, .int w] σ (postM (do_get A x y w)) := by
  generalize hQ : postM (do_get A x y w) = Q
  unfold do_get at hQ
  refine mt_X12_get (Q := Q) rfl (ev_X12_get [] 100 ?_)
  refine ⟨trivial, _, r_isSheet x, fun z σ2 _ ⟨k1, k2⟩ => ?_⟩
  have k1 := k1.symm
  subst k1
  cases k2
  cases hx : nn x 4 with
  | none =>
    rw [hx] at hQ
    refine vt rfl ?_
    subst hQ
    exact ⟨h, rfl⟩
  | some s =>
    rw [hx] at hQ
    obtain ⟨bs, rfl⟩ := nn_some (by decide) hx
    refine vf n10 ?_
    refine ⟨trivial, _, r_in0 y (n := 3) (by decide) (by decide) (by decide), fun z σ2 _ ⟨k1, k2⟩ => ?_⟩
    have k1 := k1.symm
    subst k1
    cases k2
    cases hy : nn y 3 with
    | none =>
      rw [hy] at hQ
      refine vt rfl ?_
      subst hQ
      exact ⟨h, rfl⟩
    | some f =>
      rw [hy] at hQ
      obtain ⟨bf, rfl⟩ := nn_some (by decide) hy
      refine vf n10 ?_
      have hp := h.2.2.2.2.1 s bs
      dsimp only at hQ
      refine ⟨trivial, _, r_lacks bs hp bf w, fun z σ2 hk => ?_⟩
      rcases hk with ⟨k0, k1, k2⟩ | ⟨k0, k1, k2⟩
      · have k1 := k1.symm
        subst k1
        cases k2
        refine vt rfl ?_
        cases hg : aG A s with
        | none => rw [hg] at k0; cases k0
        | some z =>
          rw [hg] at hQ k0 hp
          obtain ⟨g1, g2, g3, g4⟩ := hp
          have gz : z.1 < 3 ∧ z.2.1 ≤ 60 := g1
          dsimp only at hQ
          by_cases q : z.1 = f
          · rw [if_pos q] at hQ
            have ef : fdo (some z) f w = (match nn w z.2.1 with
              | none => 2
              | some _ => 0) := if_pos q
            rw [ef] at k0
            cases hn : nn w z.2.1 with
            | none => rw [hn] at k0; cases k0
            | some j =>
              rw [hn] at hQ
              obtain ⟨bj, rfl⟩ := nn_some (by omega) hn
              refine And.intro (pk_in (60 * s + j) 240 (by omega) (ixm 60 s j)) ?_
              have ei : (nI 60 * nI s + nI j).toNatClampNeg = 60 * s + j := ixc (by omega)
              subst hQ
              refine ⟨h, congrArg (fun z => some (Value.int z)) ?_⟩
              show (σ 3).1 (nI 60 * nI s + nI j).toNatClampNeg = z.2.2 j
              rw [ei]
              exact g4 j bj
          · have ef : fdo (some z) f w = 3 := if_neg q
            rw [ef] at k0
            cases k0
      · have k2 := Value.int.inj (Option.some.inj k2)
        subst k2
        have hd5 := fdo_le (x := aG A s) (f := f) (i := w)
        refine vf ?_ ?_
        · have : fdo (aG A s) f w = 1 ∨ fdo (aG A s) f w = 2 ∨ fdo (aG A s) f w = 3 := by omega
          rcases this with e | e | e <;> rw [e] <;> decide
        · have key : ∀ d, fdo (aG A s) f w = d → postM (leI, sfd A d) = Q → Q (some (.int leI)) σ2 := fun d e1 e2 => by
            rw [← e2, k1, e1]
            exact ⟨KM_fd h (by omega), rfl⟩
          cases hg : aG A s with
          | none =>
            rw [hg] at hQ key
            exact key 1 rfl hQ
          | some z =>
            rw [hg] at hQ key k0
            dsimp only at hQ
            by_cases q : z.1 = f
            · rw [if_pos q] at hQ
              have ef : fdo (some z) f w = (match nn w z.2.1 with
                | none => 2
                | some _ => 0) := if_pos q
              cases hn : nn w z.2.1 with
              | none =>
                rw [hn] at hQ ef
                exact key 2 ef hQ
              | some j =>
                rw [hn] at ef
                rw [ef] at k0
                exact absurd k0 (show ¬ 0 < 0 by decide)
            · rw [if_neg q] at hQ
              have ef : fdo (some z) f w = 3 := if_neg q
              exact key 3 ef hQ
end
