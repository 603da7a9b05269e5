/-! The reference: sheets read, written, copied -/
section
variable {σ σ' : qw_M} {A : AS}
theorem d_read (h : KM σ A) (x : Int32) : qw_Mt qw_tw wM my_X12_read [.ref 0, .int x] σ (postM (do_read A x)) := by
  generalize hQ : postM (do_read A x) = Q
  unfold do_read at hQ
  refine mt_X12_read (Q := Q) rfl (ev_X12_read [29] 100 ?_)
  refine ⟨trivial, _, r_isSheet x, fun z σ2 _ ⟨k1, k2⟩ => ?_⟩
  have k1 := k1.symm
  subst k1
  cases k2
  cases hx : nn x 4 with
  | none =>
    rw [hx] at hQ
    refine vnf rfl ?_
    subst hQ
    exact ⟨h, rfl⟩
  | some s =>
    rw [hx] at hQ
    obtain ⟨bs, rfl⟩ := nn_some (by decide) hx
    refine vnt n10 ?_
    obtain ⟨g1, g2, g3, g4⟩ := h.2.2.2.2.1 s bs
    have ecl : (nI s).toNatClampNeg = s := nI_clamp (by omega)
    refine And.intro (nin s 4 bs (by decide)) ?_
    dsimp only at hQ
    cases hg : aG A s with
    | none =>
      rw [hg] at hQ g2
      refine vf (by rw [ecl, g2]; decide) ?_
      refine ⟨trivial, _, r_finds (d := 1), fun z σ2 ⟨k1, k2⟩ => ?_⟩
      subst hQ
      rw [k1]
      exact ⟨KM_fd h (by decide), k2⟩
    | some z =>
      rw [hg] at hQ g1 g2
      have gz : z.1 < 3 ∧ z.2.1 ≤ 60 := g1
      refine vt (by rw [ecl, g2]; exact nI_pos' (by omega)) ?_
      have stop : ∀ (c : Nat) (ls : qw_L) (σ' : qw_M) (A' : AS), c ≤ 60 → KM σ' A' → postM (nI c, A') = Q → (∀ q ∈ [(0, Value.ref 0), (1, .int (nI s)), (2, .int (nI c)), (3, .int (nI 0))], q ∈ ls) → E_X12_read Q 29 ls [] σ' := fun c ls σ' A' hc h' hq hls => by
        refine qw_Ev.sub (ev_X12_read [] 100 ?_) hls
        refine vt rfl ?_
        subst hq
        exact ⟨h', rfl⟩
      have loop : ∀ (k c : Nat) (y : Int32) (ls : qw_L) (σ' : qw_M) (A' : AS), c + k = z.2.1 → y = nI c → KM σ' A' → aG A' s = some z → postM (nI (rdg (some z) k c A').1, (rdg (some z) k c A').2) = Q → (∀ q ∈ [(0, Value.ref 0), (1, .int (nI s)), (2, .int y), (3, .int (nI 1))], q ∈ ls) → E_X12_read Q 29 ls [] σ' := by
        intro k
        induction k with
        | zero =>
          intro c y ls σ' A' hc hy h' hg' hq hls
          subst hy
          have hp := h'.2.2.2.2.1 s bs
          rw [hg'] at hp
          have e2 : (σ' 2).1 (nI s).toNatClampNeg = nI z.2.1 := by rw [ecl]; exact hp.2.2.1 (fun z => by cases z)
          refine qw_Ev.sub (ev_X12_read [] 100 ?_) hls
          refine vf n10 ?_
          refine And.intro (nin s 4 bs (by decide)) ?_
          refine vt (by rw [e2]; exact nle z.2.1 c (by omega) (by omega)) ?_
          subst hq
          exact ⟨h', rfl⟩
        | succ k ih =>
          intro c y ls σ' A' hc hy h' hg' hq hls
          subst hy
          have hp := h'.2.2.2.2.1 s bs
          rw [hg'] at hp
          have e2 : (σ' 2).1 (nI s).toNatClampNeg = nI z.2.1 := by rw [ecl]; exact hp.2.2.1 (fun z => by cases z)
          refine qw_Ev.sub (ev_X12_read [29] 100 ?_) hls
          refine vf n10 ?_
          refine And.intro (nin s 4 bs (by decide)) ?_
          refine vf (by rw [e2]; exact nnle z.2.1 c (by omega) (by omega)) ?_
          refine And.intro (pk_in (60 * s + c) 240 (by omega) (ixm 60 s c)) ?_
          have e3 : (σ' 3).1 (nI 60 * nI s + nI c).toNatClampNeg = pit (some z) c := by
            rw [ixc (by omega)]
            exact hp.2.2.2 c (show c < z.2.1 by omega)
          refine ⟨trivial, _, d_flicker h' _, fun w σ2 ⟨k1, k2⟩ => ?_⟩
          rw [e3] at k1 k2
          have k2 := Value.int.inj (Option.some.inj k2)
          subst k2
          have er : rdg (some z) (k + 1) c A' = (if aKn A' = 8 then (c, A') else match nn (pit (some z) c) 20 with
            | none => (c, A')
            | some s => rdg (some z) k (c + 1) (sfl A' (aKn A' + 1) (fun i => if i = aKn A' then s else aKa A' i))) := rfl
          have hK := h'.2.1.1
          have ed : do_flicker A' (pit (some z) c) = (match nn (pit (some z) c) 20 with
            | none => (bad, A')
            | some s => if aKn A' = 8 then (full, A') else (nI (aKn A' + 1), sfl A' (aKn A' + 1) (fun i => if i = aKn A' then s else aKa A' i))) := rfl
          cases hn : nn (pit (some z) c) 20 with
          | none =>
            rw [hn] at er ed
            dsimp only at er ed
            rw [ite_self] at er
            rw [ed] at k1
            refine vt (by rw [ed]; exact (show bad < 0 by decide)) ?_
            refine vt rfl ?_
            refine stop c _ _ A' (by omega) k1 ?_ (sub_pre (by rw [show nI c + nI 0 = nI c from nI_add c 0]; rfl))
            rw [← hq, er]
          | some v =>
            rw [hn] at er ed
            dsimp only at er ed
            by_cases q : aKn A' = 8
            · rw [if_pos q] at er ed
              rw [ed] at k1
              refine vt (by rw [ed]; exact (show full < 0 by decide)) ?_
              refine vt rfl ?_
              refine stop c _ _ A' (by omega) k1 ?_ (sub_pre (by rw [show nI c + nI 0 = nI c from nI_add c 0]; rfl))
              rw [← hq, er]
            · rw [if_neg q] at er ed
              rw [ed] at k1
              refine vf (by rw [ed]; exact nI_pos (n := aKn A' + 1) (by omega)) ?_
              refine vf n10 ?_
              refine ih (c + 1) _ _ _ _ (by omega) (nI_add c 1) k1 hg' ?_ (sub_pre rfl)
              rw [← hq, er]
      exact loop z.2.1 0 _ _ _ A (by omega) rfl h hg hQ (sub_pre rfl)
theorem min_32 (a : Nat) : (if a < 32 then a else 32) = min a 32 := by
  by_cases q : a < 32
  · rw [if_pos q]
    omega
  · rw [if_neg q]
    omega
theorem d_write (h : KM σ A) (x w : Int32) : qw_Mt qw_tw wM my_X12_write [.ref 0, .int x, .int w] σ (postM (do_write A x w)) := by
  generalize hQ : postM (do_write A x w) = Q
  unfold do_write at hQ
  refine mt_X12_write (Q := Q) rfl (ev_X12_write [51] 100 ?_)
  refine ⟨trivial, _, r_isStep x, fun z σ2 _ ⟨k1, k2⟩ => ?_⟩
  have k1 := k1.symm
  subst k1
  cases k2
  cases hx : nn x 20 with
  | none =>
    rw [hx] at hQ
    refine vt rfl ?_
    subst hQ
    cases nn w 4 <;> exact ⟨h, rfl⟩
  | some t =>
    rw [hx] at hQ
    obtain ⟨bt_, rfl⟩ := nn_some (by decide) hx
    refine vf n10 ?_
    refine ⟨trivial, _, r_isSheet w, fun z σ2 _ ⟨k1, k2⟩ => ?_⟩
    have k1 := k1.symm
    subst k1
    cases k2
    cases hw : nn w 4 with
    | none =>
      rw [hw] at hQ
      refine vnf rfl ?_
      subst hQ
      exact ⟨h, rfl⟩
    | some s =>
      rw [hw] at hQ
      obtain ⟨bs, rfl⟩ := nn_some (by decide) hw
      refine vnt n10 ?_
      obtain ⟨g1, g2, g3, g4⟩ := h.2.2.2.2.1 s bs
      have ecl : (nI s).toNatClampNeg = s := nI_clamp (by omega)
      refine And.intro (nin s 4 bs (by decide)) ?_
      dsimp only at hQ
      cases hg : aG A s with
      | none =>
        rw [hg] at hQ g2
        refine vf (by rw [ecl, g2]; decide) ?_
        refine ⟨trivial, _, r_finds (d := 1), fun z σ2 ⟨k1, k2⟩ => ?_⟩
        subst hQ
        rw [k1]
        exact ⟨KM_fd h (by decide), k2⟩
      | some z =>
        rw [hg] at hQ g1 g2
        have gz : z.1 < 3 ∧ z.2.1 ≤ 60 := g1
        refine vt (by rw [ecl, g2]; exact nI_pos' (by omega)) ?_
        refine ⟨trivial, _, r_find h, fun σ1 ⟨f1, h1, t1, l1⟩ => ?_⟩
        have hp := h1.2.2.2.2.1 s bs
        rw [hg] at hp
        have e2 : (σ1 2).1 (nI s).toNatClampNeg = nI z.2.1 := by rw [ecl]; exact hp.2.2.1 (fun z => by cases z)
        refine And.intro (nin s 4 bs (by decide)) ?_
        refine ⟨trivial, _, r_lesserE (a := z.2.1) (b := 32) e2 rfl (by omega) (by decide) (min_32 z.2.1), fun y σ2 ⟨k1, k2⟩ => ?_⟩
        have k1 := k1.symm
        subst k1
        cases k2
        have hm : psz (some z) = z.2.1 := rfl
        dsimp only at hQ
        rw [hm] at hQ
        generalize hGe : lgS (aT A) (aC A) (aKn A) (aKa A) (aL A) t = G at hQ
        have hmn : min z.2.1 32 ≤ z.2.1 ∧ min z.2.1 32 ≤ 32 := by omega
        generalize min z.2.1 32 = mn at hQ hmn ⊢
        have loop : ∀ (k c : Nat) (y : Int32) (ls : qw_L) (σ' : qw_M), c + k = mn → y = nI c → frM [3] [] σ1 σ' → mpg σ' s (wrp (some z) G c) → oth s σ1 σ' → (∀ q ∈ [(0, Value.ref 0), (1, .int (nI t)), (2, .int (nI s)), (3, .int (nI mn)), (4, .int y)], q ∈ ls) → E_X12_write Q 51 ls [] σ' := by
          intro k
          induction k with
          | zero =>
            intro c y ls σ' hc hy hf hp ho hls
            subst hy
            have : c = mn := by omega
            subst this
            refine qw_Ev.sub (ev_X12_write [] 100 ?_) hls
            refine vt (Int32.le_refl _) ?_
            subst hQ
            exact ⟨KM_pg h1 (hf.mo (by decide) (by decide)) hp ho, rfl⟩
          | succ k ih =>
            intro c y ls σ' hc hy hf hp ho hls
            subst hy
            obtain ⟨p1, p2, p3, p4⟩ := hp
            have hps : psz (wrp (some z) G c) = z.2.1 := psz_wrp c
            have t' : thA σ' A := t1.fr hf (by decide) (by decide)
            have l' := l1.fr hf (by decide) (by decide)
            refine qw_Ev.sub (ev_X12_write [51] 100 ?_) hls
            refine vf (nnle mn c (by omega) (by omega)) ?_
            refine And.intro (nin s 4 bs (by decide)) ?_
            refine ⟨trivial, _, r_lightOf t'.1 t'.2.2.2.1 t'.2.2.2.2.1 (l' t bt_) t'.2.2.2.2.2.2 bt_ (c := c) (by omega), fun y σ2 ⟨k1, k2⟩ => ?_⟩
            have k1 := k1.symm
            subst k1
            cases k2
            rw [nosk]
            have eG : lgD (aT A) (aKn A) (aKa A) (aL A) t (gos (tF (aT A)) (aC A) nsk (tdp (aT A)) (t + 1)) (fun _ => false) c = G c := by rw [← hGe]; rfl
            rw [eG]
            cases hW : wrp (some z) G c with
            | none =>
              rw [hW] at hps
              have hps : 0 = z.2.1 := hps
              omega
            | some z2 =>
              rw [hW] at p1 p2 p3 p4 hps
              have hps : z2.2.1 = z.2.1 := hps
              have gz2 : z2.1 < 3 ∧ z2.2.1 ≤ 60 := p1
              have ep : (σ' 1).1 (nI s).toNatClampNeg = nI z2.1 := by rw [ecl]; exact p2
              refine ⟨trivial, _, r_cutE ep gz2.1 (nI (G c)), fun y σ2 ⟨k1, k2⟩ => ?_⟩
              have k1 := k1.symm
              subst k1
              cases k2
              refine And.intro (pk_in (60 * s + c) 240 (by omega) (ixm 60 s c)) ?_
              have ei : (nI 60 * nI s + nI c).toNatClampNeg = 60 * s + c := ixc (by omega)
              refine ih (c + 1) _ _ _ (by omega) (nI_add c 1) (hf.tr (frM.pi (by decide) (by decide))) ?_ (fun u hu hne => ?_) (sub_pre rfl)
              · show mpg _ s (pput (wrp (some z) G c) c (nI (G c)))
                rw [hW]
                refine ⟨p1, ?_, fun _ => ?_, fun i hi => ?_⟩
                · rw [pi_off (by decide)]
                  exact p2
                · rw [pi_off (by decide)]
                  exact p3 (fun z => by cases z)
                · rw [ei, pi_at]
                  show _ = if i = c then cutI z2.1 (nI (G c)) else z2.2.2 i
                  by_cases q2 : i = c
                  · rw [if_pos (by omega), if_pos q2]
                  · rw [if_neg (by omega), if_neg q2]
                    exact p4 i hi
              · obtain ⟨o1, o2, o3⟩ := ho u hu hne
                rw [ei, pi_off (c := 1) (k := 3) (by decide), pi_off (c := 2) (k := 3) (by decide)]
                exact ⟨o1, o2, fun i hi => by rw [pi_ne (by omega)]; exact o3 i hi⟩
        exact loop mn 0 _ _ _ (by omega) rfl frM.rf hp (fun u _ _ => ⟨rfl, rfl, fun i _ => rfl⟩) (sub_pre rfl)
theorem nn_neg {x : Int32} {n : Nat} (h : x < 0) : nn x n = none := by
  unfold nn
  exact if_neg (fun q => absurd h (Int32.not_lt.mpr q.1))
theorem hrun_n {a m z : Nat} (ha : a < 2 ^ 31) (hm : m < 2 ^ 31) (hz : z ≤ 60) : hrun (nI a) (nI m) z = decide (a + m ≤ z) := by
  unfold hrun
  rw [nn_b ha (by decide), nn_b hm (by decide)]
  by_cases q1 : a < 61
  · rw [if_pos q1]
    by_cases q2 : m < 61
    · rw [if_pos q2]
    · rw [if_neg q2]
      exact (decide_eq_false (by omega)).symm
  · rw [if_neg q1]
    exact (decide_eq_false (by omega)).symm
theorem hrun_i {i n : Int32} {z : Nat} (h : i < 0 ∨ n < 0) : hrun i n z = false := by
  unfold hrun
  rcases h with h | h
  · rw [nn_neg h]
  · rw [nn_neg h]
    cases nn i 61 <;> rfl
theorem d_copy (h : KM σ A) (x i y j n : Int32) : qw_Mt qw_tw wM my_X12_copy [.ref 0, .int x, .int i, .int y, .int j, .int n] σ (postM (do_copy A x i y j n)) := by
  generalize hQ : postM (do_copy A x i y j n) = Q
  unfold do_copy at hQ
  refine mt_X12_copy (Q := Q) rfl (ev_X12_copy [111, 120] 100 ?_)
  refine ⟨trivial, _, r_isSheet x, fun z σ2 _ ⟨k1, k2⟩ => ?_⟩
  have k1 := k1.symm
  subst k1
  cases k2
  cases hx : nn x 4 with
  | none =>
    rw [hx] at hQ
    refine vt rfl ?_
    subst hQ
    exact ⟨h, rfl⟩
  | some s =>
    rw [hx] at hQ
    obtain ⟨bs, rfl⟩ := nn_some (by decide) hx
    refine vf n10 ?_
    refine ⟨trivial, _, r_isSheet y, fun z σ2 _ ⟨k1, k2⟩ => ?_⟩
    have k1 := k1.symm
    subst k1
    cases k2
    cases hy : nn y 4 with
    | none =>
      rw [hy] at hQ
      refine vnf rfl ?_
      subst hQ
      exact ⟨h, rfl⟩
    | some t =>
      rw [hy] at hQ
      obtain ⟨bt_, rfl⟩ := nn_some (by decide) hy
      refine vnt n10 ?_
      obtain ⟨g1, g2, g3, g4⟩ := h.2.2.2.2.1 s bs
      obtain ⟨u1, u2, u3, u4⟩ := h.2.2.2.2.1 t bt_
      have ecl : (nI s).toNatClampNeg = s := nI_clamp (by omega)
      have ect : (nI t).toNatClampNeg = t := nI_clamp (by omega)
      refine And.intro (nin s 4 bs (by decide)) ?_
      dsimp only at hQ
      have lost : postM (fnd 1, sfd A 1) = Q → qw_Mt qw_tw wM my_X12_finds [.ref 0, .int (nI 1)] σ Q := fun e => by
        rw [← e]
        exact mt_mono (r_finds (d := 1)) (fun r σ2 ⟨k1, k2⟩ => by rw [k1]; exact ⟨KM_fd h (by decide), k2⟩)
      cases hg : aG A s with
      | none =>
        rw [hg] at hQ g2
        refine vt (by rw [ecl, g2]; decide) ?_
        exact ⟨trivial, _, lost hQ, fun z σ2 k => k⟩
      | some z =>
        rw [hg] at hQ g1 g2 g3 g4
        have gz : z.1 < 3 ∧ z.2.1 ≤ 60 := g1
        refine vf (by rw [ecl, g2]; exact nI_pos (n := z.1) (by omega)) ?_
        refine And.intro (nin t 4 bt_ (by decide)) ?_
        dsimp only at hQ
        cases hg2 : aG A t with
        | none =>
          rw [hg2] at hQ u2
          refine vf (by rw [ect, u2]; decide) ?_
          exact ⟨trivial, _, lost hQ, fun z σ2 k => k⟩
        | some z2 =>
          rw [hg2] at hQ u1 u2 u3 u4
          have uz : z2.1 < 3 ∧ z2.2.1 ≤ 60 := u1
          refine vt (by rw [ect, u2]; exact nI_pos' (by omega)) ?_
          refine And.intro (nin s 4 bs (by decide)) ?_
          refine And.intro (nin t 4 bt_ (by decide)) ?_
          dsimp only at hQ
          by_cases qf : z.1 = z2.1
          · rw [if_pos qf] at hQ
            refine vt (by rw [ecl, ect, g2, u2]; exact congrArg nI qf) ?_
            have at111 : ¬ (hrun i n z.2.1 = true ∧ hrun j n z2.2.1 = true) → E_X12_copy Q 111 [(0, .ref 0), (1, .int (nI s)), (2, .int i), (3, .int (nI t)), (4, .int j), (5, .int n)] [] σ := fun q => by
              rw [if_neg q] at hQ
              refine ev_X12_copy [] 100 ?_
              refine ⟨trivial, _, r_finds (d := 2), fun z σ2 ⟨k1, k2⟩ => ?_⟩
              subst hQ
              rw [k1]
              exact ⟨KM_fd h (by decide), k2⟩
            by_cases qi : i < 0
            · refine vt qi ?_
              exact at111 (fun q => by rw [hrun_i (Or.inl qi)] at q; cases q.1)
            refine vf qi ?_
            by_cases qj : j < 0
            · refine vt qj ?_
              exact at111 (fun q => by rw [hrun_i (i := j) (Or.inl qj)] at q; cases q.2)
            refine vf qj ?_
            by_cases qn : n < 0
            · refine vt qn ?_
              exact at111 (fun q => by rw [hrun_i (Or.inr qn)] at q; cases q.1)
            refine vf qn ?_
            obtain ⟨a, ha, rfl⟩ := nI_of qi
            obtain ⟨b, hb, rfl⟩ := nI_of qj
            obtain ⟨m, hm, rfl⟩ := nI_of qn
            have es2 : (σ 2).1 (nI s).toNatClampNeg = nI z.2.1 := by rw [ecl]; exact g3 (fun z => by cases z)
            have et2 : (σ 2).1 (nI t).toNatClampNeg = nI z2.2.1 := by rw [ect]; exact u3 (fun z => by cases z)
            rw [hrun_n ha hm gz.2, hrun_n hb hm uz.2] at at111 hQ
            have nl : ∀ {v : Nat}, v < 2 ^ 31 → (nI v).toInt64 = lN v := fun hv => nI_l hv
            have e1 : ∀ v, v < 2 ^ 31 → ((0 : Int32) < lg_cmp ((nI v).toInt64 + (nI m).toInt64) ((σ 2).1 (nI s).toNatClampNeg).toInt64 ↔ z.2.1 < v + m) := fun v hv => by
              rw [es2, nl hv, nl hm, nl (show z.2.1 < 2 ^ 31 by omega), lN_add]
              exact (lg_cmp_gt _ _).trans (pk_lLT (by omega) (by omega))
            have e2 : ∀ v, v < 2 ^ 31 → ((0 : Int32) < lg_cmp ((nI v).toInt64 + (nI m).toInt64) ((σ 2).1 (nI t).toNatClampNeg).toInt64 ↔ z2.2.1 < v + m) := fun v hv => by
              rw [et2, nl hv, nl hm, nl (show z2.2.1 < 2 ^ 31 by omega), lN_add]
              exact (lg_cmp_gt _ _).trans (pk_lLT (by omega) (by omega))
            refine And.intro (nin s 4 bs (by decide)) ?_
            by_cases q1 : z.2.1 < a + m
            · refine vt ((e1 a ha).mpr q1) ?_
              exact at111 (fun q => absurd (of_decide_eq_true q.1) (by omega))
            refine vf (fun q => q1 ((e1 a ha).mp q)) ?_
            refine And.intro (nin t 4 bt_ (by decide)) ?_
            by_cases q2 : z2.2.1 < b + m
            · refine vf (fun q => absurd ((e2 b hb).mpr q2) (Int32.not_lt.mpr q)) ?_
              exact at111 (fun q => absurd (of_decide_eq_true q.2) (by omega))
            refine vt (Int32.not_lt.mp (fun q => q2 ((e2 b hb).mp q))) ?_
            rw [if_pos ⟨decide_eq_true (by omega), decide_eq_true (by omega)⟩, nI_clamp ha, nI_clamp hb, nI_clamp hm] at hQ
            have put : ∀ (k q : Nat) (yq : Int32) (ls : qw_L) (σ' : qw_M), q + k = m → yq = nI q → frM [3, 4] [] σ σ' → oth t σ σ' → (∀ p, p < m → (σ' 4).1 p = z.2.2 (a + p)) → (∀ p, p < z2.2.1 → (σ' 3).1 (60 * t + p) = va_cpy z.2.2 z2.2.2 a b q p) → (∀ q ∈ [(0, Value.ref 0), (1, .int (nI s)), (2, .int (nI a)), (3, .int (nI t)), (4, .int (nI b)), (5, .int (nI m)), (6, .int yq)], q ∈ ls) → E_X12_copy Q 157 ls [] σ' := by
              intro k
              induction k with
              | zero =>
                intro q yq ls σ' hq hyq hf ho h4 h3 hls
                subst hyq
                have : q = m := by omega
                subst this
                refine qw_Ev.sub (ev_X12_copy [] 100 ?_) hls
                refine vt (Int32.le_refl _) ?_
                subst hQ
                refine ⟨KM_pg h (hf.mo (by decide) (by decide)) ⟨u1, ?_, fun _ => ?_, h3⟩ ho, rfl⟩
                · rw [hf.1 1 (by decide) (by decide)]
                  exact u2
                · rw [hf.1 2 (by decide) (by decide)]
                  exact u3 (fun z => by cases z)
              | succ k ih =>
                intro q yq ls σ' hq hyq hf ho h4 h3 hls
                subst hyq
                refine qw_Ev.sub (ev_X12_copy [157] 100 ?_) hls
                refine vf (nnle m q (by omega) (by omega)) ?_
                refine And.intro (nin q 60 (by omega) (by decide)) ?_
                have ei : nI 60 * nI t + nI b + nI q = nI (60 * t + b + q) := by rw [ixm, nI_add]
                refine And.intro (pk_in (60 * t + b + q) 240 (by omega) ei) ?_
                have eic : (nI 60 * nI t + nI b + nI q).toNatClampNeg = 60 * t + b + q := by rw [ei, nI_clamp (by omega)]
                have ev : (σ' 4).1 (nI q).toNatClampNeg = z.2.2 (a + q) := by rw [nI_clamp (n := q) (by omega)]; exact h4 q (by omega)
                refine ih (q + 1) _ _ _ (by omega) (nI_add q 1) (hf.tr (frM.pi (by decide) (by decide))) (fun u hu hne => ?_) (fun p hp => by rw [pi_off (by decide)]; exact h4 p hp) (fun p hp => ?_) (sub_pre rfl)
                · obtain ⟨o1, o2, o3⟩ := ho u hu hne
                  rw [eic, pi_off (c := 1) (k := 3) (by decide), pi_off (c := 2) (k := 3) (by decide)]
                  exact ⟨o1, o2, fun i hi => by rw [pi_ne (by omega)]; exact o3 i hi⟩
                · rw [eic, ev, pi_at]
                  by_cases qp : p = b + q
                  · rw [if_pos (by omega), pk_cpy_in (by omega) (by omega)]
                    exact congrArg z.2.2 (by omega)
                  · rw [if_neg (by omega), h3 p hp]
                    by_cases qin : b ≤ p ∧ p < b + q
                    · rw [pk_cpy_in qin.1 qin.2, pk_cpy_in qin.1 (by omega)]
                    · rw [pk_cpy_out (by omega), pk_cpy_out (by omega)]
            have take : ∀ (k q : Nat) (yq : Int32) (ls : qw_L) (σ' : qw_M), q + k = m → yq = nI q → frM [4] [] σ σ' → (∀ p, p < q → (σ' 4).1 p = z.2.2 (a + p)) → (∀ q ∈ [(0, Value.ref 0), (1, .int (nI s)), (2, .int (nI a)), (3, .int (nI t)), (4, .int (nI b)), (5, .int (nI m)), (6, .int yq)], q ∈ ls) → E_X12_copy Q 120 ls [] σ' := by
              intro k
              induction k with
              | zero =>
                intro q yq ls σ' hq hyq hf h4 hls
                subst hyq
                have : q = m := by omega
                subst this
                have e3 : σ' 3 = σ 3 := hf.1 3 (by decide) (by decide)
                refine qw_Ev.sub (ev_X12_copy [157] 100 ?_) hls
                refine vt (Int32.le_refl _) ?_
                refine put q 0 _ _ _ (by omega) rfl (hf.mo (by decide) (by decide)) (fun u hu hne => ?_) h4 (fun p hp => ?_) (sub_pre rfl)
                · rw [hf.1 1 (by decide) (by decide), hf.1 2 (by decide) (by decide), e3]
                  exact ⟨rfl, rfl, fun i _ => rfl⟩
                · rw [e3, pk_cpy_out (by omega)]
                  exact u4 p hp
              | succ k ih =>
                intro q yq ls σ' hq hyq hf h4 hls
                subst hyq
                refine qw_Ev.sub (ev_X12_copy [120] 100 ?_) hls
                refine vf (nnle m q (by omega) (by omega)) ?_
                have ei : nI 60 * nI s + nI a + nI q = nI (60 * s + a + q) := by rw [ixm, nI_add]
                refine And.intro (pk_in (60 * s + a + q) 240 (by omega) ei) ?_
                refine And.intro (nin q 60 (by omega) (by decide)) ?_
                have eic : (nI 60 * nI s + nI a + nI q).toNatClampNeg = 60 * s + a + q := by rw [ei, nI_clamp (by omega)]
                refine ih (q + 1) _ _ _ (by omega) (nI_add q 1) (hf.tr (frM.pi (by decide) (by decide))) (fun p hp => ?_) (sub_pre rfl)
                rw [eic, nI_clamp (n := q) (by omega), pi_at, hf.1 3 (by decide) (by decide), show 60 * s + a + q = 60 * s + (a + q) by omega]
                by_cases qp : p = q
                · rw [if_pos qp, qp]
                  exact g4 (a + q) (show a + q < z.2.1 by omega)
                · rw [if_neg qp]
                  exact h4 p (by omega)
            exact take m 0 _ _ _ (by omega) rfl frM.rf (fun p hp => absurd hp (Nat.not_lt_zero p)) (sub_pre rfl)
          · rw [if_neg qf] at hQ
            refine vf (by rw [ecl, ect, g2, u2]; exact nne z.1 z2.1 qf (by omega) (by omega)) ?_
            refine ⟨trivial, _, r_finds (d := 4), fun z σ2 ⟨k1, k2⟩ => ?_⟩
            subst hQ
            rw [k1]
            exact ⟨KM_fd h (by decide), k2⟩
end
