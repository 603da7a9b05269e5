/-! The reference: by what was seen -/
def bac (acc : Int32) (g : Nat → Bool) (j : Nat) : Prop := ∀ i, i < 32 → bt acc i = (decide (i < j) && g i)
theorem bac_t {acc : Int32} {g : Nat → Bool} {j : Nat} (hj : j < 32) (h : bac acc g j) (hg : g j = true) : bac (acc ||| (nI 1 <<< (nI j &&& 31))) g (j + 1) := fun i hi => by
  rw [b_or, h i hi, bt_shl1 hj hi]
  by_cases q : i = j
  · subst q
    rw [hg]
    simp
  · rw [decide_eq_false q, show decide (i < j + 1) = decide (i < j) by simp; omega, Bool.or_false]
theorem bac_f {acc : Int32} {g : Nat → Bool} {j : Nat} (h : bac acc g j) (hg : g j = false) : bac (acc ||| nI 0) g (j + 1) := fun i hi => by
  rw [b_or, h i hi, b_n0, Bool.or_false]
  by_cases q : i = j
  · subst q
    rw [hg]
    simp
  · rw [show decide (i < j + 1) = decide (i < j) by simp; omega]
theorem bac_0 {g : Nat → Bool} : bac (nI 0) g 0 := fun i hi => by
  rw [b_n0]
  simp
theorem bac_end {acc : Int32} {g : Nat → Bool} {N : Nat} (h : bac acc g N) (hg : ∀ i, N ≤ i → g i = false) : acc = bI g := bI_eq (fun i hi => by
  rw [h i hi]
  by_cases q : i < N
  · rw [decide_eq_true q, Bool.true_and]
  · rw [hg i (by omega), Bool.and_false])
section
variable {σ σ' : qw_M} {T : TT} {C : CC} {P : Nat → Option Nat} {n : Nat} {a : Nat → Nat} {L m : Nat} {e : Nat → Nat}
theorem r_lightE {x : DP} {s : Nat} {go : Int32} (hT : rf σ T) (hk : mfk σ n a) (hL : mL σ L) (hd : lvs σ (tF T) s x) (hg : (σ 0).1 21 = go) (hs : s < 20) {c : Nat} (hc : c < 32) {u v : Int32} (hu : u = nI s) (hv : v = nI c) : qw_Mt qw_tw wM my_X12_lightOf [.ref 0, .int u, .int v] σ (fun r σ' => σ' = σ ∧ r = some (.int (nI (lgD T n a L s x (bt go) c)))) := by
  subst hu hv
  exact r_lightOf hT hk hL hd hg hs hc
theorem r_isSeen (hT : rf σ T) (hC : rc σ C) (hk : mfk σ n a) (hL : mL σ L) (hg : (σ 0).1 21 = nI 0) (hs : msi σ m e) : qw_Mt qw_tw wM my_X12_isSeen [.ref 0] σ (fun r σ' => frM [13, 14, 15, 16] [] σ σ' ∧ r = some (.int (nI (agr T C n a L m e (bt ((σ 0).1 20)) (tdp T) (tC T)).toNat))) := by
  generalize hu : (σ 0).1 20 = u
  have hm8 := hs.1
  generalize hgd : sok e (lgX T C (bt u) n a L (tdp T) (tC T)) = g
  have hgd' : ∀ i, g i = sok e (lgX T C (bt u) n a L (tdp T) (tC T)) i := fun i => by rw [← hgd]
  generalize hQ : (fun (r : Option Value) (σ' : qw_M) => frM [13, 14, 15, 16] [] σ σ' ∧ r = some (.int (nI (agr T C n a L m e (bt u) (tdp T) (tC T)).toNat))) = Q
  refine mt_X12_isSeen (Q := Q) rfl ?_
  have loop : ∀ (k j : Nat) (y z : Int32) (ls : qw_L) (σ' : qw_M), j + k = m → y = nI j → z = nI (allx g j).toNat → frM [13, 14, 15, 16] [] σ σ' → lvd σ' T C (bt u) → (∀ q ∈ [(0, Value.ref 0), (1, .int z), (2, .int y)], q ∈ ls) → E_X12_isSeen Q 8 ls [] σ' := by
    intro k
    induction k with
    | zero =>
      intro j y z ls σ' hj hy hz hf hd hls
      subst hy hz
      have hs' := hs.fr hf (by decide) (by decide)
      refine qw_Ev.sub (ev_X12_isSeen [] 100 ?_) hls
      refine vt (by rw [hs'.2.1]; exact nle m j (by omega) (by omega)) ?_
      have : j = m := by omega
      subst this
      subst hQ
      refine ⟨?_, hf, ?_⟩
      · cases allx g j
        · exact Or.inl rfl
        · exact Or.inr rfl
      · unfold agr
        rw [hgd]
    | succ k ih =>
      intro j y z ls σ' hj hy hz hf hd hls
      subst hy hz
      have hs' := hs.fr hf (by decide) (by decide)
      obtain ⟨e1, e2, e3, e4⟩ := hs'.2.2 j (by omega)
      have ex : allx g (j + 1) = (allx g j && g j) := rfl
      have i0 : (nI 3 * nI j).toNatClampNeg = 3 * j := mxc (by omega)
      have i1 : (nI 3 * nI j + nI 1).toNatClampNeg = 3 * j + 1 := ixc (by omega)
      have i2 : (nI 3 * nI j + nI 2).toNatClampNeg = 3 * j + 2 := ixc (by omega)
      refine qw_Ev.sub (ev_X12_isSeen [8] 100 ?_) hls
      refine vf (by rw [hs'.2.1]; exact nnle m j (by omega) (by omega)) ?_
      cases hb : allx g j with
      | false =>
        refine vt rfl ?_
        refine ih (j + 1) _ _ _ _ (by omega) (nI_add j 1) ?_ hf hd (sub_pre rfl)
        rw [ex, hb]
        rfl
      | true =>
        refine vf n10 ?_
        refine And.intro (pk_in (3 * j) 24 (by omega) (pk_mul 3 j)) ?_
        refine And.intro (pk_in (3 * j + 1) 24 (by omega) (ixm 3 j 1)) ?_
        have hs20 : e j / 256 < 20 := by omega
        have hc32 : e j / 8 % 32 < 32 := by omega
        have h21 : (σ' 0).1 21 = nI 0 := by rw [hf.2 21 (by decide)]; exact hg
        refine ⟨trivial, _, r_lightE (hT.fr hf (by decide) (by decide) (by decide)) (hk.fr hf (by decide) (by decide)) (hL.fr hf (by decide)) (hd _ hs20) h21 hs20 hc32 (by rw [i0, e2]) (by rw [i1, e3]), fun y σ2 ⟨k1, k2⟩ => ?_⟩
        cases k2
        have k1 := k1.symm
        subst k1
        refine And.intro (pk_in (3 * j + 2) 24 (by omega) (ixm 3 j 2)) ?_
        rw [nosk]
        have eg : g j = decide (lgD T n a L (e j / 256) (gos (tF T) C (bt u) (tdp T) (e j / 256 + 1)) (fun _ => false) (e j / 8 % 32) = e j % 8) := by rw [hgd']; rfl
        have l8 := lgD_lt (T := T) (n := n) (a := a) (L := L) (s := e j / 256) (x := gos (tF T) C (bt u) (tdp T) (e j / 256 + 1)) (wo := fun _ => false) (c := e j / 8 % 32)
        generalize lgD T n a L (e j / 256) (gos (tF T) C (bt u) (tdp T) (e j / 256 + 1)) (fun _ => false) (e j / 8 % 32) = lg at eg l8 ⊢
        by_cases q : lg = e j % 8
        · refine vnf (by rw [i2, e4, q]) ?_
          refine ih (j + 1) _ _ _ _ (by omega) (nI_add j 1) ?_ hf hd (sub_pre rfl)
          rw [ex, hb, eg, decide_eq_true q]
          rfl
        · refine vnt (by rw [i2, e4]; exact nne lg (e j % 8) q (by omega) (by omega)) ?_
          refine ih (j + 1) _ _ _ _ (by omega) (nI_add j 1) ?_ hf hd (sub_pre rfl)
          rw [ex, hb, eg, decide_eq_false q]
          rfl
  refine ev_X12_isSeen [8] 100 ?_
  have hl := r_lives hT hC
  rw [hu] at hl
  refine ⟨trivial, _, hl, fun σ2 ⟨k1, k2, k3⟩ => ?_⟩
  exact loop m 0 _ _ _ _ (by omega) rfl rfl k1 k2 (sub_pre rfl)
theorem r_isSeenT (h : th σ T C P n a L) (hs : msi σ m e) : qw_Mt qw_tw wM my_X12_isSeen [.ref 0] σ (fun r σ' => frM [13, 14, 15, 16] [] σ σ' ∧ r = some (.int (nI (agr T C n a L m e (fun _ => false) (tdp T) (tC T)).toNat))) := by
  have := r_isSeen h.1 h.2.1 h.2.2.2.1 h.2.2.2.2.1 h.2.2.2.2.2.2 hs
  rw [h.2.2.2.2.2.1, nosk] at this
  exact this
theorem r_neverNow (h : th σ T C P n a L) (hs : msi σ m e) : qw_Mt qw_tw wM my_X12_neverNow [.ref 0] σ (fun r σ' => frM [13, 14, 15, 16] [] σ σ' ∧ th σ' T C P n a L ∧ r = some (.int (bI (fun k => decide (k < 20) && (C k).isSome && agr T C n a L m e (fun s => decide (s = k)) (tdp T) (tC T))))) := by
  generalize hge : (fun k => decide (k < 20) && (C k).isSome && agr T C n a L m e (fun s => decide (s = k)) (tdp T) (tC T)) = g
  have hg' : ∀ k, g k = (decide (k < 20) && (C k).isSome && agr T C n a L m e (fun s => decide (s = k)) (tdp T) (tC T)) := fun k => by rw [← hge]
  generalize hQ : (fun (r : Option Value) (σ' : qw_M) => frM [13, 14, 15, 16] [] σ σ' ∧ th σ' T C P n a L ∧ r = some (.int (bI g))) = Q
  refine mt_X12_neverNow (Q := Q) rfl ?_
  have loop : ∀ (k j : Nat) (y z : Int32) (ls : qw_L) (σ' : qw_M), j + k = 20 → y = nI j → frM [13, 14, 15, 16] [20] σ σ' → bac z g j → (∀ q ∈ [(0, Value.ref 0), (1, .int z), (2, .int y)], q ∈ ls) → E_X12_neverNow Q 4 ls [] σ' := by
    intro k
    induction k with
    | zero =>
      intro j y z ls σ' hj hy hf hb hls
      subst hy
      have : j = 20 := by omega
      subst this
      refine qw_Ev.sub (ev_X12_neverNow [] 100 ?_) hls
      refine vt (Int32.le_refl _) ?_
      have hf2 : frM [13, 14, 15, 16] [20] σ (qw_pi σ' 0 20 (nI 0)) := hf.tr (frM.p0 (by decide))
      have hf3 : frM [13, 14, 15, 16] [] σ (qw_pi σ' 0 20 (nI 0)) := hf2.back (by rw [pi_eq]; exact h.2.2.2.2.2.1.symm)
      subst hQ
      refine ⟨hf3, h.lv hf3, ?_⟩
      rw [bac_end hb (fun i hi => by rw [hg' i, decide_eq_false (by omega)]; rfl)]
    | succ k ih =>
      intro j y z ls σ' hj hy hf hb hls
      subst hy
      have hf1 : frM [13, 14, 15, 16] [20] σ (qw_pi σ' 0 20 (nI 1 <<< (nI j &&& 31))) := hf.tr (frM.p0 (by decide))
      have hC' := h.2.1.fr hf1 (by decide) (by decide)
      have c1 := (hC'.2 j (by omega)).1
      refine qw_Ev.sub (ev_X12_neverNow [4] 100 ?_) hls
      refine vf (nnle 20 j (by omega) (by omega)) ?_
      refine And.intro (nin j 20 (by omega) (by decide)) ?_
      have gj : g j = ((C j).isSome && agr T C n a L m e (fun s => decide (s = j)) (tdp T) (tC T)) := by
        rw [hg', decide_eq_true (by omega), Bool.true_and]
      cases hCj : C j with
      | none =>
        refine vt (by rw [nI_clamp (by omega), c1, cuf_none hCj]) ?_
        exact ih (j + 1) _ _ _ _ (by omega) (nI_add j 1) hf1 (bac_f hb (by rw [gj, hCj]; rfl)) (sub_pre rfl)
      | some w =>
        have hw8 := (h.2.1.1 j w.1 w.2 hCj).1
        refine vf (by rw [nI_clamp (by omega), c1]; simp only [cuf, hCj]; exact nI_m1 (a := w.1) (by omega)) ?_
        have hse := r_isSeen (h.1.fr hf1 (by decide) (by decide) (by decide)) hC' (h.2.2.2.1.fr hf1 (by decide) (by decide)) (h.2.2.2.2.1.fr hf1 (by decide)) (by rw [hf1.2 21 (by decide)]; exact h.2.2.2.2.2.2) (hs.fr hf1 (by decide) (by decide))
        rw [pi_eq, bt1fun (by omega)] at hse
        refine ⟨trivial, _, hse, fun y σ2 h01 ⟨k1, k2⟩ => ?_⟩
        cases k2
        have gj2 : agr T C n a L m e (fun s => decide (s = j)) (tdp T) (tC T) = g j := by rw [gj, hCj]; rfl
        rw [gj2]
        have hf2 : frM [13, 14, 15, 16] [20] σ σ2 := hf1.tr (k1.mo (by decide) (by decide))
        cases hgb : g j with
        | true =>
          refine vf n10 ?_
          exact ih (j + 1) _ _ _ _ (by omega) (nI_add j 1) hf2 (bac_t (by omega) hb hgb) (sub_pre rfl)
        | false =>
          refine vt rfl ?_
          exact ih (j + 1) _ _ _ _ (by omega) (nI_add j 1) hf2 (bac_f hb hgb) (sub_pre rfl)
  refine ev_X12_neverNow [4] 100 ?_
  exact loop 20 0 _ _ _ _ rfl rfl frM.rf bac_0 (sub_pre rfl)
theorem setC_set {k v w : Nat} : setC (setC T k v) k w = setC T k w := by
  have u : va_up (va_up (tC T) k v) k w = va_up (tC T) k w := by
    funext g
    by_cases q : g = k
    · rw [q, up_eq, up_eq]
    · rw [up_ne q, up_ne q, up_ne q]
  show (tF T, tD T, tP T, va_up (va_up (tC T) k v) k w, tM T, tK T) = (tF T, tD T, tP T, va_up (tC T) k w, tM T, tK T)
  rw [u]
theorem setD_set {k v w : Nat} : setD (setD T k v) k w = setD T k w := by
  have u : va_up (va_up (tD T) k v) k w = va_up (tD T) k w := by
    funext g
    by_cases q : g = k
    · rw [q, up_eq, up_eq]
    · rw [up_ne q, up_ne q, up_ne q]
  show (tF T, va_up (va_up (tD T) k v) k w, tP T, tC T, tM T, tK T) = (tF T, va_up (tD T) k w, tP T, tC T, tM T, tK T)
  rw [u]
theorem setC_id {k : Nat} : setC T k (tC T k) = T := by
  show (tF T, tD T, tP T, va_up (tC T) k (tC T k), tM T, tK T) = T
  rw [up_id]
theorem setD_id {k : Nat} : setD T k (tD T k) = T := by
  show (tF T, va_up (tD T) k (tD T k), tP T, tC T, tM T, tK T) = T
  rw [up_id]
theorem r_colourBy (h : th σ T C P n a L) (hs : msi σ m e) {k : Nat} (hk : k < tF T) : qw_Mt qw_tw wM my_X12_colourBy [.ref 0, .int (nI k)] σ (fun r σ' => frM [7, 13, 14, 15, 16] [] σ σ' ∧ th σ' T C P n a L ∧ r = some (.int (bI (fun v => decide (v < 4) && agr T C n a L m e (fun _ => false) (tdp T) (va_up (tC T) k v))))) := by
  have hF := h.1.1.1
  obtain ⟨f1, f2, f3, f4, f5⟩ := h.1.2.2 k hk
  obtain ⟨o1, o2, o3, o4, o5, o6, o7⟩ := h.1.1.2 k hk
  have e2 : (nI 4 * nI k + nI 2).toNatClampNeg = 4 * k + 2 := ixc (by omega)
  generalize hge : (fun v => decide (v < 4) && agr T C n a L m e (fun _ => false) (tdp T) (va_up (tC T) k v)) = g
  have hg' : ∀ v, g v = (decide (v < 4) && agr T C n a L m e (fun _ => false) (tdp T) (va_up (tC T) k v)) := fun v => by rw [← hge]
  generalize hQ : (fun (r : Option Value) (σ' : qw_M) => frM [7, 13, 14, 15, 16] [] σ σ' ∧ th σ' T C P n a L ∧ r = some (.int (bI g))) = Q
  refine mt_X12_colourBy (Q := Q) rfl ?_
  have loop : ∀ (r j : Nat) (y z : Int32) (ls : qw_L) (σ' : qw_M), j + r = 4 → y = nI j → frM [7, 13, 14, 15, 16] [] σ σ' → (∃ v, th σ' (setC T k v) C P n a L) → bac z g j → (∀ q ∈ [(0, Value.ref 0), (1, .int (nI k)), (2, .int (nI (tC T k))), (3, .int z), (4, .int y)], q ∈ ls) → E_X12_colourBy Q 16 ls [] σ' := by
    intro r
    induction r with
    | zero =>
      intro j y z ls σ' hj hy hf ht hb hls
      subst hy
      have : j = 4 := by omega
      subst this
      obtain ⟨v, ht⟩ := ht
      refine qw_Ev.sub (ev_X12_colourBy [] 100 ?_) hls
      refine vt (Int32.le_refl _) ?_
      refine And.intro (pk_in (4 * k + 2) 32 (by omega) (ixm 4 k 2)) ?_
      have t1 := ht.put (rf_C ht.1 (k := k) o4)
      rw [setC_back] at t1
      subst hQ
      rw [e2]
      refine ⟨hf.tr (frM.pi (by decide) (by decide)), t1, ?_⟩
      rw [bac_end hb (fun i hi => by rw [hg' i, decide_eq_false (by omega)]; rfl)]
    | succ r ih =>
      intro j y z ls σ' hj hy hf ht hb hls
      subst hy
      obtain ⟨v, ht⟩ := ht
      have t1 := ht.put (rf_C ht.1 (k := k) (v := j) (by omega))
      rw [setC_set, ← e2] at t1
      have hf1 : frM [7, 13, 14, 15, 16] [] σ (qw_pi σ' 7 (nI 4 * nI k + nI 2).toNatClampNeg (nI j)) := hf.tr (frM.pi (by decide) (by decide))
      refine qw_Ev.sub (ev_X12_colourBy [16] 100 ?_) hls
      refine vf (nnle 4 j (by omega) (by omega)) ?_
      refine And.intro (pk_in (4 * k + 2) 32 (by omega) (ixm 4 k 2)) ?_
      refine ⟨trivial, _, r_isSeenT t1 (hs.fr hf1 (by decide) (by decide)), fun y σ2 h01 ⟨k1, k2⟩ => ?_⟩
      cases k2
      have gj : agr (setC T k j) C n a L m e (fun _ => false) (tdp (setC T k j)) (tC (setC T k j)) = g j := by
        rw [hg', decide_eq_true (by omega), Bool.true_and]
        rfl
      rw [gj]
      have hf2 : frM [7, 13, 14, 15, 16] [] σ σ2 := hf1.tr (k1.mo (by decide) (by decide))
      have t2 := t1.lv k1
      cases hgb : g j with
      | true =>
        refine vf n10 ?_
        exact ih (j + 1) _ _ _ _ (by omega) (nI_add j 1) hf2 ⟨_, t2⟩ (bac_t (by omega) hb hgb) (sub_pre rfl)
      | false =>
        refine vt rfl ?_
        exact ih (j + 1) _ _ _ _ (by omega) (nI_add j 1) hf2 ⟨_, t2⟩ (bac_f hb hgb) (sub_pre rfl)
  refine ev_X12_colourBy [16] 100 ?_
  refine And.intro (pk_in (4 * k + 2) 32 (by omega) (ixm 4 k 2)) ?_
  show E_X12_colourBy Q 16 [(0, .ref 0), (1, .int (nI k)), (2, .int ((σ 7).1 (nI 4 * nI k + nI 2).toNatClampNeg)), (3, .int (nI 0)), (4, .int (nI 0))] [] σ
  rw [e2, f3]
  exact loop 4 0 _ _ _ _ rfl rfl frM.rf ⟨_, by rw [setC_id]; exact h⟩ bac_0 (sub_pre rfl)
theorem r_deepOf (h : th σ T C P n a L) (hs : msi σ m e) {k : Nat} (hk : k < tF T) : qw_Mt qw_tw wM my_X12_deepOf [.ref 0, .int (nI k)] σ (fun r σ' => frM [7, 13, 14, 15, 16] [] σ σ' ∧ th σ' T C P n a L ∧ r = some (.int (bI (fun v => decide (1 ≤ v ∧ v < 9) && agr T C n a L m e (fun _ => false) (dpt T k v) (tC T))))) := by
  have hF := h.1.1.1
  obtain ⟨f1, f2, f3, f4, f5⟩ := h.1.2.2 k hk
  obtain ⟨o1, o2, o3, o4, o5, o6, o7⟩ := h.1.1.2 k hk
  have e0 : (nI 4 * nI k).toNatClampNeg = 4 * k := mxc (by omega)
  generalize hge : (fun v => decide (1 ≤ v ∧ v < 9) && agr T C n a L m e (fun _ => false) (dpt T k v) (tC T)) = g
  have hg' : ∀ v, g v = (decide (1 ≤ v ∧ v < 9) && agr T C n a L m e (fun _ => false) (dpt T k v) (tC T)) := fun v => by rw [← hge]
  generalize hQ : (fun (r : Option Value) (σ' : qw_M) => frM [7, 13, 14, 15, 16] [] σ σ' ∧ th σ' T C P n a L ∧ r = some (.int (bI g))) = Q
  refine mt_X12_deepOf (Q := Q) rfl ?_
  have loop : ∀ (r j : Nat) (y z : Int32) (ls : qw_L) (σ' : qw_M), j + r = 9 → 1 ≤ j → y = nI j → frM [7, 13, 14, 15, 16] [] σ σ' → (∃ v, th σ' (setD T k v) C P n a L) → bac z g j → (∀ q ∈ [(0, Value.ref 0), (1, .int (nI k)), (2, .int (nI (tD T k))), (3, .int z), (4, .int y)], q ∈ ls) → E_X12_deepOf Q 14 ls [] σ' := by
    intro r
    induction r with
    | zero =>
      intro j y z ls σ' hj hj1 hy hf ht hb hls
      subst hy
      have : j = 9 := by omega
      subst this
      obtain ⟨v, ht⟩ := ht
      refine qw_Ev.sub (ev_X12_deepOf [] 100 ?_) hls
      refine vt (Int32.le_refl _) ?_
      refine And.intro (pk_in (4 * k) 32 (by omega) (pk_mul 4 k)) ?_
      have t1 := ht.put (rf_D ht.1 (k := k) o1 o2)
      rw [setD_back] at t1
      subst hQ
      rw [e0]
      refine ⟨hf.tr (frM.pi (by decide) (by decide)), t1, ?_⟩
      rw [bac_end hb (fun i hi => by rw [hg' i, decide_eq_false (by omega)]; rfl)]
    | succ r ih =>
      intro j y z ls σ' hj hj1 hy hf ht hb hls
      subst hy
      obtain ⟨v, ht⟩ := ht
      have t1 := ht.put (rf_D ht.1 (k := k) (d := j) hj1 (by omega))
      rw [setD_set, ← e0] at t1
      have hf1 : frM [7, 13, 14, 15, 16] [] σ (qw_pi σ' 7 (nI 4 * nI k).toNatClampNeg (nI j)) := hf.tr (frM.pi (by decide) (by decide))
      refine qw_Ev.sub (ev_X12_deepOf [14] 100 ?_) hls
      refine vf (nnle 9 j (by omega) (by omega)) ?_
      refine And.intro (pk_in (4 * k) 32 (by omega) (pk_mul 4 k)) ?_
      refine ⟨trivial, _, r_isSeenT t1 (hs.fr hf1 (by decide) (by decide)), fun y σ2 h01 ⟨k1, k2⟩ => ?_⟩
      cases k2
      have gj : agr (setD T k j) C n a L m e (fun _ => false) (tdp (setD T k j)) (tC (setD T k j)) = g j := by
        rw [hg', decide_eq_true (by omega), Bool.true_and]
        rfl
      rw [gj]
      have hf2 : frM [7, 13, 14, 15, 16] [] σ σ2 := hf1.tr (k1.mo (by decide) (by decide))
      have t2 := t1.lv k1
      cases hgb : g j with
      | true =>
        refine vf n10 ?_
        exact ih (j + 1) _ _ _ _ (by omega) (by omega) (nI_add j 1) hf2 ⟨_, t2⟩ (bac_t (by omega) hb hgb) (sub_pre rfl)
      | false =>
        refine vt rfl ?_
        exact ih (j + 1) _ _ _ _ (by omega) (by omega) (nI_add j 1) hf2 ⟨_, t2⟩ (bac_f hb hgb) (sub_pre rfl)
  refine ev_X12_deepOf [14] 100 ?_
  refine And.intro (pk_in (4 * k) 32 (by omega) (pk_mul 4 k)) ?_
  show E_X12_deepOf Q 14 [(0, .ref 0), (1, .int (nI k)), (2, .int ((σ 7).1 (nI 4 * nI k).toNatClampNeg)), (3, .int (nI 0)), (4, .int (nI 1))] [] σ
  rw [e0, f1]
  refine loop 8 1 _ _ _ _ rfl (Nat.le_refl _) rfl frM.rf ⟨_, by rw [setD_id]; exact h⟩ (fun i hi => ?_) (sub_pre rfl)
  rw [b_n0, hg']
  by_cases q : i < 1
  · rw [decide_eq_false (p := 1 ≤ i ∧ i < 9) (by omega)]
    simp
  · rw [decide_eq_false q]
    rfl
theorem r_wasOf (h : th σ T C P n a L) (hs : msi σ m e) {k w : Nat} (hk : k < tF T) (hw : w < 2) : qw_Mt qw_tw wM my_X12_wasOf [.ref 0, .int (nI k), .int (nI w)] σ (fun r σ' => frM [7, 13, 14, 15, 16] [] σ σ' ∧ th σ' T C P n a L ∧ r = some (.int (if w = 0 then bI (fun v => decide (v < 4) && agr T C n a L m e (fun _ => false) (tdp T) (va_up (tC T) k v)) else bI (fun v => decide (1 ≤ v ∧ v < 9) && agr T C n a L m e (fun _ => false) (dpt T k v) (tC T))))) := by
  refine mt_X12_wasOf rfl (ev_X12_wasOf [] 100 ?_)
  by_cases w0 : w = 0
  · rw [if_pos w0]
    refine vnf (by rw [w0]; rfl) ?_
    exact ⟨trivial, _, r_colourBy h hs hk, fun y σ2 k1 => k1⟩
  · rw [if_neg w0]
    refine vnt (nI_ne0 (n := w) (by omega) (by omega)) ?_
    exact ⟨trivial, _, r_deepOf h hs hk, fun y σ2 k1 => k1⟩
theorem th.al {j : Nat} {x : Int32} (h : th σ T C P n a L) : th (qw_pi σ 18 j x) T C P n a L := h.fr (frM.pi (l := [18]) (fl := []) (by decide) (by decide)) (by decide) (by decide)
theorem r_askOf (h : th σ T C P n a L) (hs : msi σ m e) {k : Nat} (hk : k < tF T) {mk : Int32} (hmk : mk = bI (fun v => decide (1 ≤ v ∧ v < 9) && agr T C n a L m e (fun _ => false) (dpt T k v) (tC T))) : qw_Mt qw_tw wM my_X12_askOf [.ref 0, .int (nI k)] σ (fun r σ' => frM [7, 13, 14, 15, 16, 18] [] σ σ' ∧ th σ' T C P n a L ∧ ∃ i, amn (ask T C n a L k (bt mk)) 32 i ∧ r = some (.int (nI i))) := by
  have hF := h.1.1.1
  obtain ⟨f1, f2, f3, f4, f5⟩ := h.1.2.2 k hk
  obtain ⟨o1, o2, o3, o4, o5, o6, o7⟩ := h.1.1.2 k hk
  have e0 : (nI 4 * nI k).toNatClampNeg = 4 * k := mxc (by omega)
  generalize hty : tly T C n a L k (bt mk) = ty
  have hty' : ∀ N c v, ty (N + 1) c v = ty N c v + (bt mk (N + 1) && decide (lgX T C (fun _ => false) n a L (dpt T k (N + 1)) (tC T) 19 c = v)).toNat := fun N c v => by rw [← hty]; rfl
  have hty0 : ∀ c v, ty 0 c v = 0 := fun c v => by rw [← hty]; rfl
  have htyl : ∀ N c v, ty N c v ≤ N := fun N c v => by rw [← hty]; exact cnt_le _ _
  have hv : ∀ c, ask T C n a L k (bt mk) c = mxn (ty 8 c) 8 := fun c => by rw [← hty]; rfl
  have hvl : ∀ c N, mxn (ty 8 c) N ≤ 8 := fun c N => mxn_le (htyl 8 c) N
  generalize hva : ask T C n a L k (bt mk) = v at hv
  generalize hQ : (fun (r : Option Value) (σ' : qw_M) => frM [7, 13, 14, 15, 16, 18] [] σ σ' ∧ th σ' T C P n a L ∧ ∃ i, amn v 32 i ∧ r = some (.int (nI i))) = Q
  refine mt_X12_askOf (Q := Q) rfl ?_
  -- the best one
  have best : ∀ (r c : Nat) (y b l : Int32) (ls : qw_L) (σ' : qw_M), c + r = 32 → y = nI c → frM [7, 13, 14, 15, 16, 18] [] σ σ' → th σ' T C P n a L → (∀ c w, c < 32 → w < 8 → (σ' 18).1 (8 * c + w) = nI (ty 8 c w)) → ((c = 0 ∧ b = m1 ∧ l = nI 0) ∨ ∃ i, amn v c i ∧ b = nI i ∧ l = nI (v i)) → (∀ q ∈ [(0, Value.ref 0), (1, .int (nI k)), (2, .int mk), (3, .int (nI (tD T k))), (4, .int b), (5, .int l), (6, .int y)], q ∈ ls) → E_X12_askOf Q 136 ls [] σ' := by
    intro r
    induction r with
    | zero =>
      intro c y b l ls σ' hc hy hf ht ha hb hls
      subst hy
      have : c = 32 := by omega
      subst this
      refine qw_Ev.sub (ev_X12_askOf [] 100 ?_) hls
      refine vt (Int32.le_refl _) ?_
      rcases hb with ⟨hb, _⟩ | ⟨i, hb1, rfl, rfl⟩
      · omega
      subst hQ
      exact ⟨hf, ht, i, hb1, rfl⟩
    | succ r ih =>
      intro c y b l ls σ' hc hy hf ht ha hb hls
      subst hy
      have inner : ∀ (r2 j : Nat) (y z : Int32) (ls : qw_L), j + r2 = 8 → y = nI j → z = nI (mxn (ty 8 c) j) → (∀ q ∈ [(0, Value.ref 0), (1, .int (nI k)), (2, .int mk), (3, .int (nI (tD T k))), (4, .int b), (5, .int l), (6, .int (nI c)), (7, .int z), (8, .int y)], q ∈ ls) → E_X12_askOf Q 149 ls [] σ' := by
        intro r2
        induction r2 with
        | zero =>
          intro j y z ls hj hy hz hls
          subst hy hz
          have : j = 8 := by omega
          subst this
          have hvc := hvl c 8
          rw [← hv] at hvc
          refine qw_Ev.sub (ev_X12_askOf [136] 100 ?_) hls
          refine vt (Int32.le_refl _) ?_
          rw [← hv]
          rcases hb with ⟨rfl, rfl, rfl⟩ | ⟨i, hb1, rfl, rfl⟩
          · refine vt rfl ?_
            refine vf n10 ?_
            refine vf n10 ?_
            exact ih 1 _ _ _ _ _ (by omega) (nI_add 0 1) hf ht ha (Or.inr ⟨0, amn_0, rfl, rfl⟩) (sub_pre rfl)
          · have i32 := hb1.1
            have hvi : v i ≤ 8 := by rw [hv]; exact hvl i 8
            refine vf (nI_m1 (a := i) (by omega)) ?_
            by_cases q : v c < v i
            · refine vf (nnle (v i) (v c) q (by omega)) ?_
              refine vf n10 ?_
              refine vf n10 ?_
              exact ih (c + 1) _ _ _ _ _ (by omega) (nI_add c 1) hf ht ha (Or.inr ⟨c, amn_lt hb1 q, rfl, rfl⟩) (sub_pre rfl)
            · refine vt (nle (v i) (v c) (by omega) (by omega)) ?_
              refine vt rfl ?_
              refine vt rfl ?_
              exact ih (c + 1) _ _ _ _ _ (by omega) (nI_add c 1) hf ht ha (Or.inr ⟨i, amn_ge hb1 (by omega), rfl, rfl⟩) (sub_pre rfl)
        | succ r2 ihi =>
          intro j y z ls hj hy hz hls
          subst hy hz
          have ej : (σ' 18).1 (nI 8 * nI c + nI j).toNatClampNeg = nI (ty 8 c j) := by rw [ixc (by omega)]; exact ha c j (by omega) (by omega)
          have hml := hvl c j
          have htl := htyl 8 c j
          refine qw_Ev.sub (ev_X12_askOf [149] 100 ?_) hls
          refine vf (nnle 8 j (by omega) (by omega)) ?_
          refine And.intro (pk_in (8 * c + j) 256 (by omega) (ixm 8 c j)) ?_
          refine ⟨trivial, _, r_greaterE (z := nI (mxn (ty 8 c) (j + 1))) (by
            rw [ej]
            show _ = nI (if mxn (ty 8 c) j < ty 8 c j then ty 8 c j else mxn (ty 8 c) j)
            by_cases q : mxn (ty 8 c) j < ty 8 c j
            · rw [if_pos q, if_pos (nlt _ _ q (by omega))]
            · rw [if_neg q, if_neg (nnlt _ _ (by omega) (by omega))]), fun y σ2 ⟨k1, k2⟩ => ?_⟩
          cases k2
          have k1 := k1.symm
          subst k1
          exact ihi (j + 1) _ _ _ (by omega) (nI_add j 1) rfl (sub_pre rfl)
      refine qw_Ev.sub (ev_X12_askOf [149] 100 ?_) hls
      refine vf (nnle 32 c (by omega) (by omega)) ?_
      exact inner 8 0 _ _ _ rfl rfl rfl (sub_pre rfl)
  -- the depths
  have deps : ∀ (r j : Nat) (y : Int32) (ls : qw_L) (σ' : qw_M), j + r = 8 → y = nI (j + 1) → frM [7, 13, 14, 15, 16, 18] [] σ σ' → (∃ d, th σ' (setD T k d) C P n a L) → (∀ c w, c < 32 → w < 8 → (σ' 18).1 (8 * c + w) = nI (ty j c w)) → (∀ q ∈ [(0, Value.ref 0), (1, .int (nI k)), (2, .int mk), (3, .int (nI (tD T k))), (4, .int y)], q ∈ ls) → E_X12_askOf Q 43 ls [] σ' := by
    intro r
    induction r with
    | zero =>
      intro j y ls σ' hj hy hf ht ha hls
      subst hy
      have : j = 8 := by omega
      subst this
      obtain ⟨d, ht⟩ := ht
      refine qw_Ev.sub (ev_X12_askOf [136] 100 ?_) hls
      refine vt (Int32.le_refl _) ?_
      refine And.intro (pk_in (4 * k) 32 (by omega) (pk_mul 4 k)) ?_
      have t1 := ht.put (rf_D ht.1 (k := k) o1 o2)
      rw [setD_back, ← e0] at t1
      refine best 32 0 _ _ _ _ _ rfl rfl (hf.tr (frM.pi (by decide) (by decide))) t1 (fun c w hc hw => ?_) (Or.inl ⟨rfl, rfl, rfl⟩) (sub_pre rfl)
      rw [pi_off (by decide)]
      exact ha c w hc hw
    | succ r ih =>
      intro j y ls σ' hj hy hf ht ha hls
      subst hy
      obtain ⟨d, ht⟩ := ht
      refine qw_Ev.sub (ev_X12_askOf [43, 76] 100 ?_) hls
      refine vf (nnle 9 (j + 1) (by omega) (by omega)) ?_
      refine ⟨trivial, _, r_isInE (k := j + 1) rfl (by omega), fun y σ1 h01 ⟨k1, k2⟩ => ?_⟩
      cases k2
      have k1 := k1.symm
      subst k1
      cases hb : bt mk (j + 1) with
      | false =>
        refine vt rfl ?_
        refine ih (j + 1) _ _ _ (by omega) (nI_add (j + 1) 1) hf ⟨d, ht⟩ (fun c w hc hw => ?_) (sub_pre rfl)
        rw [ha c w hc hw, hty', hb, Bool.false_and]
        rfl
      | true =>
        refine vf n10 ?_
        refine And.intro (pk_in (4 * k) 32 (by omega) (pk_mul 4 k)) ?_
        have t1 := ht.put (rf_D ht.1 (k := k) (d := j + 1) (by omega) (by omega))
        rw [setD_set, ← e0] at t1
        have hf1 : frM [7, 13, 14, 15, 16, 18] [] σ (qw_pi σ' 7 (nI 4 * nI k).toNatClampNeg (nI (j + 1))) := hf.tr (frM.pi (by decide) (by decide))
        refine ⟨trivial, _, r_livesT t1, fun σ2 ⟨l1, l2, l3, _⟩ => ?_⟩
        have ha2 : ∀ c w, c < 32 → w < 8 → (σ2 18).1 (8 * c + w) = nI (ty j c w) := fun c w hc hw => by
          rw [l1.1 18 (by decide) (by decide), pi_off (by decide)]
          exact ha c w hc hw
        have cells : ∀ (r2 c : Nat) (y : Int32) (ls : qw_L) (σ3 : qw_M), c + r2 = 32 → y = nI c → frM [7, 13, 14, 15, 16, 18] [] σ σ3 → th σ3 (setD T k (j + 1)) C P n a L → lvd σ3 (setD T k (j + 1)) C nsk → (∀ c2 w, c2 < 32 → w < 8 → (σ3 18).1 (8 * c2 + w) = nI (if c2 < c then ty (j + 1) c2 w else ty j c2 w)) → (∀ q ∈ [(0, Value.ref 0), (1, .int (nI k)), (2, .int mk), (3, .int (nI (tD T k))), (4, .int (nI (j + 1))), (5, .int y)], q ∈ ls) → E_X12_askOf Q 76 ls [] σ3 := by
          intro r2
          induction r2 with
          | zero =>
            intro c y ls σ3 hc hy hf3 ht3 hd3 ha3 hls
            subst hy
            have : c = 32 := by omega
            subst this
            refine qw_Ev.sub (ev_X12_askOf [43] 100 ?_) hls
            refine vt (Int32.le_refl _) ?_
            refine ih (j + 1) _ _ _ (by omega) (nI_add (j + 1) 1) hf3 ⟨_, ht3⟩ (fun c w hc hw => ?_) (sub_pre rfl)
            rw [ha3 c w hc hw, if_pos hc]
          | succ r2 ihc =>
            intro c y ls σ3 hc hy hf3 ht3 hd3 ha3 hls
            subst hy
            refine qw_Ev.sub (ev_X12_askOf [76] 100 ?_) hls
            refine vf (nnle 32 c (by omega) (by omega)) ?_
            refine ⟨trivial, _, r_lightOf ht3.1 ht3.2.2.2.1 ht3.2.2.2.2.1 (hd3 19 (by decide)) ht3.2.2.2.2.2.2 (s := 19) (by decide) (c := c) (by omega), fun y σ4 ⟨m1', m2'⟩ => ?_⟩
            cases m2'
            have m1' := m1'.symm
            subst m1'
            rw [nosk]
            have l8 := lgD_lt (T := setD T k (j + 1)) (n := n) (a := a) (L := L) (s := 19) (x := gos (tF (setD T k (j + 1))) C nsk (tdp (setD T k (j + 1))) (19 + 1)) (wo := fun _ => false) (c := c)
            have eg : lgD (setD T k (j + 1)) n a L 19 (gos (tF (setD T k (j + 1))) C nsk (tdp (setD T k (j + 1))) (19 + 1)) (fun _ => false) c = lgX T C (fun _ => false) n a L (dpt T k (j + 1)) (tC T) 19 c := rfl
            have hst : ∀ w, ty (j + 1) c w = ty j c w + (decide (lgX T C (fun _ => false) n a L (dpt T k (j + 1)) (tC T) 19 c = w)).toNat := fun w => by rw [hty', hb, Bool.true_and]
            rw [← eg] at hst
            generalize lgD (setD T k (j + 1)) n a L 19 (gos (tF (setD T k (j + 1))) C nsk (tdp (setD T k (j + 1))) (19 + 1)) (fun _ => false) c = g at l8 hst ⊢
            refine And.intro (pk_in (8 * c + g) 256 (by omega) (ixm 8 c g)) ?_
            refine And.intro (pk_in (8 * c + g) 256 (by omega) (ixm 8 c g)) ?_
            have ei : (nI 8 * nI c + nI g).toNatClampNeg = 8 * c + g := ixc (by omega)
            refine ihc (c + 1) _ _ _ (by omega) (nI_add c 1) (hf3.tr (frM.pi (by decide) (by decide))) ht3.al (hd3.fr (frM.pi (l := [18]) (fl := []) (by decide) (by decide)) (by decide) (by decide)) (fun c2 w hc2 hw => ?_) (sub_pre rfl)
            rw [ei, pi_at]
            by_cases q : 8 * c2 + w = 8 * c + g
            · have q1 : c2 = c := by omega
              have q2 : w = g := by omega
              subst q1 q2
              rw [if_pos rfl, ha3 c2 w hc2 hw, if_neg (by omega), if_pos (by omega), hst, decide_eq_true rfl]
              exact nI_add _ 1
            · rw [if_neg q, ha3 c2 w hc2 hw]
              by_cases q1 : c2 = c
              · subst q1
                rw [if_neg (by omega), if_pos (by omega), hst, decide_eq_false (by omega)]
                rfl
              · by_cases q2 : c2 < c
                · rw [if_pos q2, if_pos (by omega)]
                · rw [if_neg q2, if_neg (by omega)]
        exact cells 32 0 _ _ _ rfl rfl (hf1.tr (l1.mo (by decide) (by decide))) l2 l3 (fun c w hc hw => by rw [ha2 c w hc hw, if_neg (by omega)]) (sub_pre rfl)
  -- all zero
  have zero : ∀ (r j : Nat) (y : Int32) (ls : qw_L) (σ' : qw_M), j + r = 256 → y = nI j → frM [7, 13, 14, 15, 16, 18] [] σ σ' → th σ' T C P n a L → (∀ i, i < j → (σ' 18).1 i = nI 0) → (∀ q ∈ [(0, Value.ref 0), (1, .int (nI k)), (2, .int mk), (3, .int (nI (tD T k))), (4, .int y)], q ∈ ls) → E_X12_askOf Q 18 ls [] σ' := by
    intro r
    induction r with
    | zero =>
      intro j y ls σ' hj hy hf ht ha hls
      subst hy
      have : j = 256 := by omega
      subst this
      refine qw_Ev.sub (ev_X12_askOf [43] 100 ?_) hls
      refine vt (Int32.le_refl _) ?_
      refine deps 8 0 _ _ _ rfl rfl hf ⟨_, by rw [setD_id]; exact ht⟩ (fun c w hc hw => ?_) (sub_pre rfl)
      rw [ha _ (by omega), hty0]
    | succ r ih =>
      intro j y ls σ' hj hy hf ht ha hls
      subst hy
      refine qw_Ev.sub (ev_X12_askOf [18] 100 ?_) hls
      refine vf (nnle 256 j (by omega) (by omega)) ?_
      refine And.intro (nin j 256 (by omega) (by decide)) ?_
      refine ih (j + 1) _ _ _ (by omega) (nI_add j 1) (hf.tr (frM.pi (by decide) (by decide))) ht.al (fun i hi => ?_) (sub_pre rfl)
      rw [nI_clamp (n := j) (by omega), pi_at]
      by_cases q : i = j
      · rw [if_pos q]
      · rw [if_neg q]
        exact ha i (by omega)
  refine ev_X12_askOf [18] 100 ?_
  refine ⟨trivial, _, r_deepOf h hs hk, fun y σ2 ⟨k1, k2, k3⟩ => ?_⟩
  cases k3
  rw [← hmk]
  refine And.intro (pk_in (4 * k) 32 (by omega) (pk_mul 4 k)) ?_
  have ed : (σ2 7).1 (nI 4 * nI k).toNatClampNeg = nI (tD T k) := by rw [e0]; exact (k2.1.2.2 k hk).1
  show E_X12_askOf Q 18 [(0, .ref 0), (1, .int (nI k)), (2, .int mk), (3, .int ((σ2 7).1 (nI 4 * nI k).toNatClampNeg)), (4, .int (nI 0))] [] σ2
  rw [ed]
  exact zero 256 0 _ _ _ rfl rfl (k1.mo (by decide) (by decide)) k2 (fun i hi => absurd hi (Nat.not_lt_zero i)) (sub_pre rfl)
end
