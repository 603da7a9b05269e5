/-! The reference: plans -/
theorem frM.back {l fl : List Nat} {j : Nat} {σ σ' : qw_M} (h : frM l (j :: fl) σ σ') (e : (σ' 0).1 j = (σ 0).1 j) : frM l fl σ σ' := ⟨h.1, fun q hq => by
  by_cases z : q = j
  · rw [z]
    exact e
  · exact h.2 q (fun w => by
      rcases List.mem_cons.mp w with w | w
      · exact z w
      · exact hq w)⟩
def setD (T : TT) (k d : Nat) : TT := (tF T, va_up (tD T) k d, tP T, tC T, tM T, tK T)
def setP (T : TT) (k p : Nat) : TT := (tF T, tD T, va_up (tP T) k p, tC T, tM T, tK T)
def setC (T : TT) (k q : Nat) : TT := (tF T, tD T, tP T, va_up (tC T) k q, tM T, tK T)
theorem up_back {d : Nat → Nat} {k v : Nat} : va_up (va_up d k v) k (d k) = d := by
  funext g
  by_cases q : g = k
  · rw [q, up_eq]
  · rw [up_ne q, up_ne q]
theorem setD_back {T : TT} {k v : Nat} : setD (setD T k v) k (tD T k) = T := by
  show (tF T, va_up (va_up (tD T) k v) k (tD T k), tP T, tC T, tM T, tK T) = T
  rw [up_back]
theorem setC_back {T : TT} {k v : Nat} : setC (setC T k v) k (tC T k) = T := by
  show (tF T, tD T, tP T, va_up (va_up (tC T) k v) k (tC T k), tM T, tK T) = T
  rw [up_back]
theorem setDP_back {T : TT} {k d p : Nat} : setP (setD (setDP T k d p) k (tD T k)) k (tP T k) = T := by
  show (tF T, va_up (va_up (tD T) k d) k (tD T k), va_up (va_up (tP T) k p) k (tP T k), tC T, tM T, tK T) = T
  rw [up_back, up_back]
theorem setDP_id {T : TT} {k : Nat} : setDP T k (tD T k) (tP T k) = T := by
  show (tF T, va_up (tD T) k (tD T k), va_up (tP T) k (tP T k), tC T, tM T, tK T) = T
  rw [up_id, up_id]
theorem setDP_set {T : TT} {k d p d2 p2 : Nat} : setP (setD (setDP T k d p) k d2) k p2 = setDP T k d2 p2 := by
  have u : ∀ (f : Nat → Nat) (v w : Nat), va_up (va_up f k v) k w = va_up f k w := fun f v w => by
    funext g
    by_cases q : g = k
    · rw [q, up_eq, up_eq]
    · rw [up_ne q, up_ne q, up_ne q]
  show (tF T, va_up (va_up (tD T) k d) k d2, va_up (va_up (tP T) k p) k p2, tC T, tM T, tK T) = (tF T, va_up (tD T) k d2, va_up (tP T) k p2, tC T, tM T, tK T)
  rw [u, u]
theorem rf_D {σ : qw_M} {T : TT} (h : rf σ T) {k d : Nat} (h1 : 1 ≤ d) (h8 : d ≤ 8) : rf (qw_pi σ 7 (4 * k) (nI d)) (setD T k d) := by
  obtain ⟨⟨a1, a2⟩, a3, a4⟩ := h
  refine ⟨⟨a1, fun f hf => ?_⟩, by rw [pi_off (by decide)]; exact a3, fun f hf => ?_⟩
  · obtain ⟨o1, o2, o3⟩ := a2 f hf
    show 1 ≤ va_up (tD T) k d f ∧ va_up (tD T) k d f ≤ 8 ∧ _
    by_cases q : f = k
    · rw [q, up_eq]
      exact ⟨h1, h8, q ▸ o3⟩
    · rw [up_ne q]
      exact ⟨o1, o2, o3⟩
  · obtain ⟨b1, b2, b3, b4, b5⟩ := a4 f hf
    rw [pi_off (c := 8) (k := 7) (by decide), pi_ne (q := 4 * f + 1) (by omega), pi_ne (q := 4 * f + 2) (by omega), pi_ne (q := 4 * f + 3) (by omega), pi_at]
    refine ⟨?_, b2, b3, b4, b5⟩
    show _ = nI (va_up (tD T) k d f)
    by_cases q : f = k
    · rw [q, if_pos rfl, up_eq]
    · rw [if_neg (by omega), up_ne q]
      exact b1
theorem rf_P {σ : qw_M} {T : TT} (h : rf σ T) {k p : Nat} (hp : p < 32) : rf (qw_pi σ 7 (4 * k + 1) (nI p)) (setP T k p) := by
  obtain ⟨⟨a1, a2⟩, a3, a4⟩ := h
  refine ⟨⟨a1, fun f hf => ?_⟩, by rw [pi_off (by decide)]; exact a3, fun f hf => ?_⟩
  · obtain ⟨o1, o2, o3, o4⟩ := a2 f hf
    show 1 ≤ tD T f ∧ tD T f ≤ 8 ∧ va_up (tP T) k p f < 32 ∧ _
    by_cases q : f = k
    · rw [q, up_eq]
      exact ⟨q ▸ o1, q ▸ o2, hp, q ▸ o4⟩
    · rw [up_ne q]
      exact ⟨o1, o2, o3, o4⟩
  · obtain ⟨b1, b2, b3, b4, b5⟩ := a4 f hf
    rw [pi_off (c := 8) (k := 7) (by decide), pi_ne (q := 4 * f) (by omega), pi_ne (q := 4 * f + 2) (by omega), pi_ne (q := 4 * f + 3) (by omega), pi_at]
    refine ⟨b1, ?_, b3, b4, b5⟩
    show _ = nI (va_up (tP T) k p f)
    by_cases q : f = k
    · rw [q, if_pos rfl, up_eq]
    · rw [if_neg (by omega), up_ne q]
      exact b2
theorem rf_C {σ : qw_M} {T : TT} (h : rf σ T) {k v : Nat} (hv : v < 4) : rf (qw_pi σ 7 (4 * k + 2) (nI v)) (setC T k v) := by
  obtain ⟨⟨a1, a2⟩, a3, a4⟩ := h
  refine ⟨⟨a1, fun f hf => ?_⟩, by rw [pi_off (by decide)]; exact a3, fun f hf => ?_⟩
  · obtain ⟨o1, o2, o3, o4, o5⟩ := a2 f hf
    show 1 ≤ tD T f ∧ tD T f ≤ 8 ∧ tP T f < 32 ∧ va_up (tC T) k v f < 4 ∧ _
    by_cases q : f = k
    · rw [q, up_eq]
      exact ⟨q ▸ o1, q ▸ o2, q ▸ o3, hv, q ▸ o5⟩
    · rw [up_ne q]
      exact ⟨o1, o2, o3, o4, o5⟩
  · obtain ⟨b1, b2, b3, b4, b5⟩ := a4 f hf
    rw [pi_off (c := 8) (k := 7) (by decide), pi_ne (q := 4 * f) (by omega), pi_ne (q := 4 * f + 1) (by omega), pi_ne (q := 4 * f + 3) (by omega), pi_at]
    refine ⟨b1, b2, ?_, b4, b5⟩
    show _ = nI (va_up (tC T) k v f)
    by_cases q : f = k
    · rw [q, if_pos rfl, up_eq]
    · rw [if_neg (by omega), up_ne q]
      exact b3
section
variable {σ σ' : qw_M} {T : TT} {C : CC} {P : Nat → Option Nat} {n : Nat} {a : Nat → Nat} {L : Nat}
theorem th.put {T2 : TT} {j : Nat} {x : Int32} (h : th σ T C P n a L) (h2 : rf (qw_pi σ 7 j x) T2) : th (qw_pi σ 7 j x) T2 C P n a L := by
  obtain ⟨h1, g2, g3, g4, g5, g6⟩ := h
  have hf : frM [7] [] σ (qw_pi σ 7 j x) := frM.pi (by decide) (by decide)
  exact ⟨h2, g2.fr hf (by decide) (by decide), g3.fr hf (by decide), g4.fr hf (by decide) (by decide), g5.fr hf (by decide), g6.fr hf (by decide) (by decide)⟩
/-- the best so far, and how good -/
def bst (v : Nat → Nat) (j : Nat) (b l : Int32) : Prop := (j = 0 ∧ b = m1 ∧ l = nI 99) ∨ ∃ i, amn v j i ∧ b = nI i ∧ l = nI (v i)
theorem bst_step {v : Nat → Nat} {j : Nat} {b l : Int32} (hv : ∀ i, v i ≤ 32) (h : bst v j b l) : ∃ x, l = nI x ∧ x ≤ 99 ∧ (v j < x → bst v (j + 1) (nI j) (nI (v j))) ∧ (¬ v j < x → bst v (j + 1) b (nI x)) := by
  have := hv j
  rcases h with ⟨rfl, rfl, rfl⟩ | ⟨i, h1, rfl, rfl⟩
  · exact ⟨99, rfl, Nat.le_refl _, fun _ => Or.inr ⟨0, amn_0, rfl, rfl⟩, fun z => by omega⟩
  · exact ⟨v i, rfl, by have := hv i; omega, fun z => Or.inr ⟨j, amn_lt h1 z, rfl, rfl⟩, fun z => Or.inr ⟨i, amn_ge h1 (by omega), rfl, rfl⟩⟩
theorem bst_end {v : Nat → Nat} {j : Nat} {b l : Int32} (hj : 0 < j) (h : bst v j b l) : ∃ i, amn v j i ∧ b = nI i ∧ l = nI (v i) := by
  rcases h with ⟨h, _⟩ | h
  · omega
  · exact h
theorem r_hangOf (h : th σ T C P n a L) {k s w : Nat} (hk : k < tF T) (hs : s < 20) (hw : w < 3) : qw_Mt qw_tw wM my_X12_hangOf [.ref 0, .int (nI k), .int (nI s), .int (nI w)] σ (fun r σ' => frM [7, 13, 14, 15, 16] [] σ σ' ∧ th σ' T C P n a L ∧ ∃ i, amn (hgv T C P n a L k s) 256 i ∧ r = some (.int (pick w (nI (1 + i / 32)) (nI (i % 32)) (nI (hgv T C P n a L k s i))))) := by
  have hF := h.1.1.1
  obtain ⟨f1, f2, f3, f4, f5⟩ := h.1.2.2 k hk
  obtain ⟨o1, o2, o3, o4, o5, o6, o7⟩ := h.1.1.2 k hk
  have hv : ∀ i, hgv T C P n a L k s i ≤ 32 := fun i => pfa_le _ _
  generalize hve : hgv T C P n a L k s = v at hv
  have hve' : ∀ i, v i = pfa P (lgS (setDP T k (1 + i / 32) (i % 32)) C n a L s) := fun i => by rw [← hve]; rfl
  have e0 : (nI 4 * nI k).toNatClampNeg = 4 * k := mxc (by omega)
  have e1 : (nI 4 * nI k + nI 1).toNatClampNeg = 4 * k + 1 := ixc (by omega)
  generalize hQ : (fun (r : Option Value) (σ' : qw_M) => frM [7, 13, 14, 15, 16] [] σ σ' ∧ th σ' T C P n a L ∧ ∃ i, amn v 256 i ∧ r = some (.int (pick w (nI (1 + i / 32)) (nI (i % 32)) (nI (v i))))) = Q
  refine mt_X12_hangOf (Q := Q) rfl ?_
  have loop : ∀ (m j : Nat) (y b l : Int32) (ls : qw_L) (σ' : qw_M), j + m = 256 → y = nI j → frM [7, 13, 14, 15, 16] [] σ σ' → (∃ d p, th σ' (setDP T k d p) C P n a L) → bst v j b l → (∀ q ∈ [(0, Value.ref 0), (1, .int (nI k)), (2, .int (nI s)), (3, .int (nI w)), (4, .int (nI (tD T k))), (5, .int (nI (tP T k))), (6, .int b), (7, .int l), (8, .int y)], q ∈ ls) → E_X12_hangOf Q 32 ls [] σ' := by
    intro m
    induction m with
    | zero =>
      intro j y b l ls σ' hj hy hf ht hb hls
      subst hy
      have : j = 256 := by omega
      subst this
      obtain ⟨d, p, ht⟩ := ht
      obtain ⟨i, i1, rfl, rfl⟩ := bst_end (by decide) hb
      have i256 := i1.1
      refine qw_Ev.sub (ev_X12_hangOf [] 100 ?_) hls
      refine vt (Int32.le_refl _) ?_
      refine And.intro (pk_in (4 * k) 32 (by omega) (pk_mul 4 k)) ?_
      refine And.intro (pk_in (4 * k + 1) 32 (by omega) (ixm 4 k 1)) ?_
      have fin : th (qw_pi (qw_pi σ' 7 (nI 4 * nI k).toNatClampNeg (nI (tD T k))) 7 (nI 4 * nI k + nI 1).toNatClampNeg (nI (tP T k))) T C P n a L := by
        rw [e0, e1]
        have t1 := ht.put (rf_D ht.1 (k := k) o1 o2)
        have t2 := t1.put (rf_P t1.1 (k := k) o3)
        rw [setDP_back] at t2
        exact t2
      have ff : frM [7, 13, 14, 15, 16] [] σ (qw_pi (qw_pi σ' 7 (nI 4 * nI k).toNatClampNeg (nI (tD T k))) 7 (nI 4 * nI k + nI 1).toNatClampNeg (nI (tP T k))) := hf.tr ((frM.pi (by decide) (by decide)).tr (frM.pi (by decide) (by decide)))
      by_cases w0 : w = 0
      · refine vnf (by rw [w0]; rfl) ?_
        refine And.intro (by decide) ?_
        subst hQ
        refine ⟨ff, fin, i, i1, ?_⟩
        rw [w0]
        show some (Value.int (nI 1 + nI i / nI 32)) = some (.int (nI (1 + i / 32)))
        rw [pk_div (by omega) (by decide) (by decide), nI_add]
      · refine vnt (nI_ne0 (n := w) (by omega) (by omega)) ?_
        by_cases w1 : w = 1
        · refine vnf (by rw [w1]) ?_
          refine And.intro (by decide) ?_
          subst hQ
          refine ⟨ff, fin, i, i1, ?_⟩
          rw [w1]
          show some (Value.int (nI i - nI i / nI 32 * nI 32)) = some (.int (nI (i % 32)))
          rw [pk_rem (by omega) (by decide) (by decide)]
        · refine vnt (nne w 1 w1 (by omega) (by decide)) ?_
          subst hQ
          refine ⟨ff, fin, i, i1, ?_⟩
          unfold pick
          rw [if_neg w0, if_neg w1]
    | succ m ih =>
      intro j y b l ls σ' hj hy hf ht hb hls
      subst hy
      obtain ⟨d, p, ht⟩ := ht
      obtain ⟨x, rfl, x99, b1, b2⟩ := bst_step hv hb
      have hvj := hv j
      refine qw_Ev.sub (ev_X12_hangOf [32] 100 ?_) hls
      refine vf (nnle 256 j (by omega) (by omega)) ?_
      refine And.intro (by decide) ?_
      refine And.intro (pk_in (4 * k) 32 (by omega) (pk_mul 4 k)) ?_
      refine And.intro (by decide) ?_
      refine And.intro (pk_in (4 * k + 1) 32 (by omega) (ixm 4 k 1)) ?_
      have ed : nI 1 + nI j / nI 32 = nI (1 + j / 32) := by rw [pk_div (by omega) (by decide) (by decide), nI_add]
      have em : nI j - nI j / nI 32 * nI 32 = nI (j % 32) := pk_rem (by omega) (by decide) (by decide)
      have ht2 : th (qw_pi (qw_pi σ' 7 (nI 4 * nI k).toNatClampNeg (nI 1 + nI j / nI 32)) 7 (nI 4 * nI k + nI 1).toNatClampNeg (nI j - nI j / nI 32 * nI 32)) (setDP T k (1 + j / 32) (j % 32)) C P n a L := by
        rw [e0, e1, ed, em]
        have t1 := ht.put (rf_D ht.1 (k := k) (d := 1 + j / 32) (by omega) (by omega))
        have t2 := t1.put (rf_P t1.1 (k := k) (p := j % 32) (by omega))
        rw [setDP_set] at t2
        exact t2
      have hf2 : frM [7, 13, 14, 15, 16] [] σ (qw_pi (qw_pi σ' 7 (nI 4 * nI k).toNatClampNeg (nI 1 + nI j / nI 32)) 7 (nI 4 * nI k + nI 1).toNatClampNeg (nI j - nI j / nI 32 * nI 32)) := hf.tr ((frM.pi (by decide) (by decide)).tr (frM.pi (by decide) (by decide)))
      refine ⟨trivial, _, r_livesT ht2, fun σ3 ⟨k1, k2, k3, _⟩ => ?_⟩
      refine ⟨trivial, _, r_falseOf k2.1 k2.2.2.1 k2.2.2.2.1 k2.2.2.2.2.1 (k3 s hs) k2.2.2.2.2.2.2 hs, fun z σ4 ⟨l1, l2⟩ => ?_⟩
      cases l2
      have l1 := l1.symm
      subst l1
      rw [nosk]
      have ev : pfa P (lgD (setDP T k (1 + j / 32) (j % 32)) n a L s (gos (tF (setDP T k (1 + j / 32) (j % 32))) C nsk (tdp (setDP T k (1 + j / 32) (j % 32))) (s + 1)) (fun _ => false)) = v j := (hve' j).symm
      rw [ev]
      have hf3 : frM [7, 13, 14, 15, 16] [] σ σ3 := hf2.tr (k1.mo (by decide) (by decide))
      by_cases q : v j < x
      · refine vf (nnle x (v j) q (by omega)) ?_
        refine ⟨trivial, _, r_lesserE (a := v j) (b := x) rfl rfl (by omega) (by omega) (if_pos q), fun z σ4 ⟨l1, l2⟩ => ?_⟩
        cases l2
        have l1 := l1.symm
        subst l1
        exact ih (j + 1) _ _ _ _ _ (by omega) (nI_add j 1) hf3 ⟨_, _, k2⟩ (b1 q) (sub_pre rfl)
      · refine vt (nle x (v j) (by omega) (by omega)) ?_
        refine ⟨trivial, _, r_lesserE (a := v j) (b := x) rfl rfl (by omega) (by omega) (if_neg q), fun z σ4 ⟨l1, l2⟩ => ?_⟩
        cases l2
        have l1 := l1.symm
        subst l1
        exact ih (j + 1) _ _ _ _ _ (by omega) (nI_add j 1) hf3 ⟨_, _, k2⟩ (b2 q) (sub_pre rfl)
  refine ev_X12_hangOf [32] 100 ?_
  refine And.intro (pk_in (4 * k) 32 (by omega) (pk_mul 4 k)) ?_
  refine And.intro (pk_in (4 * k + 1) 32 (by omega) (ixm 4 k 1)) ?_
  show E_X12_hangOf Q 32 [(0, .ref 0), (1, .int (nI k)), (2, .int (nI s)), (3, .int (nI w)), (4, .int ((σ 7).1 (nI 4 * nI k).toNatClampNeg)), (5, .int ((σ 7).1 (nI 4 * nI k + nI 1).toNatClampNeg)), (6, .int m1), (7, .int (nI 99)), (8, .int (nI 0))] [] σ
  rw [e0, e1, f1, f2]
  exact loop 256 0 _ _ _ _ _ rfl rfl frM.rf ⟨_, _, by rw [setDP_id]; exact h⟩ (Or.inl ⟨rfl, rfl, rfl⟩) (sub_pre rfl)
theorem r_shiftOf (h : th σ T C P n a L) {s w : Nat} (hs : s < 20) (hw : w < 2) : qw_Mt qw_tw wM my_X12_shiftOf [.ref 0, .int (nI s), .int (nI w)] σ (fun r σ' => frM [13, 14, 15, 16] [] σ σ' ∧ th σ' T C P n a L ∧ ∃ i, amn (sfv T C P n a s) 32 i ∧ r = some (.int (pick w (nI i) (nI (sfv T C P n a s i)) m1))) := by
  have hv : ∀ i, sfv T C P n a s i ≤ 32 := fun i => pfa_le _ _
  generalize hve : sfv T C P n a s = v at hv
  have hve' : ∀ i, v i = pfa P (lgS T C n a i s) := fun i => by rw [← hve]; rfl
  generalize hQ : (fun (r : Option Value) (σ' : qw_M) => frM [13, 14, 15, 16] [] σ σ' ∧ th σ' T C P n a L ∧ ∃ i, amn v 32 i ∧ r = some (.int (pick w (nI i) (nI (v i)) m1))) = Q
  refine mt_X12_shiftOf (Q := Q) rfl ?_
  have loop : ∀ (m j : Nat) (y b l : Int32) (ls : qw_L) (σ' : qw_M), j + m = 32 → y = nI j → frM [13, 14, 15, 16] [13] σ σ' → lvd σ' T C nsk → bst v j b l → (∀ q ∈ [(0, Value.ref 0), (1, .int (nI s)), (2, .int (nI w)), (3, .int (nI L)), (4, .int b), (5, .int l), (6, .int y)], q ∈ ls) → E_X12_shiftOf Q 19 ls [] σ' := by
    intro m
    induction m with
    | zero =>
      intro j y b l ls σ' hj hy hf hd hb hls
      subst hy
      have : j = 32 := by omega
      subst this
      obtain ⟨i, i1, rfl, rfl⟩ := bst_end (by decide) hb
      refine qw_Ev.sub (ev_X12_shiftOf [] 100 ?_) hls
      refine vt (Int32.le_refl _) ?_
      have hf2 : frM [13, 14, 15, 16] [13] σ (qw_pi σ' 0 13 (nI L)) := hf.tr (frM.p0 (by decide))
      have hf3 : frM [13, 14, 15, 16] [] σ (qw_pi σ' 0 13 (nI L)) := hf2.back (by rw [pi_eq]; exact h.2.2.2.2.1.2.symm)
      by_cases w0 : w = 0
      · refine vnf (by rw [w0]; rfl) ?_
        subst hQ
        refine ⟨hf3, h.lv hf3, i, i1, ?_⟩
        rw [w0]
        rfl
      · refine vnt (nI_ne0 (n := w) (by omega) (by omega)) ?_
        subst hQ
        refine ⟨hf3, h.lv hf3, i, i1, ?_⟩
        rw [show w = 1 by omega]
        rfl
    | succ m ih =>
      intro j y b l ls σ' hj hy hf hd hb hls
      subst hy
      obtain ⟨x, rfl, x99, b1, b2⟩ := bst_step hv hb
      have hvj := hv j
      refine qw_Ev.sub (ev_X12_shiftOf [19] 100 ?_) hls
      refine vf (nnle 32 j (by omega) (by omega)) ?_
      have hf1 : frM [13, 14, 15, 16] [13] σ (qw_pi σ' 0 13 (nI j)) := hf.tr (frM.p0 (by decide))
      have hd1 : lvd (qw_pi σ' 0 13 (nI j)) T C nsk := hd.fr (frM.p0 (l := []) (fl := [13]) (by decide)) (by decide) (by decide)
      obtain ⟨h1, h2, h3, h4, h5, h6⟩ := h
      refine ⟨trivial, _, r_falseOf (L := j) (h1.fr hf1 (by decide) (by decide) (by decide)) (h3.fr hf1 (by decide)) (h4.fr hf1 (by decide) (by decide)) ⟨by omega, pi_eq⟩ (hd1 s hs) (h6.fr hf1 (by decide) (by decide)).2 hs, fun z σ4 ⟨l1, l2⟩ => ?_⟩
      cases l2
      have l1 := l1.symm
      subst l1
      rw [nosk]
      have ev : pfa P (lgD T n a j s (gos (tF T) C nsk (tdp T) (s + 1)) (fun _ => false)) = v j := (hve' j).symm
      rw [ev]
      by_cases q : v j < x
      · refine vf (nnle x (v j) q (by omega)) ?_
        refine ⟨trivial, _, r_lesserE (a := v j) (b := x) rfl rfl (by omega) (by omega) (if_pos q), fun z σ4 ⟨l1, l2⟩ => ?_⟩
        cases l2
        have l1 := l1.symm
        subst l1
        exact ih (j + 1) _ _ _ _ _ (by omega) (nI_add j 1) hf1 hd1 (b1 q) (sub_pre rfl)
      · refine vt (nle x (v j) (by omega) (by omega)) ?_
        refine ⟨trivial, _, r_lesserE (a := v j) (b := x) rfl rfl (by omega) (by omega) (if_neg q), fun z σ4 ⟨l1, l2⟩ => ?_⟩
        cases l2
        have l1 := l1.symm
        subst l1
        exact ih (j + 1) _ _ _ _ _ (by omega) (nI_add j 1) hf1 hd1 (b2 q) (sub_pre rfl)
  refine ev_X12_shiftOf [19] 100 ?_
  refine ⟨trivial, _, r_livesT h, fun σ3 ⟨k1, k2, k3, _⟩ => ?_⟩
  show E_X12_shiftOf Q 19 [(0, .ref 0), (1, .int (nI s)), (2, .int (nI w)), (3, .int ((σ 0).1 13)), (4, .int m1), (5, .int (nI 99)), (6, .int (nI 0))] [] σ3
  rw [h.2.2.2.2.1.2]
  exact loop 32 0 _ _ _ _ _ rfl rfl (k1.mo (by decide) (by decide)) k3 (Or.inl ⟨rfl, rfl, rfl⟩) (sub_pre rfl)
/-- a cue more, or none -/
def oc (A : Option Nat) : Option (Nat × Nat) := A.map (fun k => (k / 4, k % 4))
theorem r_isShownBy (h : th σ T C P n a L) {A B : Option Nat} (hA : ∀ k, A = some k → k < 4 * tF T) (hB : ∀ k, B = some k → k < 4 * tF T) : qw_Mt qw_tw wM my_X12_isShownBy [.ref 0, .int (obi A), .int (obi B)] σ (fun r σ' => frM [13, 14, 15, 16] [] σ σ' ∧ th σ' T C P n a L ∧ r = some (.int (nI (psh P (lgD T n a L 19 (stp (tF T) (oc B) (stp (tF T) (oc A) (ps T C 19))) nsk)).toNat))) := by
  have hF := h.1.1.1
  generalize hQ : (fun (r : Option Value) (σ' : qw_M) => frM [13, 14, 15, 16] [] σ σ' ∧ th σ' T C P n a L ∧ r = some (.int (nI (psh P (lgD T n a L 19 (stp (tF T) (oc B) (stp (tF T) (oc A) (ps T C 19))) nsk)).toNat))) = Q
  refine mt_X12_isShownBy (Q := Q) rfl ?_
  have at34 : ∀ (ls : qw_L) (σ' : qw_M), frM [13, 14, 15, 16] [] σ σ' → dp σ' (tF T) (stp (tF T) (oc B) (stp (tF T) (oc A) (ps T C 19))) → (∀ q ∈ [(0, Value.ref 0)], q ∈ ls) → E_X12_isShownBy Q 34 ls [] σ' := fun ls σ' hf hd hls => by
    have h' := h.lv hf
    refine qw_Ev.sub (ev_X12_isShownBy [] 100 ?_) hls
    refine ⟨trivial, _, r_keeps h'.1.2.1 hF hd (s := 19) (by decide), fun σ3 ⟨k1, k2, k3⟩ => ?_⟩
    have hf3 : frM [13, 14, 15, 16] [] σ σ3 := hf.tr (k1.mo (by decide) (by decide))
    have h3 := h.lv hf3
    refine ⟨trivial, _, r_isShown h3.1 h3.2.2.1 h3.2.2.2.1 h3.2.2.2.2.1 k2 h3.2.2.2.2.2.2 (s := 19) (by decide), fun z σ4 h01 ⟨l1, l2⟩ => ?_⟩
    cases l2
    have l1 := l1.symm
    subst l1
    subst hQ
    refine ⟨h01, hf3, h3, ?_⟩
    rw [nosk]
  have at19 : ∀ (ls : qw_L) (σ' : qw_M), frM [13, 14, 15, 16] [] σ σ' → dp σ' (tF T) (stp (tF T) (oc A) (ps T C 19)) → (∀ q ∈ [(0, Value.ref 0), (1, .int (obi A)), (2, .int (obi B))], q ∈ ls) → E_X12_isShownBy Q 19 ls [] σ' := fun ls σ' hf hd hls => by
    refine qw_Ev.sub (ev_X12_isShownBy [34] 100 ?_) hls
    cases B with
    | none =>
      refine vt rfl ?_
      exact at34 _ _ hf hd (sub_pre rfl)
    | some k =>
      have hk := hB k rfl
      refine vf (nI_m1 (a := k) (by omega)) ?_
      refine And.intro (by decide) ?_
      refine And.intro (by decide) ?_
      refine ⟨trivial, _, r_goes hF hd (k := k / 4) (w := k % 4) (pk_div (by omega) (by decide) (by decide)) (pk_rem (by omega) (by decide) (by decide)) (by omega) (by omega), fun σ3 ⟨k1, k2⟩ => ?_⟩
      exact at34 _ _ (hf.tr (frMdp k1)) k2 (sub_pre rfl)
  refine ev_X12_isShownBy [19] 100 ?_
  refine ⟨trivial, _, r_livesT h, fun σ3 ⟨k1, k2, k3, k4⟩ => ?_⟩
  have hd : dp σ3 (tF T) (ps T C 19) := k4
  cases A with
  | none =>
    refine vt rfl ?_
    exact at19 _ _ k1 hd (sub_pre rfl)
  | some k =>
    have hk := hA k rfl
    refine vf (nI_m1 (a := k) (by omega)) ?_
    refine And.intro (by decide) ?_
    refine And.intro (by decide) ?_
    refine ⟨trivial, _, r_goes hF hd (k := k / 4) (w := k % 4) (pk_div (by omega) (by decide) (by decide)) (pk_rem (by omega) (by decide) (by decide)) (by omega) (by omega), fun σ4 ⟨l1, l2⟩ => ?_⟩
    exact at19 _ _ (k1.tr (frMdp l1)) l2 (sub_pre rfl)
theorem dn_m {i : Nat} (hi : i < 3) : dn i = m1 ↔ i = 0 := by
  match i, hi with
  | 0, _ => exact ⟨fun _ => rfl, fun _ => rfl⟩
  | 1, _ => exact ⟨fun h => absurd h (by decide), fun h => absurd h (by decide)⟩
  | 2, _ => exact ⟨fun h => absurd h (by decide), fun h => absurd h (by decide)⟩
theorem dn_z {i : Nat} (hi : i < 3) : dn i = 0 ↔ i = 1 := by
  match i, hi with
  | 0, _ => exact ⟨fun h => absurd h (by decide), fun h => absurd h (by decide)⟩
  | 1, _ => exact ⟨fun _ => rfl, fun _ => rfl⟩
  | 2, _ => exact ⟨fun h => absurd h (by decide), fun h => absurd h (by decide)⟩
theorem r_moreOf (h : th σ T C P n a L) {i : Nat} (hi : i < 3) : qw_Mt qw_tw wM my_X12_moreOf [.ref 0, .int (dn i)] σ (fun r σ' => frM [13, 14, 15, 16] [] σ σ' ∧ th σ' T C P n a L ∧ ∃ x, r = some (.int x) ∧ pkR (psh P (lgS T C n a L 19)) (4 * tF T) (mo1 T C P n a L) (mo2 T C P n a L) (fun _ => 0) i x) := by
  have hF := h.1.1.1
  have e4 : nI 4 * nI (tF T) = nI (4 * tF T) := pk_mul 4 _
  have t0 : ∀ {σ : qw_M}, th σ T C P n a L → qw_Mt qw_tw wM my_X12_isShownBy [.ref 0, .int m1, .int m1] σ (fun r σ' => frM [13, 14, 15, 16] [] σ σ' ∧ th σ' T C P n a L ∧ r = some (.int (nI (psh P (lgS T C n a L 19)).toNat))) := fun h => r_isShownBy h (A := none) (B := none) (fun k z => by cases z) (fun k z => by cases z)
  have t1 : ∀ {σ : qw_M} (A : Nat), A < 4 * tF T → th σ T C P n a L → qw_Mt qw_tw wM my_X12_isShownBy [.ref 0, .int (nI A), .int m1] σ (fun r σ' => frM [13, 14, 15, 16] [] σ σ' ∧ th σ' T C P n a L ∧ r = some (.int (nI (mo1 T C P n a L A).toNat))) := fun A hA h => r_isShownBy h (A := some A) (B := none) (fun k z => by cases z; exact hA) (fun k z => by cases z)
  have t2 : ∀ {σ : qw_M} (A B : Nat), A < 4 * tF T → B < 4 * tF T → th σ T C P n a L → qw_Mt qw_tw wM my_X12_isShownBy [.ref 0, .int (nI A), .int (nI B)] σ (fun r σ' => frM [13, 14, 15, 16] [] σ σ' ∧ th σ' T C P n a L ∧ r = some (.int (nI (mo2 T C P n a L A B).toNat))) := fun A B hA hB h => r_isShownBy h (A := some A) (B := some B) (fun k z => by cases z; exact hA) (fun k z => by cases z; exact hB)
  generalize psh P (lgS T C n a L 19) = z at t0
  generalize mo1 T C P n a L = g1 at t1
  generalize mo2 T C P n a L = g2 at t2
  generalize hQ : (fun (r : Option Value) (σ' : qw_M) => frM [13, 14, 15, 16] [] σ σ' ∧ th σ' T C P n a L ∧ ∃ x, r = some (.int x) ∧ pkR z (4 * tF T) g1 g2 (fun _ => 0) i x) = Q
  refine mt_X12_moreOf (Q := Q) rfl ?_
  have loopA : z = false → (∀ A, A < 4 * tF T → g1 A = false) → ∀ (m A : Nat) (y : Int32) (ls : qw_L) (σ' : qw_M), A + m = 4 * tF T → y = nI A → frM [13, 14, 15, 16] [] σ σ' → (∀ A2 B2, A2 < A → B2 < 4 * tF T → g2 A2 B2 = false) → (∀ q ∈ [(0, Value.ref 0), (1, .int (dn i)), (2, .int y)], q ∈ ls) → E_X12_moreOf Q 68 ls [] σ' := by
    intro hz hg1 m
    induction m with
    | zero =>
      intro A y ls σ' hA hy hf hno hls
      subst hy
      have h' := h.lv hf
      refine qw_Ev.sub (ev_X12_moreOf [] 100 ?_) hls
      refine vt (by rw [h'.1.2.1, e4]; exact nle (4 * tF T) A (by omega) (by omega)) ?_
      subst hQ
      refine ⟨hf, h', _, rfl, m1, m1, m1, Or.inr (Or.inr (Or.inr ⟨hz, hg1, fun A2 B2 a1 _ a2 => hno A2 B2 (by omega) a2, rfl, rfl, rfl⟩)), ?_⟩
      unfold pick
      split
      · rfl
      · split <;> rfl
    | succ m ih =>
      intro A y ls σ' hA hy hf hno hls
      subst hy
      have loopB : ∀ (m2 B : Nat) (y : Int32) (ls : qw_L) (σ' : qw_M), B + m2 = 4 * tF T → y = nI B → frM [13, 14, 15, 16] [] σ σ' → (∀ B2, B2 < B → g2 A B2 = false) → (∀ q ∈ [(0, Value.ref 0), (1, .int (dn i)), (2, .int (nI A)), (3, .int y)], q ∈ ls) → E_X12_moreOf Q 80 ls [] σ' := by
        intro m2
        induction m2 with
        | zero =>
          intro B y ls σ' hB hy hf hnb hls
          subst hy
          have h' := h.lv hf
          refine qw_Ev.sub (ev_X12_moreOf [68] 100 ?_) hls
          refine vt (by rw [h'.1.2.1, e4]; exact nle (4 * tF T) B (by omega) (by omega)) ?_
          refine ih (A + 1) _ _ _ (by omega) (nI_add A 1) hf (fun A2 B2 a1 a2 => ?_) (sub_pre rfl)
          by_cases q : A2 = A
          · rw [q]
            exact hnb B2 (by omega)
          · exact hno A2 B2 (by omega) a2
        | succ m2 ihb =>
          intro B y ls σ' hB hy hf hnb hls
          subst hy
          have h' := h.lv hf
          refine qw_Ev.sub (ev_X12_moreOf [80] 100 ?_) hls
          refine vf (by rw [h'.1.2.1, e4]; exact nnle (4 * tF T) B (by omega) (by omega)) ?_
          refine ⟨trivial, _, t2 A B (by omega) (by omega) h', fun y σ2 h01 ⟨k1, k2, k3⟩ => ?_⟩
          cases k3
          cases hb : g2 A B with
          | false =>
            refine vt rfl ?_
            refine ihb (B + 1) _ _ _ (by omega) (nI_add B 1) (hf.tr k1) (fun B2 b1 => ?_) (sub_pre rfl)
            by_cases q : B2 = B
            · rw [q]
              exact hb
            · exact hnb B2 (by omega)
          | true =>
            refine vf n10 ?_
            have key : ∀ x, x = pick i (nI 2) (nI A) (nI B) → pkR z (4 * tF T) g1 g2 (fun _ => 0) i x := fun x hx => ⟨_, _, _, Or.inr (Or.inr (Or.inl ⟨hz, hg1, A, B, by omega, Nat.zero_le _, by omega, hb, fun A2 B2 a1 _ a2 a3 => by
              rcases a3 with a3 | ⟨rfl, a3⟩
              · exact hno A2 B2 a3 a2
              · exact hnb B2 a3, rfl, rfl, rfl⟩)), hx⟩
            by_cases i0 : i = 0
            · refine vnf ((dn_m hi).mpr i0) ?_
              subst hQ
              exact ⟨hf.tr k1, k2, _, rfl, key _ (by rw [i0]; rfl)⟩
            · refine vnt (fun q => i0 ((dn_m hi).mp q)) ?_
              by_cases i1 : i = 1
              · refine vnf ((dn_z hi).mpr i1) ?_
                subst hQ
                exact ⟨hf.tr k1, k2, _, rfl, key _ (by rw [i1]; rfl)⟩
              · refine vnt (fun q => i1 ((dn_z hi).mp q)) ?_
                subst hQ
                exact ⟨hf.tr k1, k2, _, rfl, key _ (by unfold pick; rw [if_neg i0, if_neg i1])⟩
      have h' := h.lv hf
      refine qw_Ev.sub (ev_X12_moreOf [80] 100 ?_) hls
      refine vf (by rw [h'.1.2.1, e4]; exact nnle (4 * tF T) A (by omega) (by omega)) ?_
      exact loopB (4 * tF T) 0 _ _ _ (by omega) rfl hf (fun B2 b1 => absurd b1 (Nat.not_lt_zero _)) (sub_pre rfl)
  have loop1 : z = false → ∀ (m A : Nat) (y : Int32) (ls : qw_L) (σ' : qw_M), A + m = 4 * tF T → y = nI A → frM [13, 14, 15, 16] [] σ σ' → (∀ A2, A2 < A → g1 A2 = false) → (∀ q ∈ [(0, Value.ref 0), (1, .int (dn i)), (2, .int y)], q ∈ ls) → E_X12_moreOf Q 22 ls [] σ' := by
    intro hz m
    induction m with
    | zero =>
      intro A y ls σ' hA hy hf hno hls
      subst hy
      have h' := h.lv hf
      refine qw_Ev.sub (ev_X12_moreOf [68] 100 ?_) hls
      refine vt (by rw [h'.1.2.1, e4]; exact nle (4 * tF T) A (by omega) (by omega)) ?_
      exact loopA hz (fun A2 a1 => hno A2 (by omega)) (4 * tF T) 0 _ _ _ (by omega) rfl hf (fun A2 B2 a1 => absurd a1 (Nat.not_lt_zero _)) (sub_pre rfl)
    | succ m ih =>
      intro A y ls σ' hA hy hf hno hls
      subst hy
      have h' := h.lv hf
      refine qw_Ev.sub (ev_X12_moreOf [22] 100 ?_) hls
      refine vf (by rw [h'.1.2.1, e4]; exact nnle (4 * tF T) A (by omega) (by omega)) ?_
      refine ⟨trivial, _, t1 A (by omega) h', fun y σ2 h01 ⟨k1, k2, k3⟩ => ?_⟩
      cases k3
      cases hb : g1 A with
      | false =>
        refine vt rfl ?_
        refine ih (A + 1) _ _ _ (by omega) (nI_add A 1) (hf.tr k1) (fun A2 b1 => ?_) (sub_pre rfl)
        by_cases q : A2 = A
        · rw [q]
          exact hb
        · exact hno A2 (by omega)
      | true =>
        refine vf n10 ?_
        have key : ∀ x, x = pick i (nI 1) (nI A) m1 → pkR z (4 * tF T) g1 g2 (fun _ => 0) i x := fun x hx => ⟨_, _, _, Or.inr (Or.inl ⟨hz, A, by omega, hb, hno, rfl, rfl, rfl⟩), hx⟩
        by_cases i0 : i = 0
        · refine vnf ((dn_m hi).mpr i0) ?_
          subst hQ
          exact ⟨hf.tr k1, k2, _, rfl, key _ (by rw [i0]; rfl)⟩
        · refine vnt (fun q => i0 ((dn_m hi).mp q)) ?_
          by_cases i1 : i = 1
          · refine vnf ((dn_z hi).mpr i1) ?_
            subst hQ
            exact ⟨hf.tr k1, k2, _, rfl, key _ (by rw [i1]; rfl)⟩
          · refine vnt (fun q => i1 ((dn_z hi).mp q)) ?_
            subst hQ
            exact ⟨hf.tr k1, k2, _, rfl, key _ (by unfold pick; rw [if_neg i0, if_neg i1])⟩
  refine ev_X12_moreOf [22] 100 ?_
  refine ⟨trivial, _, t0 h, fun y σ2 h01 ⟨k1, k2, k3⟩ => ?_⟩
  cases k3
  cases hz : z with
  | false =>
    refine vt rfl ?_
    exact loop1 hz (4 * tF T) 0 _ _ _ (by omega) rfl k1 (fun A2 b1 => absurd b1 (Nat.not_lt_zero _)) (sub_pre rfl)
  | true =>
    refine vf n10 ?_
    have key : ∀ x, x = pick i (nI 0) m1 m1 → pkR z (4 * tF T) g1 g2 (fun _ => 0) i x := fun x hx => ⟨_, _, _, Or.inl ⟨hz, rfl, rfl, rfl⟩, hx⟩
    by_cases i0 : i = 0
    · refine vnf ((dn_m hi).mpr i0) ?_
      subst hQ
      exact ⟨k1, k2, _, rfl, key _ (by rw [i0]; rfl)⟩
    · refine vnt (fun q => i0 ((dn_m hi).mp q)) ?_
      subst hQ
      refine ⟨k1, k2, _, rfl, key _ ?_⟩
      unfold pick
      rw [if_neg i0]
      split <;> rfl
theorem r_isShownWithout (h : th σ T C P n a L) {x : DP} {s : Nat} (hd : lvs σ (tF T) s x) (hs : s < 20) (wo : Int32) : qw_Mt qw_tw wM my_X12_isShownWithout [.ref 0, .int (nI s), .int wo] σ (fun r σ' => frM [] [] σ σ' ∧ r = some (.int (nI (psh P (lgD T n a L s x (bt wo))).toNat))) := by
  refine mt_X12_isShownWithout rfl (ev_X12_isShownWithout [] 100 ?_)
  have hf : frM [] [21] σ (qw_pi σ 0 21 wo) := frM.p0 (by decide)
  refine ⟨trivial, _, r_isShown (h.1.fr hf (by decide) (by decide) (by decide)) (h.2.2.1.fr hf (by decide)) (h.2.2.2.1.fr hf (by decide) (by decide)) (h.2.2.2.2.1.fr hf (by decide)) (hd.fr hf (by decide) (by decide)) (go := wo) pi_eq hs, fun z σ4 h01 ⟨l1, l2⟩ => ?_⟩
  cases l2
  have l1 := l1.symm
  subst l1
  have hf2 : frM [] [21] σ (qw_pi (qw_pi σ 0 21 wo) 0 21 (nI 0)) := hf.tr (frM.p0 (by decide))
  exact ⟨h01, hf2.back (by rw [pi_eq]; exact h.2.2.2.2.2.2.symm), rfl⟩
theorem frMz (h : frM [] [] σ σ') : frM [13, 14, 15, 16] [] σ σ' := h.mo (fun _ z => absurd z List.not_mem_nil) (fun _ z => absurd z List.not_mem_nil)
theorem r_leaveOf (h : th σ T C P n a L) {s i : Nat} (hs : s < 20) (hi : i < 3) : qw_Mt qw_tw wM my_X12_leaveOf [.ref 0, .int (nI s), .int (dn i)] σ (fun r σ' => frM [13, 14, 15, 16] [] σ σ' ∧ th σ' T C P n a L ∧ ∃ x, r = some (.int x) ∧ pkR (lev T C P n a L s (fun _ => false)) (tF T) (fun X => lev T C P n a L s (lv1 X)) (fun X Y => lev T C P n a L s (lv2 X Y)) (fun X => X + 1) i x) := by
  have hF := h.1.1.1
  have t : ∀ {σ2 : qw_M} {wo : Int32} {w : Nat → Bool}, bt wo = w → frM [13, 14, 15, 16] [] σ σ2 → lvd σ2 T C nsk → qw_Mt qw_tw wM my_X12_isShownWithout [.ref 0, .int (nI s), .int wo] σ2 (fun r σ' => (frM [13, 14, 15, 16] [] σ σ' ∧ lvd σ' T C nsk) ∧ r = some (.int (nI (lev T C P n a L s w).toNat))) := fun {σ2 wo w} hw hf hd => by
    subst hw
    refine mt_mono (r_isShownWithout (h.lv hf) (hd s hs) hs wo) (fun r σ' ⟨k1, k2⟩ => ⟨⟨hf.tr (frMz k1), hd.fr k1 (by decide) (by decide)⟩, k2⟩)
  have w1 : ∀ A, A < 8 → bt (nI 1 <<< (nI A &&& 31)) = lv1 A := fun A hA => bt1fun (by omega)
  have w2 : ∀ A B, A < 8 → B < 8 → bt ((nI 1 <<< (nI A &&& 31)) ||| (nI 1 <<< (nI B &&& 31))) = lv2 A B := fun A B hA hB => by
    funext g
    rw [b_or, bt1fun (by omega), bt1fun (by omega)]
    rfl
  generalize hz0 : lev T C P n a L s (fun _ => false) = z
  generalize hg1e : (fun X => lev T C P n a L s (lv1 X)) = g1
  generalize hg2e : (fun X Y => lev T C P n a L s (lv2 X Y)) = g2
  have e1 : ∀ A, lev T C P n a L s (lv1 A) = g1 A := fun A => by rw [← hg1e]
  have e2 : ∀ A B, lev T C P n a L s (lv2 A B) = g2 A B := fun A B => by rw [← hg2e]
  generalize hQ : (fun (r : Option Value) (σ' : qw_M) => frM [13, 14, 15, 16] [] σ σ' ∧ th σ' T C P n a L ∧ ∃ x, r = some (.int x) ∧ pkR z (tF T) g1 g2 (fun X => X + 1) i x) = Q
  refine mt_X12_leaveOf (Q := Q) rfl ?_
  have loopA : z = false → (∀ A, A < tF T → g1 A = false) → ∀ (m A : Nat) (y : Int32) (ls : qw_L) (σ' : qw_M), A + m = tF T → y = nI A → frM [13, 14, 15, 16] [] σ σ' → lvd σ' T C nsk → (∀ A2 B2, A2 < A → A2 + 1 ≤ B2 → B2 < tF T → g2 A2 B2 = false) → (∀ q ∈ [(0, Value.ref 0), (1, .int (nI s)), (2, .int (dn i)), (3, .int y)], q ∈ ls) → E_X12_leaveOf Q 72 ls [] σ' := by
    intro hz hg1 m
    induction m with
    | zero =>
      intro A y ls σ' hA hy hf hd hno hls
      subst hy
      have h' := h.lv hf
      refine qw_Ev.sub (ev_X12_leaveOf [] 100 ?_) hls
      refine vt (by rw [h'.1.2.1]; exact nle (tF T) A (by omega) (by omega)) ?_
      subst hQ
      refine ⟨hf, h', _, rfl, m1, m1, m1, Or.inr (Or.inr (Or.inr ⟨hz, hg1, fun A2 B2 a1 a0 a2 => hno A2 B2 (by omega) a0 a2, rfl, rfl, rfl⟩)), ?_⟩
      unfold pick
      split
      · rfl
      · split <;> rfl
    | succ m ih =>
      intro A y ls σ' hA hy hf hd hno hls
      subst hy
      have loopB : ∀ (m2 B : Nat) (y : Int32) (ls : qw_L) (σ' : qw_M), B + m2 = tF T → A + 1 ≤ B → y = nI B → frM [13, 14, 15, 16] [] σ σ' → lvd σ' T C nsk → (∀ B2, A + 1 ≤ B2 → B2 < B → g2 A B2 = false) → (∀ q ∈ [(0, Value.ref 0), (1, .int (nI s)), (2, .int (dn i)), (3, .int (nI A)), (4, .int y)], q ∈ ls) → E_X12_leaveOf Q 85 ls [] σ' := by
        intro m2
        induction m2 with
        | zero =>
          intro B y ls σ' hB hAB hy hf hd hnb hls
          subst hy
          have h' := h.lv hf
          refine qw_Ev.sub (ev_X12_leaveOf [72] 100 ?_) hls
          refine vt (by rw [h'.1.2.1]; exact nle (tF T) B (by omega) (by omega)) ?_
          refine ih (A + 1) _ _ _ (by omega) (nI_add A 1) hf hd (fun A2 B2 a1 a0 a2 => ?_) (sub_pre rfl)
          by_cases q : A2 = A
          · rw [q]
            exact hnb B2 (by omega) (by omega)
          · exact hno A2 B2 (by omega) a0 a2
        | succ m2 ihb =>
          intro B y ls σ' hB hAB hy hf hd hnb hls
          subst hy
          have h' := h.lv hf
          refine qw_Ev.sub (ev_X12_leaveOf [85] 100 ?_) hls
          refine vf (by rw [h'.1.2.1]; exact nnle (tF T) B (by omega) (by omega)) ?_
          refine ⟨trivial, _, t (w2 A B (by omega) (by omega)) hf hd, fun y σ2 h01 ⟨⟨k1, k2⟩, k3⟩ => ?_⟩
          cases k3
          rw [e2]
          cases hb : g2 A B with
          | false =>
            refine vt rfl ?_
            refine ihb (B + 1) _ _ _ (by omega) (by omega) (nI_add B 1) k1 k2 (fun B2 b0 b1 => ?_) (sub_pre rfl)
            by_cases q : B2 = B
            · rw [q]
              exact hb
            · exact hnb B2 b0 (by omega)
          | true =>
            refine vf n10 ?_
            have key : ∀ x, x = pick i (nI 2) (nI A) (nI B) → pkR z (tF T) g1 g2 (fun X => X + 1) i x := fun x hx => ⟨_, _, _, Or.inr (Or.inr (Or.inl ⟨hz, hg1, A, B, by omega, hAB, by omega, hb, fun A2 B2 a1 a0 a2 a3 => by
              rcases a3 with a3 | ⟨rfl, a3⟩
              · exact hno A2 B2 a3 a0 a2
              · exact hnb B2 a0 a3, rfl, rfl, rfl⟩)), hx⟩
            have h2 := h.lv k1
            by_cases i0 : i = 0
            · refine vnf ((dn_m hi).mpr i0) ?_
              subst hQ
              exact ⟨k1, h2, _, rfl, key _ (by rw [i0]; rfl)⟩
            · refine vnt (fun q => i0 ((dn_m hi).mp q)) ?_
              by_cases i1 : i = 1
              · refine vnf ((dn_z hi).mpr i1) ?_
                subst hQ
                exact ⟨k1, h2, _, rfl, key _ (by rw [i1]; rfl)⟩
              · refine vnt (fun q => i1 ((dn_z hi).mp q)) ?_
                subst hQ
                exact ⟨k1, h2, _, rfl, key _ (by unfold pick; rw [if_neg i0, if_neg i1])⟩
      have h' := h.lv hf
      refine qw_Ev.sub (ev_X12_leaveOf [85] 100 ?_) hls
      refine vf (by rw [h'.1.2.1]; exact nnle (tF T) A (by omega) (by omega)) ?_
      exact loopB m (A + 1) _ _ _ (by omega) (Nat.le_refl _) (nI_add A 1) hf hd (fun B2 b0 b1 => by omega) (sub_pre rfl)
  have loop1 : z = false → ∀ (m A : Nat) (y : Int32) (ls : qw_L) (σ' : qw_M), A + m = tF T → y = nI A → frM [13, 14, 15, 16] [] σ σ' → lvd σ' T C nsk → (∀ A2, A2 < A → g1 A2 = false) → (∀ q ∈ [(0, Value.ref 0), (1, .int (nI s)), (2, .int (dn i)), (3, .int y)], q ∈ ls) → E_X12_leaveOf Q 26 ls [] σ' := by
    intro hz m
    induction m with
    | zero =>
      intro A y ls σ' hA hy hf hd hno hls
      subst hy
      have h' := h.lv hf
      refine qw_Ev.sub (ev_X12_leaveOf [72] 100 ?_) hls
      refine vt (by rw [h'.1.2.1]; exact nle (tF T) A (by omega) (by omega)) ?_
      exact loopA hz (fun A2 a1 => hno A2 (by omega)) (tF T) 0 _ _ _ (by omega) rfl hf hd (fun A2 B2 a1 => absurd a1 (Nat.not_lt_zero _)) (sub_pre rfl)
    | succ m ih =>
      intro A y ls σ' hA hy hf hd hno hls
      subst hy
      have h' := h.lv hf
      refine qw_Ev.sub (ev_X12_leaveOf [26] 100 ?_) hls
      refine vf (by rw [h'.1.2.1]; exact nnle (tF T) A (by omega) (by omega)) ?_
      refine ⟨trivial, _, t (w1 A (by omega)) hf hd, fun y σ2 h01 ⟨⟨k1, k2⟩, k3⟩ => ?_⟩
      cases k3
      rw [e1]
      cases hb : g1 A with
      | false =>
        refine vt rfl ?_
        refine ih (A + 1) _ _ _ (by omega) (nI_add A 1) k1 k2 (fun A2 b1 => ?_) (sub_pre rfl)
        by_cases q : A2 = A
        · rw [q]
          exact hb
        · exact hno A2 (by omega)
      | true =>
        refine vf n10 ?_
        have h2 := h.lv k1
        have key : ∀ x, x = pick i (nI 1) (nI A) m1 → pkR z (tF T) g1 g2 (fun X => X + 1) i x := fun x hx => ⟨_, _, _, Or.inr (Or.inl ⟨hz, A, by omega, hb, hno, rfl, rfl, rfl⟩), hx⟩
        by_cases i0 : i = 0
        · refine vnf ((dn_m hi).mpr i0) ?_
          subst hQ
          exact ⟨k1, h2, _, rfl, key _ (by rw [i0]; rfl)⟩
        · refine vnt (fun q => i0 ((dn_m hi).mp q)) ?_
          by_cases i1 : i = 1
          · refine vnf ((dn_z hi).mpr i1) ?_
            subst hQ
            exact ⟨k1, h2, _, rfl, key _ (by rw [i1]; rfl)⟩
          · refine vnt (fun q => i1 ((dn_z hi).mp q)) ?_
            subst hQ
            exact ⟨k1, h2, _, rfl, key _ (by unfold pick; rw [if_neg i0, if_neg i1])⟩
  refine ev_X12_leaveOf [26] 100 ?_
  refine ⟨trivial, _, r_livesT h, fun σ3 ⟨k1, k2, k3, _⟩ => ?_⟩
  refine ⟨trivial, _, t nosk k1 k3, fun y σ2 h01 ⟨⟨k1, k2⟩, k3⟩ => ?_⟩
  cases k3
  have h2 := h.lv k1
  rw [hz0]
  cases hz : z with
  | false =>
    refine vt rfl ?_
    exact loop1 hz (tF T) 0 _ _ _ (by omega) rfl k1 k2 (fun A2 b1 => absurd b1 (Nat.not_lt_zero _)) (sub_pre rfl)
  | true =>
    refine vf n10 ?_
    have key : ∀ x, x = pick i (nI 0) m1 m1 → pkR z (tF T) g1 g2 (fun X => X + 1) i x := fun x hx => ⟨_, _, _, Or.inl ⟨hz, rfl, rfl, rfl⟩, hx⟩
    by_cases i0 : i = 0
    · refine vnf ((dn_m hi).mpr i0) ?_
      subst hQ
      exact ⟨k1, h2, _, rfl, key _ (by rw [i0]; rfl)⟩
    · refine vnt (fun q => i0 ((dn_m hi).mp q)) ?_
      subst hQ
      refine ⟨k1, h2, _, rfl, key _ ?_⟩
      unfold pick
      rw [if_neg i0]
      split <;> rfl
end
