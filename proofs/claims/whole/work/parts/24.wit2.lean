/-! Witness: which cue never was, of what colour, how deep; the next cell to look at -/
theorem bt1fun {k : Nat} (hk : k < 32) : bt (nI 1 <<< (nI k &&& 31)) = fun i => decide (i = k) := by
  funext i
  by_cases hi : i < 32
  · exact bt_shl1 hk hi
  · rw [b_big (by omega)]
    exact (decide_eq_false (by omega)).symm
theorem b_n0 (i : Nat) : bt (nI 0) i = false := b_0 i
theorem shfrc {σ σ' : qw_M} {T : TT} {C : CC} {P : Nat → Option Nat} {n : Nat} {a : Nat → Nat} {L : Nat} {l : List Nat} (h : sh σ T C P n a L) (hf : fr l σ σ') (hl : ∀ k, 7 ≤ k → k ≤ 22 → k ≠ 21 → k ∉ l) (hc : 26 ∉ l ∧ 27 ∉ l) : sh σ' T C P n a L := sh.fr h hf hl (h.2.2.2.2.2.2.fr hf hc)
/-- all that was seen comes out so -/
def agr (T : TT) (C : CC) (n : Nat) (a : Nat → Nat) (L m : Nat) (e : Nat → Nat) (skip : Nat → Bool) (x : (Nat → Nat) × (Nat → Nat)) (q : Nat → Nat) : Bool := allx (sok e (lgX T C skip n a L x q)) m
theorem m_neverSteps {σ : qw_M} {T : TT} {C : CC} {P : Nat → Option Nat} {n : Nat} {a : Nat → Nat} {L : Nat} (h : sh σ T C P n a L) {m : Nat} {e : Nat → Nat} (hs : si σ m e) : qw_Mt qw_tw wC my_X10_neverSteps [.ref 34] σ (fun r σ' => fr scr σ σ' ∧ sh σ' T C P n a L ∧ ∃ x, r = some (.int x) ∧ ∀ k, k < 32 → bt x k = (decide (k < 20) && (C k).isSome && agr T C n a L m e (fun s => decide (s = k)) (tdp T) (tC T))) := by
  generalize hg : (fun k => decide (k < 20) && (C k).isSome && agr T C n a L m e (fun s => decide (s = k)) (tdp T) (tC T)) = g
  have hg' : ∀ k, g k = (decide (k < 20) && (C k).isSome && agr T C n a L m e (fun s => decide (s = k)) (tdp T) (tC T)) := fun k => by rw [← hg]
  simp only [← hg']
  refine mt_X10_neverSteps rfl ?_
  refine ev_X10_neverSteps [15] 100 ?_
  refine ⟨trivial, _, m_steps h.2.1, fun w σ1 ⟨k1, z, k2, hw⟩ => ?_⟩
  cases k2
  have k1 := k1.symm
  subst k1
  have loop : ∀ (k j : Nat) (y acc : Int32) (σ' : qw_M), j + k = 20 → y = nI j → fr scr σ σ' → sh σ' T C P n a L → (∀ i, i < 32 → bt acc i = (decide (i < j) && g i)) → E_X10_neverSteps (fun r σ' => fr scr σ σ' ∧ sh σ' T C P n a L ∧ ∃ x, r = some (.int x) ∧ ∀ k, k < 32 → bt x k = g k) 15 [(0, .ref 34), (1, .int w), (2, .int acc), (3, .int y)] [] σ' := by
    intro k
    induction k with
    | zero =>
      intro j y acc σ' hj hy hf h' hb
      subst hy
      have : j = 20 := by omega
      subst this
      refine ev_X10_neverSteps [15] 100 ?_
      refine vt (Int32.le_refl _) ?_
      refine ⟨hf, h', acc, rfl, fun i hi => ?_⟩
      rw [hb i hi]
      by_cases c : i < 20
      · simp [c]
      · rw [hg' i]; simp [c]
    | succ k ih =>
      intro j y acc σ' hj hy hf h' hb
      subst hy
      refine ev_X10_neverSteps [15, 52] 100 ?_
      refine vf (nnle 20 j (by omega) (by omega)) ?_
      refine ⟨trivial, _, m_open h', fun σ1 ⟨f1, h1, l1, g1⟩ => ?_⟩
      have es : (w >>> (nI j &&& 31)) &&& nI 1 = nI (bt w j).toNat := bt_s (by omega)
      -- the end
      have fin : ∀ (acc2 : Int32) (σ2 : qw_M), fr scr σ σ2 → sh σ2 T C P n a L → (∀ i, i < 32 → bt acc2 i = (decide (i < j + 1) && g i)) → E_X10_neverSteps (fun r σ' => fr scr σ σ' ∧ sh σ' T C P n a L ∧ ∃ x, r = some (.int x) ∧ ∀ k, k < 32 → bt x k = g k) 52 [(0, .ref 34), (1, .int w), (2, .int acc2), (3, .int (nI j))] [] σ2 := fun acc2 σ2 a1 a2 a3 => by
        refine ev_X10_neverSteps [15] 100 ?_
        exact ih (j + 1) _ _ _ (by omega) (nI_add j 1) a1 a2 a3
      have no : g j = false → ∀ i, i < 32 → bt acc i = (decide (i < j + 1) && g i) := fun hgj i hi => by
        rw [hb i hi]
        by_cases c : i = j
        · subst c; simp [hgj]
        · have : decide (i < j + 1) = decide (i < j) := by simp; omega
          rw [this]
      cases hb1 : bt w j with
      | false =>
        refine vt (by rw [es, hb1]; rfl) ?_
        refine fin acc σ1 (hf.tr f1) h1 (no ?_)
        rw [hg' j, ← hw j (by omega), hb1]
        simp
      | true =>
        refine vf (by rw [es, hb1]; decide) ?_
        have hs1 : si σ1 m e := (hs.fr (hf.tr f1) (by unfold scr; decide) (by unfold scr; decide))
        refine ⟨trivial, _, m_agrees (x := tdp T) h1 l1 g1 hs1 (nI 1 <<< (nI j &&& 31)), fun z σ2 _ ⟨f2, h2, k2⟩ => ?_⟩
        cases k2
        rw [bt1fun (by omega)]
        have hgj : g j = allx (sok e (lgX T C (fun i => decide (i = j)) n a L (tdp T) (tC T))) m := by
          rw [hg' j, ← hw j (by omega), hb1]
          have : decide (j < 20) = true := by simp; omega
          rw [this]
          simp only [Bool.true_and]
          rfl
        rw [← hgj]
        cases hgv : g j with
        | false =>
          refine vt rfl ?_
          exact fin acc σ2 ((hf.tr f1).tr f2) h2 (no hgv)
        | true =>
          refine vf (by decide) ?_
          refine fin _ σ2 ((hf.tr f1).tr f2) h2 (fun i hi => ?_)
          rw [b_or, hb i hi, bt_shl1 (by omega) hi]
          by_cases c : i = j
          · subst c; simp [hgv]
          · have : decide (i < j + 1) = decide (i < j) := by simp; omega
            rw [this]; simp [c]
  exact loop 20 0 _ _ σ rfl rfl fr.rf h (fun i hi => by simp [b_n0])
theorem m_colours {σ : qw_M} {T : TT} {C : CC} {P : Nat → Option Nat} {n : Nat} {a : Nat → Nat} {L : Nat} (h : sh σ T C P n a L) {m : Nat} {e : Nat → Nat} (hs : si σ m e) {f : Nat} (hf8 : f < tF T) : qw_Mt qw_tw wC my_X10_colours [.ref 34, .int (nI f)] σ (fun r σ' => fr scr σ σ' ∧ sh σ' T C P n a L ∧ ∃ x, r = some (.int x) ∧ ∀ k, k < 32 → bt x k = (decide (k < 4) && agr T C n a L m e (fun _ => false) (tdp T) (va_up (tC T) f k))) := by
  generalize hg : (fun k => decide (k < 4) && agr T C n a L m e (fun _ => false) (tdp T) (va_up (tC T) f k)) = g
  have hg' : ∀ k, g k = (decide (k < 4) && agr T C n a L m e (fun _ => false) (tdp T) (va_up (tC T) f k)) := fun k => by rw [← hg]
  simp only [← hg']
  refine mt_X10_colours rfl ?_
  refine ev_X10_colours [4] 100 ?_
  have loop : ∀ (k j : Nat) (y acc : Int32) (σ' : qw_M), j + k = 4 → y = nI j → fr scr σ σ' → sh σ' T C P n a L → (∀ i, i < 32 → bt acc i = (decide (i < j) && g i)) → E_X10_colours (fun r σ' => fr scr σ σ' ∧ sh σ' T C P n a L ∧ ∃ x, r = some (.int x) ∧ ∀ k, k < 32 → bt x k = g k) 4 [(0, .ref 34), (1, .int (nI f)), (2, .int acc), (3, .int y)] [] σ' := by
    intro k
    induction k with
    | zero =>
      intro j y acc σ' hj hy hf h' hb
      subst hy
      have : j = 4 := by omega
      subst this
      refine ev_X10_colours [4] 100 ?_
      refine vt (Int32.le_refl _) ?_
      refine ⟨hf, h', acc, rfl, fun i hi => ?_⟩
      rw [hb i hi]
      by_cases c : i < 4
      · simp [c]
      · rw [hg' i]; simp [c]
    | succ k ih =>
      intro j y acc σ' hj hy hf h' hb
      subst hy
      refine ev_X10_colours [4, 39] 100 ?_
      refine vf (nnle 4 j (by omega) (by omega)) ?_
      refine ⟨trivial, _, m_open h', fun σ1 ⟨f1, h1, l1, g1⟩ => ?_⟩
      refine ⟨trivial, _, m_paint h1.1 g1 hf8 (a := j) (by omega), fun σ2 ⟨f2, g2⟩ => ?_⟩
      have f2' : fr scr σ1 σ2 := f2.mo (by unfold scr; decide)
      have h2 := shfrc h1 f2 (fun k a b c => by simp; omega) (by decide)
      have hs2 : si σ2 m e := (hs.fr ((hf.tr f1).tr f2') (by unfold scr; decide) (by unfold scr; decide))
      refine ⟨trivial, _, m_agrees (x := tdp T) h2 (l1.fr f2 (by decide)) g2 hs2 (nI 0), fun z σ3 _ ⟨f3, h3, k2⟩ => ?_⟩
      cases k2
      rw [nosk]
      have hgj : g j = allx (sok e (lgX T C (fun _ => false) n a L (tdp T) (va_up (tC T) f j))) m := by
        rw [hg' j]
        have : decide (j < 4) = true := by simp; omega
        rw [this]
        simp only [Bool.true_and]
        rfl
      rw [← hgj]
      have fin : ∀ (acc2 : Int32) (σ2 : qw_M), fr scr σ σ2 → sh σ2 T C P n a L → (∀ i, i < 32 → bt acc2 i = (decide (i < j + 1) && g i)) → E_X10_colours (fun r σ' => fr scr σ σ' ∧ sh σ' T C P n a L ∧ ∃ x, r = some (.int x) ∧ ∀ k, k < 32 → bt x k = g k) 39 [(0, .ref 34), (1, .int (nI f)), (2, .int acc2), (3, .int (nI j))] [] σ2 := fun acc2 σ2 a1 a2 a3 => by
        refine ev_X10_colours [4] 100 ?_
        exact ih (j + 1) _ _ _ (by omega) (nI_add j 1) a1 a2 a3
      cases hgv : g j with
      | false =>
        refine vt rfl ?_
        refine fin acc σ3 (((hf.tr f1).tr f2').tr f3) h3 (fun i hi => ?_)
        rw [hb i hi]
        by_cases c : i = j
        · subst c; simp [hgv]
        · have : decide (i < j + 1) = decide (i < j) := by simp; omega
          rw [this]
      | true =>
        refine vf (by decide) ?_
        refine fin _ σ3 (((hf.tr f1).tr f2').tr f3) h3 (fun i hi => ?_)
        rw [b_or, hb i hi, bt_shl1 (by omega) hi]
        by_cases c : i = j
        · subst c; simp [hgv]
        · have : decide (i < j + 1) = decide (i < j) := by simp; omega
          rw [this]; simp [c]
  exact loop 4 0 _ _ σ rfl rfl fr.rf h (fun i hi => by simp [b_n0])
/-- the theatre's figures, one at another depth -/
def dpt (T : TT) (f d : Nat) : (Nat → Nat) × (Nat → Nat) := (va_up (tD T) f d, tP T)
theorem m_depths {σ : qw_M} {T : TT} {C : CC} {P : Nat → Option Nat} {n : Nat} {a : Nat → Nat} {L : Nat} (h : sh σ T C P n a L) {m : Nat} {e : Nat → Nat} (hs : si σ m e) {f : Nat} (hf8 : f < tF T) : qw_Mt qw_tw wC my_X10_depths [.ref 34, .int (nI f)] σ (fun r σ' => fr scr σ σ' ∧ sh σ' T C P n a L ∧ ∃ x, r = some (.int x) ∧ ∀ k, k < 32 → bt x k = (decide (1 ≤ k ∧ k < 9) && agr T C n a L m e (fun _ => false) (dpt T f k) (tC T))) := by
  generalize hg : (fun k => decide (1 ≤ k ∧ k < 9) && agr T C n a L m e (fun _ => false) (dpt T f k) (tC T)) = g
  have hg' : ∀ k, g k = (decide (1 ≤ k ∧ k < 9) && agr T C n a L m e (fun _ => false) (dpt T f k) (tC T)) := fun k => by rw [← hg]
  simp only [← hg']
  refine mt_X10_depths rfl ?_
  refine ev_X10_depths [4] 100 ?_
  have loop : ∀ (k j : Nat) (y acc : Int32) (σ' : qw_M), j + k = 9 → 1 ≤ j → y = nI j → fr scr σ σ' → sh σ' T C P n a L → (∀ i, i < 32 → bt acc i = (decide (i < j) && g i)) → E_X10_depths (fun r σ' => fr scr σ σ' ∧ sh σ' T C P n a L ∧ ∃ x, r = some (.int x) ∧ ∀ k, k < 32 → bt x k = g k) 4 [(0, .ref 34), (1, .int (nI f)), (2, .int acc), (3, .int y)] [] σ' := by
    intro k
    induction k with
    | zero =>
      intro j y acc σ' hj hj1 hy hf h' hb
      subst hy
      have : j = 9 := by omega
      subst this
      refine ev_X10_depths [4] 100 ?_
      refine vt (nlt 8 9 (by omega) (by omega)) ?_
      refine ⟨hf, h', acc, rfl, fun i hi => ?_⟩
      rw [hb i hi]
      by_cases c : i < 9
      · simp [c]
      · rw [hg' i]; simp [c]
    | succ k ih =>
      intro j y acc σ' hj hj1 hy hf h' hb
      subst hy
      refine ev_X10_depths [4, 48] 100 ?_
      refine vf (nnlt 8 j (by omega) (by omega)) ?_
      refine ⟨trivial, _, m_open h', fun σ1 ⟨f1, h1, l1, g1⟩ => ?_⟩
      refine ⟨trivial, _, m_placeOf h1.1 g1 hf8, fun z σ1' ⟨k1, k2⟩ => ?_⟩
      cases k2
      have k1 := k1.symm
      subst k1
      refine ⟨trivial, _, m_put h1.1 g1 hf8 (a := j) (by omega) (by omega) (b := tP T f) (g1 f hf8).2.2.1, fun σ2 ⟨f2, g2⟩ => ?_⟩
      rw [up_id] at g2
      have f2' : fr scr σ1 σ2 := scr_mv f2
      have h2 := shfrc h1 f2 (fun k a b c => by simp; omega) (by decide)
      have hs2 : si σ2 m e := (hs.fr ((hf.tr f1).tr f2') (by unfold scr; decide) (by unfold scr; decide))
      refine ⟨trivial, _, m_agrees (x := dpt T f j) h2 (l1.fr f2 (by decide)) g2 hs2 (nI 0), fun z σ3 _ ⟨f3, h3, k2⟩ => ?_⟩
      cases k2
      rw [nosk]
      have hgj : g j = allx (sok e (lgX T C (fun _ => false) n a L (dpt T f j) (tC T))) m := by
        rw [hg' j]
        have : decide (1 ≤ j ∧ j < 9) = true := by simp; omega
        rw [this]
        simp only [Bool.true_and]
        rfl
      rw [← hgj]
      have fin : ∀ (acc2 : Int32) (σ2 : qw_M), fr scr σ σ2 → sh σ2 T C P n a L → (∀ i, i < 32 → bt acc2 i = (decide (i < j + 1) && g i)) → E_X10_depths (fun r σ' => fr scr σ σ' ∧ sh σ' T C P n a L ∧ ∃ x, r = some (.int x) ∧ ∀ k, k < 32 → bt x k = g k) 48 [(0, .ref 34), (1, .int (nI f)), (2, .int acc2), (3, .int (nI j))] [] σ2 := fun acc2 σ2 a1 a2 a3 => by
        refine ev_X10_depths [4] 100 ?_
        exact ih (j + 1) _ _ _ (by omega) (by omega) (nI_add j 1) a1 a2 a3
      cases hgv : g j with
      | false =>
        refine vt rfl ?_
        refine fin acc σ3 (((hf.tr f1).tr f2').tr f3) h3 (fun i hi => ?_)
        rw [hb i hi]
        by_cases c : i = j
        · subst c; simp [hgv]
        · have : decide (i < j + 1) = decide (i < j) := by simp; omega
          rw [this]
      | true =>
        refine vf (by decide) ?_
        refine fin _ σ3 (((hf.tr f1).tr f2').tr f3) h3 (fun i hi => ?_)
        rw [b_or, hb i hi, bt_shl1 (by omega) hi]
        by_cases c : i = j
        · subst c; simp [hgv]
        · have : decide (i < j + 1) = decide (i < j) := by simp; omega
          rw [this]; simp [c]
  exact loop 8 1 _ _ σ rfl (by omega) rfl fr.rf h (fun i hi => by
    rw [hg' i]
    by_cases c : i < 1
    · have : i = 0 := by omega
      subst this
      simp [b_n0]
    · simp [c, b_n0])
/-- how many of these depths give the cell that light -/
def tly (T : TT) (C : CC) (n : Nat) (a : Nat → Nat) (L f : Nat) (mk : Nat → Bool) (N c v : Nat) : Nat := cnt (fun i => mk (i + 1) && decide (lgX T C (fun _ => false) n a L (dpt T f (i + 1)) (tC T) 19 c = v)) N
theorem and7 : ∀ g, g < 8 → g &&& 7 = g := by decide
theorem m_tally {σ : qw_M} {T : TT} {C : CC} {P : Nat → Option Nat} {n : Nat} {a : Nat → Nat} {L : Nat} (h : sh σ T C P n a L) {f : Nat} (hf8 : f < tF T) (mk : Int32) : qw_Mt qw_tw wC my_X10_tallyLights [.ref 34, .int (nI f), .int mk] σ (fun _ σ' => fr scA σ σ' ∧ sh σ' T C P n a L ∧ ∀ c v, c < 32 → v < 8 → (σ' 37).1 (c * 8 + v) = nI (tly T C n a L f (bt mk) 8 c v)) := by
  generalize hQ : (fun (_ : Option Value) (σ' : qw_M) => fr scA σ σ' ∧ sh σ' T C P n a L ∧ ∀ c v, c < 32 → v < 8 → (σ' 37).1 (c * 8 + v) = nI (tly T C n a L f (bt mk) 8 c v)) = Q
  refine mt_X10_tallyLights (Q := Q) rfl ?_
  refine ev_X10_tallyLights [2] 100 ?_
  have loop2 : ∀ (k j : Nat) (y : Int32) (ls : qw_L) (σ' : qw_M), j + k = 8 → y = nI (j + 1) → fr scA σ σ' → sh σ' T C P n a L → (∀ c v, c < 32 → v < 8 → (σ' 37).1 (c * 8 + v) = nI (tly T C n a L f (bt mk) j c v)) → (∀ q ∈ [(0, Value.ref 34), (1, .int (nI f)), (2, .int mk), (3, .int y)], q ∈ ls) → E_X10_tallyLights Q 26 ls [] σ' := by
    intro k
    induction k with
    | zero =>
      intro j y ls σ' hj hy hf h' hb hls
      subst hy
      have : j = 8 := by omega
      subst this
      refine qw_Ev.sub (ev_X10_tallyLights [26] 100 ?_) hls
      refine vt (nlt 8 9 (by omega) (by omega)) ?_
      subst hQ
      exact ⟨hf, h', hb⟩
    | succ k ih =>
      intro j y ls σ' hj hy hf h' hb hls
      subst hy
      refine qw_Ev.sub (ev_X10_tallyLights [26, 97, 140] 100 ?_) hls
      refine vf (nnlt 8 (j + 1) (by omega) (by omega)) ?_
      have es : (mk >>> (nI (j + 1) &&& 31)) &&& nI 1 = nI (bt mk (j + 1)).toNat := bt_s (by omega)
      have sub4 : ∀ (b : Value), ∀ q ∈ [(0, Value.ref 34), (1, .int (nI f)), (2, .int mk), (3, .int (nI (j + 1)))], q ∈ [(0, Value.ref 34), (1, .int (nI f)), (2, .int mk), (3, .int (nI (j + 1))), (4, b)] := fun b z hz => by
        simp only [List.mem_cons, List.not_mem_nil, or_false] at hz
        rcases hz with rfl | rfl | rfl | rfl <;> simp
      have fin : ∀ (ls : qw_L) (σ2 : qw_M), fr scA σ σ2 → sh σ2 T C P n a L → (∀ c v, c < 32 → v < 8 → (σ2 37).1 (c * 8 + v) = nI (tly T C n a L f (bt mk) (j + 1) c v)) → (∀ q ∈ [(0, Value.ref 34), (1, .int (nI f)), (2, .int mk), (3, .int (nI (j + 1)))], q ∈ ls) → E_X10_tallyLights Q 140 ls [] σ2 := fun ls σ2 a1 a2 a3 a4 => by
        refine qw_Ev.sub (ev_X10_tallyLights [26] 100 ?_) a4
        exact ih (j + 1) _ _ _ (by omega) (nI_add (j + 1) 1) a1 a2 a3 (fun q hq => hq)
      cases hb1 : bt mk (j + 1) with
      | false =>
        refine vnf (by rw [es, hb1]; rfl) ?_
        refine fin _ σ' hf h' (fun c v hc hv => ?_) (fun q hq => hq)
        rw [hb c v hc hv]
        show nI (tly T C n a L f (bt mk) j c v) = nI (tly T C n a L f (bt mk) j c v + (bt mk (j + 1) && _).toNat)
        rw [hb1]
        rfl
      | true =>
        refine vnt (by rw [es, hb1]; decide) ?_
        refine ⟨trivial, _, m_open h', fun σ1 ⟨f1, h1, l1, g1⟩ => ?_⟩
        refine ⟨trivial, _, m_placeOf h1.1 g1 hf8, fun z σ1' ⟨k1, k2⟩ => ?_⟩
        cases k2
        have k1 := k1.symm
        subst k1
        refine ⟨trivial, _, m_put h1.1 g1 hf8 (a := j + 1) (by omega) (by omega) (b := tP T f) (g1 f hf8).2.2.1, fun σ2 ⟨f2, g2⟩ => ?_⟩
        rw [up_id] at g2
        have f2' : fr scr σ1 σ2 := scr_mv f2
        have h2 := shfrc h1 f2 (fun k a b c => by simp; omega) (by decide)
        refine ⟨trivial, _, m_doCues (x := dpt T f (j + 1)) h2.1 g2 h2.2.1 (last := 19) (by omega) (nI 0), fun σ3 ⟨f3, g3⟩ => ?_⟩
        have f3' : fr scr σ2 σ3 := scr_mv f3
        have h3 := shfrc h2 f3 (fun k a b c => by simp; omega) (by decide)
        refine ⟨trivial, _, m_isOut h3.2.2.2.1 (s := 19) (by omega), fun z σ3' _ ⟨k1, k2⟩ => ?_⟩
        cases k2
        have k1 := k1.symm
        subst k1
        have l3 := (l1.fr f2 (by decide)).fr f3 (by decide)
        refine ⟨trivial, _, m_shineS h3 g3 l3 (isx a 19 n) (nI 0), fun σ4 ⟨f4, h4, l4, g4, gl4⟩ => ?_⟩
        rw [nosk] at gl4
        have gl4' : gl σ4 28 (lgX T C (fun _ => false) n a L (dpt T f (j + 1)) (tC T) 19) := gl4
        have fA : fr scA σ σ4 := hf.tr (scr_A (((f1.tr f2').tr f3').tr f4))
        have hb4 : ∀ c v, c < 32 → v < 8 → (σ4 37).1 (c * 8 + v) = nI (tly T C n a L f (bt mk) j c v) := fun c v hc hv => by
          rw [(((f1.tr f2').tr f3').tr f4) 37 (by unfold scr; decide)]
          exact hb c v hc hv
        clear gl4 g4 l3 g3 g2 g1
        have hstep : ∀ c v, tly T C n a L f (bt mk) (j + 1) c v = tly T C n a L f (bt mk) j c v + (decide (lgX T C (fun _ => false) n a L (dpt T f (j + 1)) (tC T) 19 c = v)).toNat := fun c v => by
          show tly T C n a L f (bt mk) j c v + (bt mk (j + 1) && _).toNat = _
          rw [hb1, Bool.true_and]
        generalize lgX T C (fun _ => false) n a L (dpt T f (j + 1)) (tC T) 19 = G at gl4' hstep
        have loop3 : ∀ (k3 i : Nat) (y : Int32) (σ5 : qw_M), i + k3 = 32 → y = nI i → fr scA σ σ5 → sh σ5 T C P n a L → gl σ5 28 G → (∀ c v, c < 32 → v < 8 → (σ5 37).1 (c * 8 + v) = nI (if c < i then tly T C n a L f (bt mk) (j + 1) c v else tly T C n a L f (bt mk) j c v)) → E_X10_tallyLights Q 97 [(0, .ref 34), (1, .int (nI f)), (2, .int mk), (3, .int (nI (j + 1))), (4, .int y)] [] σ5 := by
          intro k3
          induction k3 with
          | zero =>
            intro i y σ5 hi hy b1 b2 b3 b4
            subst hy
            have : i = 32 := by omega
            subst this
            refine ev_X10_tallyLights [97, 140] 100 ?_
            refine vt (Int32.le_refl _) ?_
            refine fin _ σ5 b1 b2 (fun c v hc hv => ?_) (sub4 _)
            rw [b4 c v hc hv, if_pos hc]
          | succ k3 ih3 =>
            intro i y σ5 hi hy b1 b2 b3 b4
            subst hy
            refine ev_X10_tallyLights [97, 140] 100 ?_
            refine vf (nnle 32 i (by omega) (by omega)) ?_
            refine ⟨trivial, _, m_lightOf (Or.inr (Or.inl rfl)) b3 (c := i) (by omega), fun z σ6 ⟨k1, k2⟩ => ?_⟩
            cases k2
            have k1 := k1.symm
            subst k1
            have hG8 := (b3 i (by omega)).1
            have eidx : nI i * nI 8 + (nI (G i) &&& nI 7) = nI (i * 8 + G i) := by
              rw [nx_and, and7 _ hG8, pk_mul, nI_add]
            refine And.intro ?_ ?_
            · rw [eidx]
              exact nin (i * 8 + G i) 256 (by omega) (by omega)
            · rw [eidx, nI_clamp (n := i * 8 + G i) (by omega), b4 i (G i) (by omega) hG8, if_neg (by omega)]
              refine And.intro (nin (i * 8 + G i) 256 (by omega) (by omega)) ?_
              rw [nI_clamp (n := i * 8 + G i) (by omega)]
              refine ih3 (i + 1) _ _ (by omega) (nI_add i 1) (b1.tr (fr.pi (k := 37) (by unfold scA; decide))) (shfrc b2 (l := [37]) (fr.pi (by decide)) (fun k a b c => by simp; omega) (by decide)) (b3.fr (l := [37]) (fr.pi (by decide)) (by decide)) (fun c v hc hv => ?_)
              rw [pi_at]
              by_cases q : c = i
              · subst q
                rw [if_pos (by omega : c < c + 1)]
                by_cases q2 : v = G c
                · subst q2
                  rw [if_pos rfl, hstep, decide_eq_true rfl]
                  exact nI_add _ 1
                · rw [if_neg (by omega), b4 c v hc hv, if_neg (by omega), hstep, decide_eq_false (fun z => q2 z.symm)]
                  rfl
              · rw [if_neg (by omega), b4 c v hc hv]
                congr 1
                by_cases q3 : c < i
                · rw [if_pos q3, if_pos (by omega)]
                · rw [if_neg q3, if_neg (by omega)]
        exact loop3 32 0 _ σ4 rfl rfl fA h4 gl4' (fun c v hc hv => by rw [hb4 c v hc hv, if_neg (by omega)])
  have loop1 : ∀ (k j : Nat) (y : Int32) (σ' : qw_M), j + k = 256 → y = nI j → fr scA σ σ' → sh σ' T C P n a L → (∀ q, q < j → (σ' 37).1 q = nI 0) → E_X10_tallyLights Q 2 [(0, .ref 34), (1, .int (nI f)), (2, .int mk), (3, .int y)] [] σ' := by
    intro k
    induction k with
    | zero =>
      intro j y σ' hj hy hf h' hb
      subst hy
      have : j = 256 := by omega
      subst this
      refine ev_X10_tallyLights [2, 26] 100 ?_
      refine vt (Int32.le_refl _) ?_
      exact loop2 8 0 _ _ σ' rfl rfl hf h' (fun c v hc hv => hb _ (by omega)) (fun q hq => hq)
    | succ k ih =>
      intro j y σ' hj hy hf h' hb
      subst hy
      refine ev_X10_tallyLights [2, 26] 100 ?_
      refine vf (nnle 256 j (by omega) (by omega)) ?_
      refine And.intro (nin j 256 (by omega) (by omega)) ?_
      rw [nI_clamp (n := j) (by omega)]
      refine ih (j + 1) _ _ (by omega) (nI_add j 1) (hf.tr (fr.pi (k := 37) (by unfold scA; decide))) (shfrc h' (l := [37]) (fr.pi (by decide)) (fun k a b c => by simp; omega) (by decide)) (fun q hq => ?_)
      rw [pi_at]
      by_cases c : q = j
      · rw [if_pos c]
      · rw [if_neg c]; exact hb q (by omega)
  exact loop1 256 0 _ σ rfl rfl fr.rf h (fun q hq => absurd hq (Nat.not_lt_zero q))
theorem sub_pre {l pre t : qw_L} (h : l = pre ++ t) : ∀ q ∈ pre, q ∈ l := fun q hq => by rw [h]; exact List.mem_append_left _ hq
/-- the greatest of the first numbers -/
def mxn (v : Nat → Nat) : Nat → Nat
  | 0 => 0
  | n + 1 => if mxn v n < v n then v n else mxn v n
theorem mxn_le {v : Nat → Nat} {b : Nat} (h : ∀ i, v i ≤ b) : ∀ n, mxn v n ≤ b
  | 0 => Nat.zero_le _
  | n + 1 => by
    unfold mxn
    split
    · exact h n
    · exact mxn_le h n
def ask (T : TT) (C : CC) (n : Nat) (a : Nat → Nat) (L f : Nat) (mk : Nat → Bool) (c : Nat) : Nat := mxn (tly T C n a L f mk 8 c) 8
theorem m_cellToAsk {σ : qw_M} {T : TT} {C : CC} {P : Nat → Option Nat} {n : Nat} {a : Nat → Nat} {L : Nat} (h : sh σ T C P n a L) {f : Nat} (hf8 : f < tF T) (mk : Int32) : qw_Mt qw_tw wC my_X10_cellToAsk [.ref 34, .int (nI f), .int mk] σ (fun r σ' => fr scA σ σ' ∧ sh σ' T C P n a L ∧ ∃ i, amn (ask T C n a L f (bt mk)) 32 i ∧ r = some (.int (nI i))) := by
  generalize hQ : (fun (r : Option Value) (σ' : qw_M) => fr scA σ σ' ∧ sh σ' T C P n a L ∧ ∃ i, amn (ask T C n a L f (bt mk)) 32 i ∧ r = some (.int (nI i))) = Q
  refine mt_X10_cellToAsk (Q := Q) rfl ?_
  refine ev_X10_cellToAsk [15] 100 ?_
  refine ⟨trivial, _, m_tally h hf8 mk, fun σ1 ⟨f1, h1, ht⟩ => ?_⟩
  generalize htl : tly T C n a L f (bt mk) 8 = tl at ht
  have h8 : ∀ c v, tl c v ≤ 8 := fun c v => by rw [← htl]; exact cnt_le _ 8
  have hask : ∀ c, ask T C n a L f (bt mk) c = mxn (tl c) 8 := fun c => by rw [← htl]; rfl
  have hask8 : ∀ c, ask T C n a L f (bt mk) c ≤ 8 := fun c => by rw [hask]; exact mxn_le (h8 c) 8
  generalize ask T C n a L f (bt mk) = ak at hask hask8 hQ
  have loop : ∀ (k j : Nat) (y b le : Int32) (ls : qw_L), j + k = 32 → y = nI j → ((j = 0 ∧ le = nI 9) ∨ ∃ i, amn ak j i ∧ b = nI i ∧ le = nI (ak i)) → (∀ q ∈ [(0, Value.ref 34), (3, .int b), (4, .int le), (5, .int y)], q ∈ ls) → E_X10_cellToAsk Q 15 ls [] σ1 := by
    intro k
    induction k with
    | zero =>
      intro j y b le ls hj hy hb hls
      subst hy
      have : j = 32 := by omega
      subst this
      refine qw_Ev.sub (ev_X10_cellToAsk [15] 100 ?_) hls
      refine vt (Int32.le_refl _) ?_
      subst hQ
      rcases hb with ⟨z, -⟩ | ⟨i, h1', h2, h3⟩
      · cases z
      · exact ⟨f1, h1, i, h1', by rw [h2]⟩
    | succ k ih =>
      intro j y b le ls hj hy hb hls
      subst hy
      refine qw_Ev.sub (ev_X10_cellToAsk [15, 28] 100 ?_) hls
      refine vf (nnle 32 j (by omega) (by omega)) ?_
      have loop2 : ∀ (k2 i : Nat) (y2 x : Int32), i + k2 = 8 → y2 = nI i → x = nI (mxn (tl j) i) → E_X10_cellToAsk Q 28 [(0, .ref 34), (3, .int b), (4, .int le), (5, .int (nI j)), (6, .int x), (7, .int y2)] [] σ1 := by
        intro k2
        induction k2 with
        | zero =>
          intro i y2 x hi hy2 hx
          subst hy2
          subst hx
          have : i = 8 := by omega
          subst this
          refine ev_X10_cellToAsk [15, 28, 75] 100 ?_
          refine vt (Int32.le_refl _) ?_
          rw [← hask j]
          have fin : ∀ (b2 le2 : Int32) (ls : qw_L), (∃ i, amn ak (j + 1) i ∧ b2 = nI i ∧ le2 = nI (ak i)) → (∀ q ∈ [(0, Value.ref 34), (3, .int b2), (4, .int le2), (5, .int (nI j))], q ∈ ls) → E_X10_cellToAsk Q 75 ls [] σ1 := fun b2 le2 ls a1 a2 => by
            refine qw_Ev.sub (ev_X10_cellToAsk [15] 100 ?_) a2
            exact ih (j + 1) _ _ _ _ (by omega) (nI_add j 1) (Or.inr a1) (fun q hq => hq)
          have h88 := hask8 j
          rcases hb with ⟨z, q⟩ | ⟨i, q1, q2, q3⟩
          · subst z
            rw [q]
            refine vf (nnle 9 (ak 0) (by omega) (by omega)) ?_
            refine fin _ _ _ ⟨0, amn_0, rfl, rfl⟩ (sub_pre rfl)
          · rw [q3]
            have h89 := hask8 i
            by_cases c : ak j < ak i
            · refine vf (nnle (ak i) (ak j) c (by omega)) ?_
              refine fin _ _ _ ⟨j, amn_lt q1 c, rfl, rfl⟩ (sub_pre rfl)
            · refine vt (nle (ak i) (ak j) (by omega) (by omega)) ?_
              refine fin _ _ _ ⟨i, amn_ge q1 (by omega), q2, rfl⟩ (sub_pre rfl)
        | succ k2 ih2 =>
          intro i y2 x hi hy2 hx
          subst hy2
          subst hx
          refine ev_X10_cellToAsk [15, 28, 75] 100 ?_
          refine vf (nnle 8 i (by omega) (by omega)) ?_
          have eidx : nI j * nI 8 + nI i = nI (j * 8 + i) := by rw [pk_mul, nI_add]
          refine And.intro (by rw [eidx]; exact nin (j * 8 + i) 256 (by omega) (by omega)) ?_
          rw [eidx, nI_clamp (n := j * 8 + i) (by omega), ht j i (by omega) (by omega)]
          refine ⟨trivial, _, m_max _ _, fun z σ6 ⟨k1, k2'⟩ => ?_⟩
          cases k2'
          have k1 := k1.symm
          subst k1
          refine ih2 (i + 1) _ _ (by omega) (nI_add i 1) ?_
          have b1 := mxn_le (h8 j) i
          have b2 := h8 j i
          show (if nI (mxn (tl j) i) < nI (tl j i) then nI (tl j i) else nI (mxn (tl j) i)) = nI (if mxn (tl j) i < tl j i then tl j i else mxn (tl j) i)
          by_cases c : mxn (tl j) i < tl j i
          · rw [if_pos c, if_pos (nlt _ _ c (by omega))]
          · rw [if_neg c, if_neg (nnlt _ _ (by omega) (by omega))]
      exact loop2 8 0 _ _ rfl rfl rfl
  refine loop 32 0 _ m1 _ _ rfl rfl (Or.inl ⟨rfl, rfl⟩) (fun z hz => ?_)
  simp only [List.mem_cons, List.not_mem_nil, or_false] at hz
  rcases hz with rfl | rfl | rfl | rfl
  · exact List.mem_of_getElem? (i := 0) rfl
  · exact List.mem_of_getElem? (i := 3) rfl
  · exact List.mem_of_getElem? (i := 4) rfl
  · exact List.mem_of_getElem? (i := 5) rfl
