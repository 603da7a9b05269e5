/-! Show: coversOf, whereabouts, leastBit, shownSteps, firstTouch, darkestStep -/
/-- the first of N places where f holds, -1 if there is none -/
def fst (f : Nat → Bool) (N : Nat) (x : Int32) : Prop := (∃ i, i < N ∧ f i = true ∧ (∀ j, j < i → f j = false) ∧ x = nI i) ∨ ((∀ i, i < N → f i = false) ∧ x = Int32.ofInt (Int.negSucc 0))
theorem m_leastBit (b : Int32) {σ : qw_M} : qw_Mt qw_tw wC my_X7_leastBit [.int b] σ (fun r σ' => σ' = σ ∧ ∃ x, r = some (.int x) ∧ fst (bt b) 32 x) := by
  refine mt_X7_leastBit rfl ?_
  have loop : ∀ (n j : Nat) (x : Int32), j + n = 32 → x = nI j → (∀ i, i < j → bt b i = false) →
      E_X7_leastBit (fun r σ' => σ' = σ ∧ ∃ x, r = some (.int x) ∧ fst (bt b) 32 x) 2 [(0, .int b), (1, .int x)] [] σ := by
    intro n
    induction n with
    | zero =>
      intro j x hj hx hno
      subst hx
      refine ev_X7_leastBit [2] 100 ?_
      refine vt (nle 32 j (by omega) (by omega)) ?_
      exact ⟨rfl, _, rfl, Or.inr ⟨fun i hi => hno i (by omega), rfl⟩⟩
    | succ n ih =>
      intro j x hj hx hno
      subst hx
      refine ev_X7_leastBit [2] 100 ?_
      refine vf (nnle 32 j (by omega) (by omega)) ?_
      cases hb : bt b j with
      | false =>
        refine vt (by rw [bt_u (by omega), rb, hb]) ?_
        exact ih (j + 1) _ (by omega) (nI_add j 1) (fun i hi => by
          by_cases e : i = j
          · rw [e]; exact hb
          · exact hno i (by omega))
      | true =>
        refine vf (by rw [bt_u (by omega), rb, hb]; decide) ?_
        exact ⟨rfl, _, rfl, Or.inl ⟨j, by omega, hb, hno, rfl⟩⟩
  refine ev_X7_leastBit [2] 100 ?_
  exact loop 32 0 _ rfl rfl (fun i h => absurd h (Nat.not_lt_zero i))
theorem nosk : bt (nI 0) = fun _ => false := by
  funext i
  exact b_0 i
/-- where figures are behind a step -/
def ps (T : TT) (C : CC) (s : Nat) : (Nat → Nat) × (Nat → Nat) := gos (tF T) C (fun _ => false) (tdp T) (s + 1)
theorem m_coversOf {σ : qw_M} {T : TT} {C : CC} {P : Nat → Option Nat} {n : Nat} {a : Nat → Nat} {L : Nat} (h : sh σ T C P n a L) {s : Nat} (hs : s < 20) {c : Nat} (hc : c < 32) : qw_Mt qw_tw wC my_X7_coversOf [.ref 7, .int (nI s), .int (nI c)] σ (fun r σ' => fr scr σ σ' ∧ sh σ' T C P n a L ∧ ∃ x, r = some (.int x) ∧ ∀ i, i < 32 → bt x i = (decide (i < tF T) && cv T L (ps T C s).1 (ps T C s).2 i c)) := by
  have hF := h.1.1.1
  refine mt_X7_coversOf rfl ?_
  have loop : ∀ (m j : Nat) (x acc : Int32) (σ' : qw_M), j + m = tF T → x = nI j → fr scr σ σ' → sh σ' T C P n a L → sl σ' L → sg σ' (tF T) (ps T C s).1 (ps T C s).2 (tC T) → (∀ i, i < 32 → bt acc i = (decide (i < j) && cv T L (ps T C s).1 (ps T C s).2 i c)) →
      E_X7_coversOf (fun r σ' => fr scr σ σ' ∧ sh σ' T C P n a L ∧ ∃ x, r = some (.int x) ∧ ∀ i, i < 32 → bt x i = (decide (i < tF T) && cv T L (ps T C s).1 (ps T C s).2 i c)) 10 [(0, .ref 7), (1, .int (nI s)), (2, .int (nI c)), (3, .int acc), (4, .int x)] [] σ' := by
    intro m
    induction m with
    | zero =>
      intro j x acc σ' hj hx hf h' hL hg hb
      subst hx
      have : j = tF T := by omega
      subst this
      refine ev_X7_coversOf [10] 100 ?_
      refine vt (by rw [h'.1.2.1]; exact Int32.le_refl _) ?_
      exact ⟨hf, h', acc, rfl, hb⟩
    | succ m ih =>
      intro j x acc σ' hj hx hf h' hL hg hb
      subst hx
      refine ev_X7_coversOf [10] 100 ?_
      refine vf (by rw [h'.1.2.1]; exact nnle (tF T) j (by omega) (by omega)) ?_
      refine ⟨trivial, _, m_coverOf h'.1 h'.2.2.2.2.2.1 h'.2.2.2.2.2.2 hg hL (f := j) (by omega), fun y σ2 ⟨g1, g2, z, g3, g4⟩ => ?_⟩
      cases g3
      have g1' : fr scr σ' σ2 := g1.mo (by unfold scr; simp)
      refine ih (j + 1) _ _ σ2 (by omega) (nI_add j 1) (hf.tr g1') (h'.fr g1' scr_ok g2) (hL.fr g1 (by decide)) (hg.fr g1 (by intro k _ _; simp; omega)) (fun i hi => ?_)
      rw [bt_u hc, g4 c hc, b_or, hb i hi]
      have hjF : j < tF T := by omega
      cases hv : over L ((ps T C s).1 j) ((ps T C s).2 j) (tK T j) c with
      | false =>
        have e0 : bt (nI (decide (j < tF T) && false).toNat <<< (nI j &&& 31)) i = false := by
          rw [Bool.and_false, b_shl j (by omega) _ hi]
          have : bt (nI false.toNat) (i - j) = false := b_0 _
          rw [this]
          simp
        rw [e0]
        by_cases e : i = j
        · subst e
          simp [cv, hv]
        · have : (i < j ↔ i < j + 1) := by omega
          simp [this]
      | true =>
        have e0 : bt (nI (decide (j < tF T) && true).toNat <<< (nI j &&& 31)) i = decide (i = j) := by
          simp only [hjF, decide_true, Bool.and_true]
          exact bt_shl1 (by omega) hi
        rw [e0]
        by_cases e : i = j
        · subst e
          simp [cv, hv]
        · have : (i < j ↔ i < j + 1) := by omega
          simp [this, e]
  refine ev_X7_coversOf [10] 100 ?_
  refine ⟨trivial, _, m_goTo h hs, fun σ' ⟨k1, k2, k3, k4⟩ => ?_⟩
  refine loop (tF T) 0 _ _ _ (by omega) rfl k1 k2 k3 k4 (fun i hi => ?_)
  rw [nosk]
  simp
/-- what is told of a figure in a step: depth, place, how many cells, the least -/
def wab (T : TT) (L : Nat) (x : (Nat → Nat) × (Nat → Nat)) (f what : Nat) (r : Int32) : Prop := (what = 0 ∧ r = nI (x.1 f)) ∨ (what = 1 ∧ r = nI (x.2 f)) ∨ (what = 2 ∧ r = nI (cnt (cv T L x.1 x.2 f) 32)) ∨ (what = 3 ∧ fst (cv T L x.1 x.2 f) 32 r)
theorem fst_congr {f g : Nat → Bool} {N : Nat} {x : Int32} (h : fst f N x) (e : ∀ i, i < N → g i = f i) : fst g N x := by
  rcases h with ⟨i, h1, h2, h3, h4⟩ | ⟨h1, h2⟩
  · exact Or.inl ⟨i, h1, by rw [e i h1]; exact h2, fun j hj => by rw [e j (by omega)]; exact h3 j hj, h4⟩
  · exact Or.inr ⟨fun i hi => by rw [e i hi]; exact h1 i hi, h2⟩
theorem m_whereabouts {σ : qw_M} {T : TT} {C : CC} {P : Nat → Option Nat} {n : Nat} {a : Nat → Nat} {L : Nat} (h : sh σ T C P n a L) {s : Nat} (hs : s < 20) {f : Nat} (hf : f < tF T) {what : Nat} (hw : what < 4) : qw_Mt qw_tw wC my_X7_whereabouts [.ref 7, .int (nI s), .int (nI f), .int (nI what)] σ (fun r σ' => fr scr σ σ' ∧ sh σ' T C P n a L ∧ ∃ x, r = some (.int x) ∧ wab T L (ps T C s) f what x) := by
  have hF := h.1.1.1
  refine mt_X7_whereabouts rfl (ev_X7_whereabouts [] 100 ?_)
  refine ⟨trivial, _, m_goTo h hs, fun σ' ⟨k1, k2, k3, k4⟩ => ?_⟩
  refine ⟨trivial, _, m_coverOf k2.1 k2.2.2.2.2.2.1 k2.2.2.2.2.2.2 k4 k3 (f := f) (by omega), fun y σ2 ⟨g1, g2, z, g3, g4⟩ => ?_⟩
  cases g3
  have g1' : fr scr σ' σ2 := g1.mo (by unfold scr; simp)
  have k2' := k2.fr g1' scr_ok g2
  have k4' := k4.fr g1 (by intro k _ _; simp; omega)
  have hb : ∀ c, c < 32 → bt y c = cv T L (ps T C s).1 (ps T C s).2 f c := fun c hc => by
    rw [g4 c hc]
    simp [hf, cv, ps]
  have t0 : (nI what).toInt = (what : Int) := nI_toInt (by omega)
  refine And.intro (fun hc => ?_) (And.intro (by decide) (And.intro (fun e0 => ?_) (And.intro (fun e1 => ?_) (And.intro (fun e2 => ?_) trivial))))
  · rw [t0] at hc
    have : what = 3 := by
      rcases hc with hc | hc
      · exact absurd hc (by have : (0 : Int) ≤ (what : Int) := by omega
                            exact Int.not_lt.mpr this)
      · have hc : (2 : Int) < (what : Int) := hc
        omega
    subst this
    refine ⟨trivial, _, m_leastBit y, fun w σ3 ⟨f1, x, f2, f3⟩ => ?_⟩
    cases f2
    subst f1
    exact ⟨k1.tr g1', k2', _, rfl, Or.inr (Or.inr (Or.inr ⟨rfl, fst_congr f3 (fun i hi => (hb i hi).symm)⟩))⟩
  · rw [t0] at e0
    have : what = 0 := by
      have e0 : (what : Int) = 0 := e0
      omega
    subst this
    refine ⟨trivial, _, m_depthOf k2'.1 k4' hf, fun w σ3 ⟨f1, f2⟩ => ?_⟩
    cases f2
    subst f1
    exact ⟨k1.tr g1', k2', _, rfl, Or.inl ⟨rfl, rfl⟩⟩
  · rw [t0] at e1
    have : what = 1 := by
      have e1 : (what : Int) = 0 + 1 := e1
      omega
    subst this
    refine ⟨trivial, _, m_placeOf k2'.1 k4' hf, fun w σ3 ⟨f1, f2⟩ => ?_⟩
    cases f2
    subst f1
    exact ⟨k1.tr g1', k2', _, rfl, Or.inr (Or.inl ⟨rfl, rfl⟩)⟩
  · rw [t0] at e2
    have : what = 2 := by
      have e2 : (what : Int) = 0 + 1 + 1 := e2
      omega
    subst this
    refine ⟨trivial, _, m_bitCount y, fun w σ3 ⟨f1, f2⟩ => ?_⟩
    cases f2
    subst f1
    refine ⟨k1.tr g1', k2', _, rfl, Or.inr (Or.inr (Or.inl ⟨rfl, ?_⟩))⟩
    rw [cnt_congr hb]
theorem scr_mv {σ σ' : qw_M} (h : fr [23, 24] σ σ') : fr scr σ σ' := h.mo (by unfold scr; simp)
/-- the light of a cell behind a step, by these cues -/
def lgS (T : TT) (C : CC) (n : Nat) (a : Nat → Nat) (L : Nat) (s c : Nat) : Nat := if isx a s n then 0 else lit (tF T) (cv T L (ps T C s).1 (ps T C s).2) (tC T) (fun _ => false) 8 c
theorem m_shownSteps {σ : qw_M} {T : TT} {C C2 : CC} {P : Nat → Option Nat} {n : Nat} {a : Nat → Nat} {L : Nat} (h : sh σ T C P n a L) {k : Nat} (hk : k = 14 ∨ k = 39) (h2 : cu σ k C2) : qw_Mt qw_tw wC my_X7_shownSteps [.ref 7, .ref k] σ (fun r σ' => fr scr σ σ' ∧ sh σ' T C P n a L ∧ gl σ' 28 (lgS T C2 n a L 19) ∧ ∃ x, r = some (.int x) ∧ ∀ i, i < 32 → bt x i = (decide (i < 20) && psh P (lgS T C2 n a L i))) := by
  have h39 : ∀ {σ' : qw_M}, fr scr σ σ' → cu σ' k C2 := fun hf => by
    rcases hk with rfl | rfl
    · exact h2.fr hf (by unfold scr; decide) (by unfold scr; decide) (by unfold scr; decide)
    · exact h2.fr hf (by unfold scr; decide) (by unfold scr; decide) (by unfold scr; decide)
  generalize hQ : (fun (r : Option Value) (σ' : qw_M) => fr scr σ σ' ∧ sh σ' T C P n a L ∧ gl σ' 28 (lgS T C2 n a L 19) ∧ ∃ x, r = some (.int x) ∧ ∀ i, i < 32 → bt x i = (decide (i < 20) && psh P (lgS T C2 n a L i))) = Q
  refine mt_X7_shownSteps (Q := Q) rfl ?_
  have loop : ∀ (m j : Nat) (x acc : Int32) (σ' : qw_M), j + m = 20 → x = nI j → fr scr σ σ' → sh σ' T C P n a L → sl σ' L → sg σ' (tF T) (gos (tF T) C2 (fun _ => false) (tdp T) j).1 (gos (tF T) C2 (fun _ => false) (tdp T) j).2 (tC T) → (∀ i, i < 32 → bt acc i = (decide (i < j) && psh P (lgS T C2 n a L i))) → (∀ i, j = i + 1 → gl σ' 28 (lgS T C2 n a L i)) →
      E_X7_shownSteps Q 15 [(0, .ref 7), (1, .ref k), (2, .int acc), (3, .int x)] [] σ' := by
    intro m
    induction m with
    | zero =>
      intro j x acc σ' hj hx hf h' hL hg hb hgl
      subst hx
      have : j = 20 := by omega
      subst this
      refine ev_X7_shownSteps [15] 100 ?_
      refine vt (Int32.le_refl _) ?_
      subst hQ
      exact ⟨hf, h', hgl 19 rfl, acc, rfl, hb⟩
    | succ m ih =>
      intro j x acc σ' hj hx hf h' hL hg hb hgl
      subst hx
      have hC2 := h39 hf
      have step : ∀ (bits : Int32) (σ3 : qw_M), fr scr σ' σ3 → sh σ3 T C P n a L → sl σ3 L → sg σ3 (tF T) (gos (tF T) C2 (fun _ => false) (tdp T) (j + 1)).1 (gos (tF T) C2 (fun _ => false) (tdp T) (j + 1)).2 (tC T) → gl σ3 28 (lgS T C2 n a L j) → (∀ i, i < 32 → bt bits i = (decide (i < j + 1) && psh P (lgS T C2 n a L i))) →
          E_X7_shownSteps Q 15 [(0, .ref 7), (1, .ref k), (2, .int bits), (3, .int (nI j + nI 1))] [] σ3 := fun bits σ3 f1 f2 f3 f4 f5 f6 =>
        ih (j + 1) _ bits σ3 (by omega) (nI_add j 1) (hf.tr f1) f2 f3 f4 f6 (fun i hi => by rw [show i = j by omega]; exact f5)
      refine ev_X7_shownSteps [15] 100 ?_
      refine vf (nnle 20 j (by omega) (by omega)) ?_
      have key : qw_Mt qw_tw wC my_X1_figureOf [.ref k, .int (nI j)] σ' (fun r σ'' => σ'' = σ' ∧ r = some (.int (cuf C2 j))) ∧ qw_Mt qw_tw wC my_X1_whitherOf [.ref k, .int (nI j)] σ' (fun r σ'' => σ'' = σ' ∧ r = some (.int (cuw C2 j))) := ⟨m_figureOf hk hC2 (by omega), m_whitherOf hk hC2 (by omega)⟩
      rcases hk with rfl | rfl
      all_goals
        refine ⟨trivial, _, key.1, fun y1 σ1 ⟨k1, k2⟩ => ?_⟩
        cases k2
        have k1 := k1.symm
        subst k1
        refine ⟨trivial, _, key.2, fun y2 σ2 ⟨k1, k2⟩ => ?_⟩
        cases k2
        have k1 := k1.symm
        subst k1
        refine ⟨trivial, _, m_moveC h'.1 hg hC2.1 j, fun σ3 ⟨k1, k2⟩ => ?_⟩
        have f1 := scr_mv k1
        have f2 := h'.fr f1 scr_ok (h'.2.2.2.2.2.2.fr k1 (by decide))
        have f3 := hL.fr k1 (by decide)
        refine ⟨trivial, _, m_isOut f2.2.2.2.1 (s := j) (by omega), fun y3 σ4 _ ⟨g1, g2⟩ => ?_⟩
        cases g2
        have g1 := g1.symm
        subst g1
        refine ⟨trivial, _, m_shineS f2 k2 f3 (isx a j n) (nI 0), fun σ5 ⟨e1, e2, e3, e4, e5⟩ => ?_⟩
        rw [nosk] at e5
        have e5' : gl σ5 28 (lgS T C2 n a L j) := e5
        refine ⟨trivial, _, m_isShownNow e2.2.2.1 e5', fun y4 σ6 _ ⟨g1, g2⟩ => ?_⟩
        cases g2
        have g1 := g1.symm
        subst g1
        cases hsh : psh P (lgS T C2 n a L j) with
        | false =>
          refine vt rfl ?_
          refine step acc _ (f1.tr e1) e2 e3 e4 e5' (fun i hi => ?_)
          rw [hb i hi]
          by_cases e : i = j
          · subst e
            simp [hsh]
          · have : (i < j ↔ i < j + 1) := by omega
            simp [this]
        | true =>
          refine vf (by decide) ?_
          refine step _ _ (f1.tr e1) e2 e3 e4 e5' (fun i hi => ?_)
          rw [b_or, hb i hi, bt_shl1 (by omega) hi]
          by_cases e : i = j
          · subst e
            simp [hsh]
          · have : (i < j ↔ i < j + 1) := by omega
            simp [this, e]
  have start : ∀ l, l = [(0, Value.ref 7), (1, Value.ref k)] → E_X7_shownSteps Q 0 l [] σ := by
    intro l hl
    subst hl
    refine ev_X7_shownSteps [15] 100 ?_
    refine ⟨trivial, fun _ σ' => fr [21, 23, 24, 25] σ σ' ∧ sl σ' L ∧ sg σ' (tF T) (tD T) (tP T) (tC T), ?_, fun σ' ⟨k1, k2, k3⟩ => ?_⟩
    · show qw_Mt qw_tw wC my_X8_start [.ref 21, .int ((σ 7).1 5)] σ _
      rw [h.2.2.2.2.1.2]
      exact m_start h.1 h.2.2.2.2.1.1
    · have k1' : fr scr σ σ' := k1.mo (by unfold scr; simp)
      have h' := h.fr k1' scr_ok (h.2.2.2.2.2.2.fr k1 (by decide))
      refine loop 20 0 _ _ _ rfl rfl k1' h' k2 k3 (fun i hi => ?_) (fun i hi => by omega)
      rw [nosk]
      simp
  exact start _ rfl
/-- the first touch: step and pair -/
def ftc (T : TT) (C : CC) (what : Nat) (x : Int32) : Prop := (∃ s a b, s < 20 ∧ a < b ∧ b < tF T ∧ tch T (ps T C s).1 (ps T C s).2 a b = true ∧ (∀ a2 b2, a2 < b2 → b2 < tF T → a2 < a ∨ (a2 = a ∧ b2 < b) → tch T (ps T C s).1 (ps T C s).2 a2 b2 = false) ∧ (∀ s2 a2 b2, s2 < s → a2 < b2 → b2 < tF T → tch T (ps T C s2).1 (ps T C s2).2 a2 b2 = false) ∧ x = nI (if what = 0 then s else if what = 1 then a else b)) ∨ ((∀ s a b, s < 20 → a < b → b < tF T → tch T (ps T C s).1 (ps T C s).2 a b = false) ∧ x = Int32.ofInt (Int.negSucc 0))
theorem m_firstTouch {σ : qw_M} {T : TT} {C : CC} {P : Nat → Option Nat} {n : Nat} {a : Nat → Nat} {L : Nat} (h : sh σ T C P n a L) {what : Nat} (hw : what < 3) : qw_Mt qw_tw wC my_X7_firstTouch [.ref 7, .int (nI what)] σ (fun r σ' => fr scr σ σ' ∧ sh σ' T C P n a L ∧ ∃ x, r = some (.int x) ∧ ftc T C what x) := by
  have hF := h.1.1.1
  generalize hQ : (fun (r : Option Value) (σ' : qw_M) => fr scr σ σ' ∧ sh σ' T C P n a L ∧ ∃ x, r = some (.int x) ∧ ftc T C what x) = Q
  refine mt_X7_firstTouch (Q := Q) rfl ?_
  have loop : ∀ (m j : Nat) (x : Int32) (σ' : qw_M) (ls : qw_L), j + m = 20 → x = nI j → fr scr σ σ' → sh σ' T C P n a L → sl σ' L → sg σ' (tF T) (gos (tF T) C (fun _ => false) (tdp T) j).1 (gos (tF T) C (fun _ => false) (tdp T) j).2 (tC T) → (∀ s2 a2 b2, s2 < j → a2 < b2 → b2 < tF T → tch T (ps T C s2).1 (ps T C s2).2 a2 b2 = false) →
      (∀ q ∈ [(0, Value.ref 7), (1, .int (nI what)), (2, .int x)], q ∈ ls) → E_X7_firstTouch Q 13 ls [] σ' := by
    intro m
    induction m with
    | zero =>
      intro j x σ' ls hj hx hf h' hL hg hno hls
      subst hx
      have : j = 20 := by omega
      subst this
      refine qw_Ev.sub (ev_X7_firstTouch [13] 100 ?_) hls
      refine vt (Int32.le_refl _) ?_
      subst hQ
      exact ⟨hf, h', _, rfl, Or.inr ⟨hno, rfl⟩⟩
    | succ m ih =>
      intro j x σ' ls hj hx hf h' hL hg hno hls
      subst hx
      refine qw_Ev.sub (ev_X7_firstTouch [13] 100 ?_) hls
      refine vf (nnle 20 j (by omega) (by omega)) ?_
      refine ⟨trivial, _, m_figureOf (Or.inl rfl) h'.2.1 (s := j) (by omega), fun y1 σ1 ⟨k1, k2⟩ => ?_⟩
      cases k2
      have k1 := k1.symm
      subst k1
      refine ⟨trivial, _, m_whitherOf (Or.inl rfl) h'.2.1 (s := j) (by omega), fun y2 σ2 ⟨k1, k2⟩ => ?_⟩
      cases k2
      have k1 := k1.symm
      subst k1
      refine ⟨trivial, _, m_moveC h'.1 hg h'.2.1.1 j, fun σ3 ⟨k1, k2⟩ => ?_⟩
      have f1 := scr_mv k1
      have f2 := h'.fr f1 scr_ok (h'.2.2.2.2.2.2.fr k1 (by decide))
      have f3 := hL.fr k1 (by decide)
      refine ⟨trivial, _, m_touchingPair f2.1 k2, fun y σ4 ⟨g1, g2⟩ => ?_⟩
      have g1 := g1.symm
      subst g1
      rcases g2 with ⟨p, q, q1, q2, q3, q4, q5⟩ | ⟨q1, q2⟩
      · cases q5
        refine vf (nI_m1 (by omega)) ?_
        have done : ∀ x, x = nI (if what = 0 then j else if what = 1 then p else q) → Q (some (.int x)) σ3 := fun x hx => by
          subst hQ
          exact ⟨hf.tr f1, f2, x, rfl, Or.inl ⟨j, p, q, by omega, q1, q2, q3, q4, hno, hx⟩⟩
        rcases (show what = 0 ∨ what = 1 ∨ what = 2 by omega) with rfl | rfl | rfl
        · refine vnf rfl ?_
          exact done _ rfl
        · refine vnt (by decide) ?_
          refine vnf rfl ?_
          refine And.intro (by decide) ?_
          refine done _ ?_
          rw [pk_div (a := p * 8 + q) (d := 8) (by omega) (by omega) (by omega)]
          show nI ((p * 8 + q) / 8) = nI p
          rw [show (p * 8 + q) / 8 = p by omega]
        · refine vnt (by decide) ?_
          refine vnt (by decide) ?_
          refine And.intro (by decide) ?_
          refine done _ ?_
          rw [pk_rem (a := p * 8 + q) (d := 8) (by omega) (by omega) (by omega)]
          show nI ((p * 8 + q) % 8) = nI q
          rw [show (p * 8 + q) % 8 = q by omega]
      · cases q2
        refine vt rfl ?_
        refine ih (j + 1) _ σ3 _ (by omega) (nI_add j 1) (hf.tr f1) f2 f3 k2 (fun s2 a2 b2 h1 h2 h3 => ?_) ?_
        · by_cases e : s2 = j
          · subst e
            exact q1 a2 b2 h2 h3
          · exact hno s2 a2 b2 (by omega) h2 h3
        · intro z hz
          simp only [List.mem_cons, List.not_mem_nil, or_false] at hz
          rcases hz with rfl | rfl | rfl
          · exact List.mem_of_getElem? (i := 0) rfl
          · exact List.mem_of_getElem? (i := 1) rfl
          · exact List.mem_of_getElem? (i := 2) rfl
  refine ev_X7_firstTouch [13] 100 ?_
  refine ⟨trivial, fun _ σ' => fr [21, 23, 24, 25] σ σ' ∧ sl σ' L ∧ sg σ' (tF T) (tD T) (tP T) (tC T), ?_, fun σ' ⟨k1, k2, k3⟩ => ?_⟩
  · show qw_Mt qw_tw wC my_X8_start [.ref 21, .int ((σ 7).1 5)] σ _
    rw [h.2.2.2.2.1.2]
    exact m_start h.1 h.2.2.2.2.1.1
  · have k1' : fr scr σ σ' := k1.mo (by unfold scr; simp)
    have h' := h.fr k1' scr_ok (h.2.2.2.2.2.2.fr k1 (by decide))
    exact loop 20 0 _ _ _ rfl rfl k1' h' k2 k3 (fun s2 _ _ hs => absurd hs (Nat.not_lt_zero _)) (fun q hq => hq)
/-- how many are dark, if there is no flicker -/
def dkn (T : TT) (C : CC) (L s : Nat) : Nat := cnt (fun c => lit (tF T) (cv T L (ps T C s).1 (ps T C s).2) (tC T) (fun _ => false) 8 c == 0) 32
/-- the darkest of the first steps: which, how many -/
def dks (dk : Nat → Nat) (o : Nat → Bool) : Nat → Option (Nat × Nat)
  | 0 => none
  | s + 1 => match dks dk o s with
    | none => if o s then none else some (s, dk s)
    | some b => if !o s && decide (b.2 < dk s) then some (s, dk s) else some b
def dkb (x : Option (Nat × Nat)) : Int32 := match x with
  | some b => nI b.1
  | none => Int32.ofInt (Int.negSucc 0)
def dkm (x : Option (Nat × Nat)) : Int32 := match x with
  | some b => nI b.2
  | none => Int32.ofInt (Int.negSucc 0)
theorem dks_le {dk : Nat → Nat} {o : Nat → Bool} (h : ∀ s, dk s ≤ 32) : ∀ (n : Nat) (b : Nat × Nat), dks dk o n = some b → b.1 < n ∧ b.2 ≤ 32
  | 0, b, hb => by cases hb
  | n + 1, b, hb => by
    unfold dks at hb
    cases hd : dks dk o n with
    | none =>
      rw [hd] at hb
      dsimp only at hb
      split at hb
      · cases hb
      · cases hb
        exact ⟨by show n < n + 1; omega, h n⟩
    | some b2 =>
      rw [hd] at hb
      dsimp only at hb
      have := dks_le h n b2 hd
      split at hb
      · cases hb
        exact ⟨by show n < n + 1; omega, h n⟩
      · cases hb
        exact ⟨by omega, this.2⟩
theorem m_darkestStep {σ : qw_M} {T : TT} {C : CC} {P : Nat → Option Nat} {n : Nat} {a : Nat → Nat} {L : Nat} (h : sh σ T C P n a L) : qw_Mt qw_tw wC my_X7_darkestStep [.ref 7] σ (fun r σ' => fr scr σ σ' ∧ sh σ' T C P n a L ∧ r = some (.int (dkb (dks (dkn T C L) (fun s => isx a s n) 20)))) := by
  have hF := h.1.1.1
  have hd32 : ∀ s, dkn T C L s ≤ 32 := fun s => cnt_le _ 32
  generalize hQ : (fun (r : Option Value) (σ' : qw_M) => fr scr σ σ' ∧ sh σ' T C P n a L ∧ r = some (.int (dkb (dks (dkn T C L) (fun s => isx a s n) 20)))) = Q
  refine mt_X7_darkestStep (Q := Q) rfl ?_
  have loop : ∀ (m j : Nat) (x b1 b2 : Int32) (σ' : qw_M), j + m = 20 → x = nI j → b1 = dkb (dks (dkn T C L) (fun s => isx a s n) j) → b2 = dkm (dks (dkn T C L) (fun s => isx a s n) j) → fr scr σ σ' → sh σ' T C P n a L → sl σ' L → sg σ' (tF T) (gos (tF T) C (fun _ => false) (tdp T) j).1 (gos (tF T) C (fun _ => false) (tdp T) j).2 (tC T) →
      E_X7_darkestStep Q 17 [(0, Value.ref 7), (1, .int b1), (2, .int b2), (3, .int x)] [] σ' := by
    intro m
    induction m with
    | zero =>
      intro j x b1 b2 σ' hj hx hb1 hb2 hf h' hL hg
      subst hx
      have : j = 20 := by omega
      subst this
      refine ev_X7_darkestStep [17] 100 ?_
      refine vt (Int32.le_refl _) ?_
      subst hQ
      exact ⟨hf, h', by rw [hb1]⟩
    | succ m ih =>
      intro j x b1 b2 σ' hj hx hb1 hb2 hf h' hL hg
      subst hx
      refine ev_X7_darkestStep [17, 69] 100 ?_
      refine vf (nnle 20 j (by omega) (by omega)) ?_
      refine ⟨trivial, _, m_figureOf (Or.inl rfl) h'.2.1 (s := j) (by omega), fun y1 σ1 ⟨k1, k2⟩ => ?_⟩
      cases k2
      have k1 := k1.symm
      subst k1
      refine ⟨trivial, _, m_whitherOf (Or.inl rfl) h'.2.1 (s := j) (by omega), fun y2 σ2 ⟨k1, k2⟩ => ?_⟩
      cases k2
      have k1 := k1.symm
      subst k1
      refine ⟨trivial, _, m_moveC h'.1 hg h'.2.1.1 j, fun σ3 ⟨k1, k2⟩ => ?_⟩
      have f1 := scr_mv k1
      have f2 := h'.fr f1 scr_ok (h'.2.2.2.2.2.2.fr k1 (by decide))
      have f3 := hL.fr k1 (by decide)
      refine ⟨trivial, _, m_shineS f2 k2 f3 false (nI 0), fun σ5 ⟨e1, e2, e3, e4, e5⟩ => ?_⟩
      rw [nosk] at e5
      have e5' : gl σ5 28 (lit (tF T) (cv T L (ps T C j).1 (ps T C j).2) (tC T) (fun _ => false) 8) := e5.congr (fun c hc => rfl)
      refine ⟨trivial, _, m_dark (Or.inr (Or.inl rfl)) e5', fun y σ6 ⟨g1, g2⟩ => ?_⟩
      cases g2
      have g1 := g1.symm
      subst g1
      have hdk : cnt (fun c => lit (tF T) (cv T L (ps T C j).1 (ps T C j).2) (tC T) (fun _ => false) 8 c == 0) 32 = dkn T C L j := rfl
      rw [hdk]
      have step : ∀ (c1 c2 : Int32), c1 = dkb (dks (dkn T C L) (fun s => isx a s n) (j + 1)) → c2 = dkm (dks (dkn T C L) (fun s => isx a s n) (j + 1)) → E_X7_darkestStep Q 17 [(0, Value.ref 7), (1, .int c1), (2, .int c2), (3, .int (nI j + nI 1))] [] σ5 := fun c1 c2 h1 h2 =>
        ih (j + 1) _ c1 c2 _ (by omega) (nI_add j 1) h1 h2 ((hf.tr f1).tr e1) e2 e3 e4
      have ifout : isx a j n = true → dks (dkn T C L) (fun s => isx a s n) (j + 1) = dks (dkn T C L) (fun s => isx a s n) j := fun ho => by
        show (match dks (dkn T C L) (fun s => isx a s n) j with | none => if isx a j n then none else some (j, dkn T C L j) | some b => if !isx a j n && decide (b.2 < dkn T C L j) then some (j, dkn T C L j) else some b) = _
        cases dks (dkn T C L) (fun s => isx a s n) j <;> simp [ho]
      have more : (dks (dkn T C L) (fun s => isx a s n) j = none ∨ ∃ b, dks (dkn T C L) (fun s => isx a s n) j = some b ∧ b.2 < dkn T C L j) → E_X7_darkestStep Q 69 [(0, Value.ref 7), (1, .int b1), (2, .int b2), (3, .int (nI j))] [] σ5 := fun hm => by
        refine ev_X7_darkestStep [17] 100 ?_
        refine ⟨trivial, _, m_isOut e2.2.2.2.1 (s := j) (by omega), fun y3 σ4 _ ⟨g1, g2⟩ => ?_⟩
        cases g2
        have g1 := g1.symm
        subst g1
        cases ho : isx a j n with
        | true =>
          refine vnt (by decide) ?_
          refine step b1 b2 ?_ ?_
          · rw [ifout ho]; exact hb1
          · rw [ifout ho]; exact hb2
        | false =>
          refine vnf rfl ?_
          refine ⟨trivial, _, m_dark (Or.inr (Or.inl rfl)) e5', fun y σ6 ⟨g1, g2⟩ => ?_⟩
          cases g2
          have g1 := g1.symm
          subst g1
          have e : dks (dkn T C L) (fun s => isx a s n) (j + 1) = some (j, dkn T C L j) := by
            show (match dks (dkn T C L) (fun s => isx a s n) j with | none => if isx a j n then none else some (j, dkn T C L j) | some b => if !isx a j n && decide (b.2 < dkn T C L j) then some (j, dkn T C L j) else some b) = _
            rcases hm with hm | ⟨b, hm, hb⟩
            · rw [hm]
              simp [ho]
            · rw [hm]
              simp [ho, hb]
          refine step _ _ ?_ ?_
          · rw [e]; rfl
          · rw [e]; rfl
      cases hdj : dks (dkn T C L) (fun s => isx a s n) j with
      | none =>
        refine vf ?_ (more (Or.inl hdj))
        rw [hb2, hdj]
        intro z
        exact nI_pos (n := dkn T C L j) (by have := hd32 j; omega) (Int32.lt_of_le_of_lt z (by decide))
      | some b =>
        obtain ⟨-, hb32⟩ := dks_le hd32 j b hdj
        have e2b : b2 = nI b.2 := by rw [hb2, hdj]; rfl
        by_cases c : b.2 < dkn T C L j
        · refine vf ?_ (more (Or.inr ⟨b, hdj, c⟩))
          rw [e2b]
          exact nnle (dkn T C L j) b.2 c (by have := hd32 j; omega)
        · refine vt ?_ ?_
          · rw [e2b]
            exact nle (dkn T C L j) b.2 (by omega) (by omega)
          · have e : dks (dkn T C L) (fun s => isx a s n) (j + 1) = dks (dkn T C L) (fun s => isx a s n) j := by
              show (match dks (dkn T C L) (fun s => isx a s n) j with | none => if isx a j n then none else some (j, dkn T C L j) | some b => if !isx a j n && decide (b.2 < dkn T C L j) then some (j, dkn T C L j) else some b) = _
              rw [hdj]
              simp [c]
            refine step b1 b2 ?_ ?_
            · rw [e]; exact hb1
            · rw [e]; exact hb2
  refine ev_X7_darkestStep [17] 100 ?_
  refine ⟨trivial, fun _ σ' => fr [21, 23, 24, 25] σ σ' ∧ sl σ' L ∧ sg σ' (tF T) (tD T) (tP T) (tC T), ?_, fun σ' ⟨k1, k2, k3⟩ => ?_⟩
  · show qw_Mt qw_tw wC my_X8_start [.ref 21, .int ((σ 7).1 5)] σ _
    rw [h.2.2.2.2.1.2]
    exact m_start h.1 h.2.2.2.2.1.1
  · have k1' : fr scr σ σ' := k1.mo (by unfold scr; simp)
    have h' := h.fr k1' scr_ok (h.2.2.2.2.2.2.fr k1 (by decide))
    exact loop 20 0 _ _ _ _ rfl rfl rfl rfl k1' h' k2 k3
