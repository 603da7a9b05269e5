/-! Show: cues done, the stage lit, what is shown -/
/-- flickers: the steps told, one behind the other -/
def fk (σ : qw_M) (n : Nat) (a : Nat → Nat) : Prop := n ≤ 8 ∧ (σ 19).1 1 = nI n ∧ ∀ i, i < n → a i < 20 ∧ (σ 20).1 i = nI (a i)
theorem fk.fr {σ σ' : qw_M} {n : Nat} {a : Nat → Nat} {l : List Nat} (h : fk σ n a) (hf : fr l σ σ') (h0 : 19 ∉ l) (h1 : 20 ∉ l) : fk σ' n a := by
  unfold fk
  rw [hf 19 h0, hf 20 h1]
  exact h
/-- whether a step is one of the first n -/
def isx (a : Nat → Nat) (s : Nat) : Nat → Bool
  | 0 => false
  | n + 1 => isx a s n || decide (a n = s)
theorem isx_false {a : Nat → Nat} {s : Nat} : ∀ {n : Nat}, isx a s n = false ↔ ∀ i, i < n → a i ≠ s
  | 0 => ⟨fun _ i h => absurd h (Nat.not_lt_zero i), fun _ => rfl⟩
  | n + 1 => by
    have ih := isx_false (a := a) (s := s) (n := n)
    constructor
    · intro h i hi
      have h : (isx a s n || decide (a n = s)) = false := h
      rw [Bool.or_eq_false_iff] at h
      rcases Nat.lt_or_ge i n with q | q
      · exact ih.mp h.1 i q
      · have : i = n := by omega
        subst this
        exact of_decide_eq_false h.2
    · intro h
      show (isx a s n || decide (a n = s)) = false
      rw [ih.mpr (fun i hi => h i (by omega)), decide_eq_false (h n (by omega))]
      rfl
theorem isx_true {a : Nat → Nat} {s n : Nat} {i : Nat} (hi : i < n) (h : a i = s) : isx a s n = true := by
  cases hb : isx a s n with
  | true => rfl
  | false => exact absurd h (isx_false.mp hb i hi)
theorem m_isOut {σ : qw_M} {n : Nat} {a : Nat → Nat} (hk : fk σ n a) {s : Nat} (hs : s < 20) : qw_Mt qw_tw wC my_X7_isOut [.ref 7, .int (nI s)] σ (fun r σ' => σ' = σ ∧ r = some (.int (nI (isx a s n).toNat))) := by
  obtain ⟨hn, h1, h2⟩ := hk
  refine mt_X7_isOut rfl ?_
  have loop : ∀ (m j : Nat) (x : Int32), j + m = n → x = nI j → (∀ i, i < j → a i ≠ s) →
      E_X7_isOut (fun r σ' => σ' = σ ∧ r = some (.int (nI (isx a s n).toNat))) 2 [(0, .ref 7), (1, .int (nI s)), (2, .int x)] [] σ := by
    intro m
    induction m with
    | zero =>
      intro j x hj hx hno
      subst hx
      refine ev_X7_isOut [2] 100 ?_
      refine vt (by rw [h1]; exact nle n j (by omega) (by omega)) ?_
      refine ⟨Or.inl rfl, rfl, ?_⟩
      rw [isx_false.mpr (fun i hi => hno i (by omega))]
      rfl
    | succ m ih =>
      intro j x hj hx hno
      subst hx
      refine ev_X7_isOut [2] 100 ?_
      refine vf (by rw [h1]; exact nnle n j (by omega) (by omega)) ?_
      refine ⟨trivial, _, m_item (k := 19) (N := 8) (by unfold qr_row; omega) h1 hn _, fun x σ' ⟨k1, k2⟩ => ?_⟩
      have k1 := k1.symm
      subst k1
      rcases k2 with ⟨i, hi, e, k2⟩ | ⟨k2, -⟩
      · have : j = i := nI_i (by omega) (by omega) e
        subst this
        cases k2
        have h3 := (h2 j hi)
        by_cases c : a j = s
        · refine vnf (by rw [show (19 + 1) = 20 from rfl, h3.2, c]) ?_
          refine ⟨Or.inr rfl, rfl, ?_⟩
          rw [isx_true hi c]
          rfl
        · refine vnt (by rw [show (19 + 1) = 20 from rfl, h3.2]; exact nne (a j) s c (by omega) (by omega)) ?_
          exact ih (j + 1) _ (by omega) (nI_add j 1) (fun i hi => by
            by_cases e : i = j
            · rw [e]; exact c
            · exact hno i (by omega))
      · exact absurd rfl (k2 j (by omega))
  refine ev_X7_isOut [2] 100 ?_
  exact loop n 0 _ (by omega) rfl (fun i h => absurd h (Nat.not_lt_zero i))
/-- a cue done: depths and places behind it -/
def stp (F : Nat) (q : Option (Nat × Nat)) (x : (Nat → Nat) × (Nat → Nat)) : (Nat → Nat) × (Nat → Nat) := match q with
  | some z => if z.1 < F then (va_up x.1 z.1 (mvD z.2 (x.1 z.1)), va_up x.2 z.1 (mvP z.2 (x.2 z.1))) else x
  | none => x
/-- the first steps' cues done, but some -/
def gos (F : Nat) (C : CC) (skip : Nat → Bool) (x : (Nat → Nat) × (Nat → Nat)) : Nat → (Nat → Nat) × (Nat → Nat)
  | 0 => x
  | s + 1 => if skip s then gos F C skip x s else stp F (C s) (gos F C skip x s)
theorem m_moveC {T : TT} {σ : qw_M} (hT : tr σ T) {x : (Nat → Nat) × (Nat → Nat)} {q : Nat → Nat} (hs : sg σ (tF T) x.1 x.2 q) {C : CC} (hC : ∀ s f w, C s = some (f, w) → f < 8 ∧ w < 4) (s : Nat) : qw_Mt qw_tw wC my_X8_move [.ref 21, .int (cuf C s), .int (cuw C s)] σ (fun _ σ' => fr [23, 24] σ σ' ∧ sg σ' (tF T) (stp (tF T) (C s) x).1 (stp (tF T) (C s) x).2 q) := by
  have hF := hT.1.1
  cases h : C s with
  | none =>
    rw [cuf_none h]
    refine mt_mono (m_move0 hT (fun f hf => ?_)) (fun r σ' k => ?_)
    · exact fun e => nI_m1 (a := f) (by omega) e.symm
    · subst k
      exact ⟨fr.rf, hs⟩
  | some z =>
    obtain ⟨h8, h4⟩ := hC s z.1 z.2 h
    have e1 : cuf C s = nI z.1 := by simp only [cuf, h]
    have e2 : cuw C s = nI z.2 := by simp only [cuw, h]
    rw [e1, e2]
    by_cases hz : z.1 < tF T
    · refine mt_mono (m_move hT hs hz h4) (fun r σ' ⟨k1, k2⟩ => ⟨k1, ?_⟩)
      simp only [stp, hz, if_true]
      exact k2
    · refine mt_mono (m_move0 hT (fun f hf => ?_)) (fun r σ' k => ?_)
      · exact fun e => hz (by have := nI_i (a := z.1) (b := f) (by omega) (by omega) e; omega)
      · subst k
        simp only [stp, hz, if_false]
        exact ⟨fr.rf, hs⟩
theorem m_doCues {T : TT} {σ : qw_M} (hT : tr σ T) {x : (Nat → Nat) × (Nat → Nat)} {q : Nat → Nat} (hs : sg σ (tF T) x.1 x.2 q) {C : CC} (hC : cu σ 14 C) {last : Nat} (hl : last < 20) (wo : Int32) : qw_Mt qw_tw wC my_X7_doCues [.ref 7, .int (nI last), .int wo] σ (fun _ σ' => fr [23, 24] σ σ' ∧ sg σ' (tF T) (gos (tF T) C (bt wo) x (last + 1)).1 (gos (tF T) C (bt wo) x (last + 1)).2 q) := by
  refine mt_X7_doCues rfl ?_
  have loop : ∀ (n j : Nat) (y : Int32) (σ' : qw_M), j + n = last + 1 → y = nI j → fr [23, 24] σ σ' → sg σ' (tF T) (gos (tF T) C (bt wo) x j).1 (gos (tF T) C (bt wo) x j).2 q →
      E_X7_doCues (fun _ σ' => fr [23, 24] σ σ' ∧ sg σ' (tF T) (gos (tF T) C (bt wo) x (last + 1)).1 (gos (tF T) C (bt wo) x (last + 1)).2 q) 2 [(0, .ref 7), (1, .int (nI last)), (2, .int wo), (3, .int y)] [] σ' := by
    intro n
    induction n with
    | zero =>
      intro j y σ' hj hy hf hg
      subst hy
      have : j = last + 1 := by omega
      subst this
      refine ev_X7_doCues [2] 100 ?_
      refine vt (nlt last (last + 1) (by omega) (by omega)) ?_
      exact ⟨hf, hg⟩
    | succ n ih =>
      intro j y σ' hj hy hf hg
      subst hy
      refine ev_X7_doCues [2] 100 ?_
      refine vf (nnlt last j (by omega) (by omega)) ?_
      refine vf (nnle 20 j (by omega) (by omega)) ?_
      have ew : (wo >>> (nI j &&& 31)) &&& nI 1 = nI (bt wo j).toNat := bt_s (by omega)
      refine vnb (fun a => ?_) (fun a => ?_)
      · rw [ew, rb] at a
        have a : bt wo j = true := by simpa using a
        refine ih (j + 1) _ _ (by omega) (nI_add j 1) hf ?_
        simp only [gos, a, if_true]
        exact hg
      · rw [ew, rb] at a
        have hT' := hT.fr hf (by intro k _ _; simp; omega)
        have hC' := hC.fr hf (by decide) (by decide) (by decide)
        refine ⟨trivial, _, m_figureOf (Or.inl rfl) hC' (s := j) (by omega), fun y1 σ1 ⟨k1, k2⟩ => ?_⟩
        cases k2
        have k1 := k1.symm
        subst k1
        refine ⟨trivial, _, m_whitherOf (Or.inl rfl) hC' (s := j) (by omega), fun y2 σ2 ⟨k1, k2⟩ => ?_⟩
        cases k2
        have k1 := k1.symm
        subst k1
        refine ⟨trivial, _, m_moveC hT' hg hC.1 j, fun σ3 ⟨k1, k2⟩ => ?_⟩
        refine ih (j + 1) _ _ (by omega) (nI_add j 1) (hf.tr k1) ?_
        simp only [gos, a]
        exact k2
  refine ev_X7_doCues [2] 100 ?_
  exact loop (last + 1) 0 _ _ (by omega) rfl fr.rf hs
/-- all that is told, for the stage -/
def sh (σ : qw_M) (T : TT) (C : CC) (P : Nat → Option Nat) (n : Nat) (a : Nat → Nat) (L : Nat) : Prop := tr σ T ∧ cu σ 14 C ∧ pic σ P ∧ fk σ n a ∧ (L < 32 ∧ (σ 7).1 5 = nI L) ∧ ry σ ∧ ca σ T
/-- cells of the stage that anything may leave changed -/
def scr : List Nat := [21, 23, 24, 25, 26, 27, 28]
theorem sh.fr {σ σ' : qw_M} {T : TT} {C : CC} {P : Nat → Option Nat} {n : Nat} {a : Nat → Nat} {L : Nat} {l : List Nat} (h : sh σ T C P n a L) (hf : fr l σ σ') (hl : ∀ k, 7 ≤ k → k ≤ 22 → k ≠ 21 → k ∉ l) (hc : ca σ' T) : sh σ' T C P n a L := by
  obtain ⟨h1, h2, h3, h4, h5, h6, h7⟩ := h
  exact ⟨h1.fr hf (fun k a b => hl k (by omega) (by omega) (by omega)), h2.fr hf (hl 14 (by omega) (by omega) (by omega)) (hl 15 (by omega) (by omega) (by omega)) (hl 16 (by omega) (by omega) (by omega)), h3.fr hf (hl 17 (by omega) (by omega) (by omega)) (hl 18 (by omega) (by omega) (by omega)), h4.fr hf (hl 19 (by omega) (by omega) (by omega)) (hl 20 (by omega) (by omega) (by omega)), by rw [hf 7 (hl 7 (by omega) (by omega) (by omega))]; exact h5, h6.fr hf (hl 22 (by omega) (by omega) (by omega)), hc⟩
theorem scr_ok : ∀ k, 7 ≤ k → k ≤ 22 → k ≠ 21 → k ∉ scr := by
  intro k h1 h2 h3
  unfold scr
  simp
  omega
/-- told: where figures are at first -/
def tdp (T : TT) : (Nat → Nat) × (Nat → Nat) := (tD T, tP T)
theorem m_open {σ : qw_M} {T : TT} {C : CC} {P : Nat → Option Nat} {n : Nat} {a : Nat → Nat} {L : Nat} (h : sh σ T C P n a L) : qw_Mt qw_tw wC my_X7_open [.ref 7] σ (fun _ σ' => fr scr σ σ' ∧ sh σ' T C P n a L ∧ sl σ' L ∧ sg σ' (tF T) (tD T) (tP T) (tC T)) := by
  refine mt_X7_open rfl (ev_X7_open [] 100 ?_)
  refine ⟨trivial, fun _ σ' => fr [21, 23, 24, 25] σ σ' ∧ sl σ' L ∧ sg σ' (tF T) (tD T) (tP T) (tC T), ?_, fun σ' ⟨k1, k2, k3⟩ => ?_⟩
  · show qw_Mt qw_tw wC my_X8_start [.ref 21, .int ((σ 7).1 5)] σ _
    rw [h.2.2.2.2.1.2]
    exact m_start h.1 h.2.2.2.2.1.1
  · have k1' : fr scr σ σ' := k1.mo (by unfold scr; simp)
    exact ⟨k1', h.fr k1' scr_ok (h.2.2.2.2.2.2.fr k1 (by decide)), k2, k3⟩
theorem m_goTo {σ : qw_M} {T : TT} {C : CC} {P : Nat → Option Nat} {n : Nat} {a : Nat → Nat} {L : Nat} (h : sh σ T C P n a L) {s : Nat} (hs : s < 20) : qw_Mt qw_tw wC my_X7_goTo [.ref 7, .int (nI s)] σ (fun _ σ' => fr scr σ σ' ∧ sh σ' T C P n a L ∧ sl σ' L ∧ sg σ' (tF T) (gos (tF T) C (fun _ => false) (tdp T) (s + 1)).1 (gos (tF T) C (fun _ => false) (tdp T) (s + 1)).2 (tC T)) := by
  have e0 : bt (nI 0) = fun _ => false := by
    funext i
    exact b_0 i
  refine mt_X7_goTo rfl (ev_X7_goTo [] 100 ?_)
  refine ⟨trivial, fun _ σ' => fr [21, 23, 24, 25] σ σ' ∧ sl σ' L ∧ sg σ' (tF T) (tD T) (tP T) (tC T), ?_, fun σ' ⟨k1, k2, k3⟩ => ?_⟩
  · show qw_Mt qw_tw wC my_X8_start [.ref 21, .int ((σ 7).1 5)] σ _
    rw [h.2.2.2.2.1.2]
    exact m_start h.1 h.2.2.2.2.1.1
  · have k1' : fr scr σ σ' := k1.mo (by unfold scr; simp)
    have h' := h.fr k1' scr_ok (h.2.2.2.2.2.2.fr k1 (by decide))
    refine ⟨trivial, _, m_doCues h'.1 (x := tdp T) k3 h'.2.1 hs (nI 0), fun σ2 ⟨g1, g2⟩ => ?_⟩
    rw [e0] at g2
    have g1' : fr scr σ' σ2 := g1.mo (by unfold scr; simp)
    exact ⟨k1'.tr g1', h'.fr g1' scr_ok (h'.2.2.2.2.2.2.fr g1 (by decide)), k2.fr g1 (by decide), g2⟩
/-- the light of a cell in a step -/
def lgt (T : TT) (C : CC) (skip : Nat → Bool) (n : Nat) (a : Nat → Nat) (L : Nat) (x : (Nat → Nat) × (Nat → Nat)) (q : Nat → Nat) (wo : Nat → Bool) (s c : Nat) : Nat :=
  if isx a s n then 0 else lit (tF T) (cv T L (gos (tF T) C skip x (s + 1)).1 (gos (tF T) C skip x (s + 1)).2) q wo 8 c
theorem m_shineS {σ : qw_M} {T : TT} {C : CC} {P : Nat → Option Nat} {n : Nat} {a : Nat → Nat} {L : Nat} (h : sh σ T C P n a L) {d p q : Nat → Nat} (hs : sg σ (tF T) d p q) {L2 : Nat} (hL : sl σ L2) (fl : Bool) (wo : Int32) : qw_Mt qw_tw wC my_X8_shine [.ref 21, .int (nI fl.toNat), .int wo] σ (fun _ σ' => fr scr σ σ' ∧ sh σ' T C P n a L ∧ sl σ' L2 ∧ sg σ' (tF T) d p q ∧ gl σ' 28 (fun c => if fl then 0 else lit (tF T) (cv T L2 d p) q (bt wo) 8 c)) :=
  mt_mono (m_shine h.1 h.2.2.2.2.2.1 h.2.2.2.2.2.2 hs hL fl wo) (fun r σ' ⟨k1, k2, k3⟩ => by
    have k1' : fr scr σ σ' := k1.mo (by unfold scr; simp)
    exact ⟨k1', h.fr k1' scr_ok k2, hL.fr k1 (by decide), hs.fr k1 (by intro k _ _; simp; omega), k3⟩)
theorem m_lightUp {σ : qw_M} {T : TT} {C : CC} {P : Nat → Option Nat} {n : Nat} {a : Nat → Nat} {L : Nat} (h : sh σ T C P n a L) {s : Nat} (hs : s < 20) : qw_Mt qw_tw wC my_X7_lightUp [.ref 7, .int (nI s)] σ (fun _ σ' => fr scr σ σ' ∧ sh σ' T C P n a L ∧ sl σ' L ∧ sg σ' (tF T) (gos (tF T) C (fun _ => false) (tdp T) (s + 1)).1 (gos (tF T) C (fun _ => false) (tdp T) (s + 1)).2 (tC T) ∧ gl σ' 28 (lgt T C (fun _ => false) n a L (tdp T) (tC T) (fun _ => false) s)) := by
  have e0 : bt (nI 0) = fun _ => false := by
    funext i
    exact b_0 i
  refine mt_X7_lightUp rfl (ev_X7_lightUp [] 100 ?_)
  refine ⟨trivial, fun _ σ' => fr [21, 23, 24, 25] σ σ' ∧ sl σ' L ∧ sg σ' (tF T) (tD T) (tP T) (tC T), ?_, fun σ' ⟨k1, k2, k3⟩ => ?_⟩
  · show qw_Mt qw_tw wC my_X8_start [.ref 21, .int ((σ 7).1 5)] σ _
    rw [h.2.2.2.2.1.2]
    exact m_start h.1 h.2.2.2.2.1.1
  · have k1' : fr scr σ σ' := k1.mo (by unfold scr; simp)
    have h' := h.fr k1' scr_ok (h.2.2.2.2.2.2.fr k1 (by decide))
    refine ⟨trivial, _, m_doCues h'.1 (x := tdp T) k3 h'.2.1 hs (nI 0), fun σ2 ⟨g1, g2⟩ => ?_⟩
    rw [e0] at g2
    have g1' : fr scr σ' σ2 := g1.mo (by unfold scr; simp)
    have h2 := h'.fr g1' scr_ok (h'.2.2.2.2.2.2.fr g1 (by decide))
    refine ⟨trivial, _, m_isOut h2.2.2.2.1 hs, fun y σ3 _ ⟨f1, f2⟩ => ?_⟩
    cases f2
    have f1 := f1.symm
    subst f1
    refine ⟨trivial, _, m_shineS h2 g2 (k2.fr g1 (by decide)) (isx a s n) (nI 0), fun σ4 ⟨e1, e2, e3, e4, e5⟩ => ?_⟩
    rw [e0] at e5
    exact ⟨(k1'.tr g1').tr e1, e2, e3, e4, e5⟩
theorem m_falseNow {σ : qw_M} {P : Nat → Option Nat} (hP : pic σ P) {G : Nat → Nat} (hG : gl σ 28 G) : qw_Mt qw_tw wC my_X7_falseNow [.ref 7] σ (fun r σ' => σ' = σ ∧ r = some (.int (nI (pfa P G)))) := by
  refine mt_X7_falseNow rfl (ev_X7_falseNow [] 100 ?_)
  exact ⟨trivial, _, m_falseBy hP hG, fun x σ' k => k⟩
theorem m_isShownNow {σ : qw_M} {P : Nat → Option Nat} (hP : pic σ P) {G : Nat → Nat} (hG : gl σ 28 G) : qw_Mt qw_tw wC my_X7_isShownNow [.ref 7] σ (fun r σ' => σ' = σ ∧ r = some (.int (nI (psh P G).toNat))) := by
  refine mt_X7_isShownNow rfl (ev_X7_isShownNow [] 100 ?_)
  exact ⟨trivial, _, m_isShownBy hP hG, fun x σ' h k => ⟨h, k⟩⟩
