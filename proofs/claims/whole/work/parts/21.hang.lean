/-! Planner: hang, shift -/
/-- how false it is in a step, a figure told elsewhere: by a code, depth 1 + code / 32, place code % 32 -/
def hgv (T : TT) (C : CC) (P : Nat → Option Nat) (n : Nat) (a : Nat → Nat) (L f s code : Nat) : Nat := pfa P (lgS (setDP T f (1 + code / 32) (code % 32)) C n a L s)
theorem pfa_le (P : Nat → Option Nat) (G : Nat → Nat) : pfa P G ≤ 32 := cnt_le _ 32
theorem pfa_congr {P : Nat → Option Nat} {G G2 : Nat → Nat} (h : ∀ c, c < 32 → G c = G2 c) : pfa P G = pfa P G2 := cnt_congr (fun c hc => by unfold pwr; rw [h c hc])
/-- the light with one figure elsewhere, out of the others' -/
theorem hang_lit {T : TT} {C : CC} {n : Nat} {a : Nat → Nat} {L f s d p c : Nat} (hf : f < tF T) (hF : tF T ≤ 8) :
    lgS (setDP T f d p) C n a L s c = if over L (evD C (fun _ => false) f d (s + 1)) (evP C (fun _ => false) f p (s + 1)) (tK T f) c then (if isx a s n then 0 else lit (tF T) (cv T L (ps T C s).1 (ps T C s).2) (tC T) (fun g => decide (g = f)) 8 c) &&& leave (tC T f) else (if isx a s n then 0 else lit (tF T) (cv T L (ps T C s).1 (ps T C s).2) (tC T) (fun g => decide (g = f)) 8 c) := by
  unfold lgS
  cases isx a s n with
  | true => simp
  | false =>
    simp only [Bool.false_eq_true, if_false]
    rw [lit_back (F := tF (setDP T f d p)) (f := f) hf 8, if_pos (by omega)]
    have hown : cv (setDP T f d p) L (ps (setDP T f d p) C s).1 (ps (setDP T f d p) C s).2 f c = over L (evD C (fun _ => false) f d (s + 1)) (evP C (fun _ => false) f p (s + 1)) (tK T f) c := by
      obtain ⟨h1, h2⟩ := gos_own (F := tF T) (C := C) (skip := fun _ => false) (x := tdp (setDP T f d p)) hf (s + 1)
      have e1 : (tdp (setDP T f d p)).1 f = d := up_eq
      have e2 : (tdp (setDP T f d p)).2 f = p := up_eq
      rw [e1] at h1
      rw [e2] at h2
      show over L ((gos (tF T) C (fun _ => false) (tdp (setDP T f d p)) (s + 1)).1 f) ((gos (tF T) C (fun _ => false) (tdp (setDP T f d p)) (s + 1)).2 f) (tK T f) c = _
      rw [h1, h2]
    have hoth : lit (tF (setDP T f d p)) (cv (setDP T f d p) L (ps (setDP T f d p) C s).1 (ps (setDP T f d p) C s).2) (tC (setDP T f d p)) (fun g => decide (g = f)) 8 c = lit (tF T) (cv T L (ps T C s).1 (ps T C s).2) (tC T) (fun g => decide (g = f)) 8 c := by
      refine lit_congr (fun g _ hg hne => ?_)
      have hne : g ≠ f := of_decide_eq_false hne
      obtain ⟨h1, h2⟩ := gos_own (F := tF T) (C := C) (skip := fun _ => false) (x := tdp (setDP T f d p)) (f := g) hg (s + 1)
      obtain ⟨h3, h4⟩ := gos_own (F := tF T) (C := C) (skip := fun _ => false) (x := tdp T) (f := g) hg (s + 1)
      have e1 : (tdp (setDP T f d p)).1 g = (tdp T).1 g := up_ne hne
      have e2 : (tdp (setDP T f d p)).2 g = (tdp T).2 g := up_ne hne
      rw [e1] at h1
      rw [e2] at h2
      show over L ((gos (tF T) C (fun _ => false) (tdp (setDP T f d p)) (s + 1)).1 g) ((gos (tF T) C (fun _ => false) (tdp (setDP T f d p)) (s + 1)).2 g) (tK T g) c = over L ((gos (tF T) C (fun _ => false) (tdp T) (s + 1)).1 g) ((gos (tF T) C (fun _ => false) (tdp T) (s + 1)).2 g) (tK T g) c
      rw [h1, h2, h3, h4]
    rw [hoth, hown]
    rfl
theorem bt1shl {f : Nat} (hf : f < 32) : ∀ g, g < 8 → bt (nI 1 <<< (nI f &&& 31)) g = decide (g = f) := fun g hg => bt_shl1 hf (by omega)
theorem lit_wo {F : Nat} {cov : Nat → Nat → Bool} {q : Nat → Nat} {wo wo2 : Nat → Bool} {c : Nat} : ∀ {j : Nat}, (∀ f, f < j → wo f = wo2 f) → lit F cov q wo j c = lit F cov q wo2 j c
  | 0, _ => rfl
  | j + 1, h => by
    unfold lit
    rw [lit_wo (j := j) (fun f hf => h f (by omega)), h j (by omega)]
theorem m_planHang {σ : qw_M} {T : TT} {C : CC} {P : Nat → Option Nat} {n : Nat} {a : Nat → Nat} {L : Nat} (h : sh σ T C P n a L) {f s : Nat} (hf : f < tF T) (hs : s < 20) : qw_Mt qw_tw wC my_X4_planHang [.ref 29, .int (nI f), .int (nI s)] σ (fun _ σ' => fr scA σ σ' ∧ sh σ' T C P n a L ∧ ∃ i, amn (hgv T C P n a L f s) 256 i ∧ pln σ' (nI (1 + i / 32)) (nI (i % 32)) (nI (hgv T C P n a L f s i))) := by
  have hF := h.1.1.1
  generalize hv : hgv T C P n a L f s = v
  have hv32 : ∀ i, v i ≤ 32 := fun i => by rw [← hv]; exact pfa_le _ _
  generalize hQ : (fun (_ : Option Value) (σ' : qw_M) => fr scA σ σ' ∧ sh σ' T C P n a L ∧ ∃ i, amn v 256 i ∧ pln σ' (nI (1 + i / 32)) (nI (i % 32)) (nI (v i))) = Q
  refine mt_X4_planHang (Q := Q) rfl ?_
  generalize hO : (fun c => if isx a s n then 0 else lit (tF T) (cv T L (ps T C s).1 (ps T C s).2) (tC T) (fun g => decide (g = f)) 8 c) = O
  -- what holds while places are tried
  generalize hI : (fun (m : Nat) (σ' : qw_M) => fr scA σ σ' ∧ sh σ' T C P n a L ∧ sl σ' L ∧ (∃ d p, sg σ' (tF T) d p (tC T)) ∧ gl σ' 30 O ∧ (∀ d, 1 ≤ d → d ≤ 8 → 1 ≤ evD C (fun _ => false) f d (s + 1) ∧ evD C (fun _ => false) f d (s + 1) ≤ 8 ∧ (σ' 31).1 d = nI (evD C (fun _ => false) f d (s + 1))) ∧ (∀ p, p < 32 → evP C (fun _ => false) f p (s + 1) < 32 ∧ (σ' 32).1 p = nI (evP C (fun _ => false) f p (s + 1))) ∧ ((m = 0 ∧ pln σ' (Int32.ofInt (Int.negSucc 0)) (Int32.ofInt (Int.negSucc 0)) (nI 33)) ∨ ∃ i, amn v m i ∧ pln σ' (nI (1 + i / 32)) (nI (i % 32)) (nI (v i)))) = I
  have inner : ∀ (k d p : Nat) (y : Int32) (σ' : qw_M) (ls : qw_L), p + k = 32 → 1 ≤ d → d ≤ 8 → y = nI p → I ((d - 1) * 32 + p) σ' →
      (∀ q ∈ [(0, Value.ref 29), (1, .int (nI f)), (2, .int (nI s)), (3, .int (nI d)), (4, .int y)], q ∈ ls) →
      (∀ (y : Int32) (σ' : qw_M) (ls : qw_L), I (d * 32) σ' → (∀ q ∈ [(0, Value.ref 29), (1, .int (nI f)), (2, .int (nI s)), (3, .int (nI d)), (4, .int y)], q ∈ ls) → E_X4_planHang Q 151 ls [] σ') → E_X4_planHang Q 65 ls [] σ' := by
    intro k
    induction k with
    | zero =>
      intro d p y σ' ls hp h1 h8 hy hI' hls kk
      subst hy
      have : p = 32 := by omega
      subst this
      refine qw_Ev.sub (ev_X4_planHang [65, 151] 100 ?_) hls
      refine vt (Int32.le_refl _) ?_
      exact kk _ _ _ (by rw [show d * 32 = (d - 1) * 32 + 32 by omega]; exact hI') (fun q hq => hq)
    | succ k ih =>
      intro d p y σ' ls hp h1 h8 hy hI' hls kk
      subst hy
      subst hI
      obtain ⟨i1, i2, i3, ⟨d0, p0, i4⟩, i5, i6, i7, i8⟩ := hI'
      obtain ⟨w1, w2, w3⟩ := i6 d h1 h8
      obtain ⟨w4, w5⟩ := i7 p (by omega)
      refine qw_Ev.sub (ev_X4_planHang [65, 145] 100 ?_) hls
      refine vf (nnle 32 p (by omega) (by omega)) ?_
      refine And.intro (nin d 9 (by omega) (by omega)) ?_
      refine And.intro (nin p 32 (by omega) (by omega)) ?_
      rw [nI_clamp (n := d) (by omega), nI_clamp (n := p) (by omega), w3, w5]
      refine ⟨trivial, _, m_put i2.1 i4 hf w1 w2 w4, fun σ2 ⟨g1, g2⟩ => ?_⟩
      have g1' : fr scA σ' σ2 := scr_A (scr_mv g1)
      have k2 := i2.fr g1' scA_ok (i2.2.2.2.2.2.2.fr g1 (by decide))
      refine ⟨trivial, _, m_become (Or.inr ⟨rfl, rfl⟩) (i5.fr g1 (by decide)), fun σ3 ⟨e1, e2⟩ => ?_⟩
      have e1' : fr scA σ2 σ3 := e1.mo (by unfold scA; simp)
      have k3 := k2.fr e1' scA_ok (k2.2.2.2.2.2.2.fr e1 (by decide))
      have k4 := (i3.fr g1 (by decide)).fr e1 (by decide)
      have k5 := g2.fr e1 (by intro k _ _; simp; omega)
      refine ⟨trivial, _, m_dimBy k3.1 k3.2.2.2.2.2.1 k3.2.2.2.2.2.2 k5 k4 hf e2, fun σ4 ⟨f1, f2, f3⟩ => ?_⟩
      have f1' : fr scA σ3 σ4 := scr_A (f1.mo (by unfold scr; decide))
      have k6 := k3.fr f1' scA_ok f2
      generalize hcode : (d - 1) * 32 + p = code
      have hG : gl σ4 28 (lgS (setDP T f (1 + code / 32) (code % 32)) C n a L s) := f3.congr (fun c hc => by
        rw [hang_lit hf hF, show 1 + code / 32 = d by omega, show code % 32 = p by omega]
        subst hO
        show (if over L (evD C (fun _ => false) f d (s + 1)) (evP C (fun _ => false) f p (s + 1)) (tK T f) c then _ else _) = if over L (va_up d0 f (evD C (fun _ => false) f d (s + 1)) f) (va_up p0 f (evP C (fun _ => false) f p (s + 1)) f) (tK T f) c then _ else _
        rw [up_eq, up_eq])
      refine ⟨trivial, _, m_falseNow k6.2.2.1 hG, fun y σ5 ⟨g3, g4⟩ => ?_⟩
      cases g4
      have g3 := g3.symm
      subst g3
      have ev : pfa P (lgS (setDP T f (1 + code / 32) (code % 32)) C n a L s) = v code := by rw [← hv]; rfl
      rw [ev]
      refine And.intro (nin 2 3 (by omega) (by omega)) ?_
      have e2c : (nI 2).toNatClampNeg = 2 := nI_clamp (by omega)
      rw [e2c]
      have hall : fr scA σ' σ4 := (g1'.tr e1').tr f1'
      have hoff : ∀ k, k = 30 ∨ k = 31 ∨ k = 32 ∨ k = 33 → σ4 k = σ' k := fun k hk => by
        rw [f1 k (by simp; omega), e1 k (by simp; omega), g1 k (by simp; omega)]
      have base : fr scA σ σ4 ∧ sh σ4 T C P n a L ∧ sl σ4 L ∧ (∃ d p, sg σ4 (tF T) d p (tC T)) ∧ gl σ4 30 O ∧ (∀ d, 1 ≤ d → d ≤ 8 → 1 ≤ evD C (fun _ => false) f d (s + 1) ∧ evD C (fun _ => false) f d (s + 1) ≤ 8 ∧ (σ4 31).1 d = nI (evD C (fun _ => false) f d (s + 1))) ∧ (∀ p, p < 32 → evP C (fun _ => false) f p (s + 1) < 32 ∧ (σ4 32).1 p = nI (evP C (fun _ => false) f p (s + 1))) := by
        refine ⟨i1.tr hall, k6, k4.fr f1 (by decide), ⟨_, _, k5.fr f1 (by intro k _ _; simp; omega)⟩, ?_, ?_, ?_⟩
        · intro c hc
          rw [hoff 30 (by omega)]
          exact i5 c hc
        · rw [hoff 31 (by omega)]
          exact i6
        · rw [hoff 32 (by omega)]
          exact i7
      have i8' : (code = 0 ∧ pln σ4 (Int32.ofInt (Int.negSucc 0)) (Int32.ofInt (Int.negSucc 0)) (nI 33)) ∨ ∃ i, amn v code i ∧ pln σ4 (nI (1 + i / 32)) (nI (i % 32)) (nI (v i)) := by
        unfold pln at i8 ⊢
        rw [hoff 33 (by omega), ← hcode]
        exact i8
      have next : ∀ (σ5 : qw_M), fr [33] σ4 σ5 → (∃ i, amn v (code + 1) i ∧ pln σ5 (nI (1 + i / 32)) (nI (i % 32)) (nI (v i))) → ∀ ls : qw_L, (∀ q ∈ [(0, Value.ref 29), (1, .int (nI f)), (2, .int (nI s)), (3, .int (nI d)), (4, .int (nI p))], q ∈ ls) → E_X4_planHang Q 145 ls [] σ5 := fun σ5 h33 hb ls hls => by
        refine qw_Ev.sub (ev_X4_planHang [65] 100 ?_) hls
        obtain ⟨b1, b2, b3, ⟨d1, p1, b4⟩, b5, b6, b7⟩ := base
        have h33' : fr scA σ4 σ5 := h33.mo (by unfold scA; simp)
        refine ih d (p + 1) _ _ _ (by omega) h1 h8 (nI_add p 1) ⟨b1.tr h33', b2.fr h33' scA_ok (b2.2.2.2.2.2.2.fr h33 (by decide)), b3.fr h33 (by decide), ⟨d1, p1, b4.fr h33 (by intro k _ _; simp; omega)⟩, b5.fr h33 (by decide), by rw [h33 31 (by decide)]; exact b6, by rw [h33 32 (by decide)]; exact b7, Or.inr (by rw [show (d - 1) * 32 + (p + 1) = code + 1 by omega]; exact hb)⟩ (fun q hq => hq) kk
      have e33 : ∃ old, (σ4 33).1 2 = nI old ∧ old ≤ 33 ∧ (old ≤ v code → ∃ i, amn v (code + 1) i ∧ pln σ4 (nI (1 + i / 32)) (nI (i % 32)) (nI (v i))) ∧ (v code < old → amn v (code + 1) code) := by
        rcases i8' with ⟨z, i8'⟩ | ⟨i, ha, i8'⟩
        · refine ⟨33, i8'.2.2, by omega, fun hle => absurd hle (by have := hv32 code; omega), fun _ => ?_⟩
          rw [z]
          exact amn_0
        · exact ⟨v i, i8'.2.2, by have := hv32 i; omega, fun hle => ⟨i, amn_ge ha hle, i8'⟩, fun hlt => amn_lt ha hlt⟩
      obtain ⟨old, o1, o2, o3, o4⟩ := e33
      have hvc := hv32 code
      by_cases c : v code < old
      · refine vf (by rw [o1]; exact nnle old (v code) c (by omega)) ?_
        refine ⟨trivial, _, m_falseNow k6.2.2.1 hG, fun y σ5 ⟨g3, g4⟩ => ?_⟩
        cases g4
        have g3 := g3.symm
        subst g3
        rw [ev]
        refine ⟨trivial, _, m_decide _ _ _, fun σ5 ⟨q1, q2⟩ => ?_⟩
        refine next σ5 q1 ⟨code, o4 c, ?_⟩ _ (fun q hq => hq)
        rw [show 1 + code / 32 = d by omega, show code % 32 = p by omega]
        exact q2
      · refine vt (by rw [o1]; exact nle old (v code) (by omega) (by omega)) ?_
        exact next _ fr.rf (o3 (by omega)) _ (fun q hq => hq)
  have outer : ∀ (k d : Nat) (y : Int32) (σ' : qw_M) (ls : qw_L), d + k = 9 → 1 ≤ d → y = nI d → I ((d - 1) * 32) σ' → (∀ q ∈ [(0, Value.ref 29), (1, .int (nI f)), (2, .int (nI s)), (3, .int y)], q ∈ ls) → E_X4_planHang Q 56 ls [] σ' := by
    intro k
    induction k with
    | zero =>
      intro d y σ' ls hd h1 hy hI' hls
      subst hy
      have : d = 9 := by omega
      subst this
      refine qw_Ev.sub (ev_X4_planHang [65, 151] 100 ?_) hls
      refine vt (nlt 8 9 (by omega) (by omega)) ?_
      subst hI
      subst hQ
      obtain ⟨i1, i2, -, -, -, -, -, i8⟩ := hI'
      rcases i8 with ⟨z, -⟩ | i8
      · exact absurd z (by decide)
      · exact ⟨i1, i2, i8⟩
    | succ k ih =>
      intro d y σ' ls hd h1 hy hI' hls
      subst hy
      refine qw_Ev.sub (ev_X4_planHang [65, 151] 100 ?_) hls
      refine vf (nnlt 8 d (by omega) (by omega)) ?_
      refine inner 32 d 0 _ _ _ (by omega) h1 (by omega) rfl hI' (fun q hq => hq) (fun y2 σ2 ls2 hI2 hls2 => ?_)
      refine qw_Ev.sub (ev_X4_planHang [56] 100 ?_) hls2
      refine ih (d + 1) _ _ _ (by omega) (by omega) (nI_add d 1) (by rw [show d + 1 - 1 = d by omega]; exact hI2) (fun z hz => ?_)
      simp only [List.mem_cons, List.not_mem_nil, or_false] at hz
      rcases hz with rfl | rfl | rfl | rfl
      · exact List.mem_of_getElem? (i := 0) rfl
      · exact List.mem_of_getElem? (i := 1) rfl
      · exact List.mem_of_getElem? (i := 2) rfl
      · exact List.mem_of_getElem? (i := 3) rfl
  refine ev_X4_planHang [56] 100 ?_
  refine ⟨trivial, _, m_findEnds h hf hs, fun σ1 ⟨k1, k2, k3⟩ => ?_⟩
  have k1' : fr scA σ σ1 := k1.mo (by unfold scA; decide)
  have h1 := h.fr k1' scA_ok (h.2.2.2.2.2.2.fr k1 (by decide))
  refine ⟨trivial, _, m_goTo h1 hs, fun σ2 ⟨g1, g2, g3, g4⟩ => ?_⟩
  refine ⟨trivial, _, m_isOut g2.2.2.2.1 hs, fun y σ3 _ ⟨f1, f2⟩ => ?_⟩
  cases f2
  have f1 := f1.symm
  subst f1
  refine ⟨trivial, _, m_shineS g2 g4 g3 (isx a s n) (nI 1 <<< (nI f &&& 31)), fun σ4 ⟨e1, e2, e3, e4, e5⟩ => ?_⟩
  have e5' : gl σ4 28 O := e5.congr (fun c hc => by
    subst hO
    dsimp only
    rw [lit_wo (j := 8) (wo := bt (nI 1 <<< (nI f &&& 31))) (wo2 := fun g => decide (g = f)) (fun g hg => bt1shl (by omega) g hg)]
    rfl)
  refine ⟨trivial, _, m_become (Or.inl ⟨rfl, rfl⟩) e5', fun σ5 ⟨q1, q2⟩ => ?_⟩
  refine ⟨trivial, _, m_decide _ _ _, fun σ6 ⟨r1, r2⟩ => ?_⟩
  have a2 : fr scA σ1 σ2 := scr_A g1
  have a4 : fr scA σ2 σ4 := scr_A e1
  have a5 : fr scA σ4 σ5 := q1.mo (by unfold scA; decide)
  have a6 : fr scA σ5 σ6 := r1.mo (by unfold scA; decide)
  have h5 := e2.fr a5 scA_ok (e2.2.2.2.2.2.2.fr q1 (by decide))
  have h6 := h5.fr a6 scA_ok (h5.2.2.2.2.2.2.fr r1 (by decide))
  refine outer 8 1 _ _ _ rfl (by omega) rfl ?_ (fun q hq => hq)
  subst hI
  refine ⟨(((k1'.tr a2).tr a4).tr a5).tr a6, h6, (e3.fr q1 (by decide)).fr r1 (by decide), ⟨_, _, (e4.fr q1 (by intro k _ _; simp; omega)).fr r1 (by intro k _ _; simp; omega)⟩, q2.fr r1 (by decide), ?_, ?_, Or.inl ⟨rfl, r2⟩⟩
  · rw [r1 31 (by decide), q1 31 (by decide), e1 31 (by unfold scr; decide), g1 31 (by unfold scr; decide)]
    exact k2
  · rw [r1 32 (by decide), q1 32 (by decide), e1 32 (by unfold scr; decide), g1 32 (by unfold scr; decide)]
    exact k3
/-- how false it is in a step by a lamp elsewhere -/
def sfv (T : TT) (C : CC) (P : Nat → Option Nat) (n : Nat) (a : Nat → Nat) (s L : Nat) : Nat := pfa P (lgS T C n a L s)
theorem m_planShift {σ : qw_M} {T : TT} {C : CC} {P : Nat → Option Nat} {n : Nat} {a : Nat → Nat} {L : Nat} (h : sh σ T C P n a L) {s : Nat} (hs : s < 20) : qw_Mt qw_tw wC my_X4_planShift [.ref 29, .int (nI s)] σ (fun _ σ' => fr scA σ σ' ∧ sh σ' T C P n a L ∧ ∃ i, amn (sfv T C P n a s) 32 i ∧ pln σ' (nI i) (nI (sfv T C P n a s i)) (Int32.ofInt (Int.negSucc 0))) := by
  generalize hv : sfv T C P n a s = v
  have hv32 : ∀ i, v i ≤ 32 := fun i => by rw [← hv]; exact pfa_le _ _
  generalize hQ : (fun (_ : Option Value) (σ' : qw_M) => fr scA σ σ' ∧ sh σ' T C P n a L ∧ ∃ i, amn v 32 i ∧ pln σ' (nI i) (nI (v i)) (Int32.ofInt (Int.negSucc 0))) = Q
  refine mt_X4_planShift (Q := Q) rfl ?_
  have loop : ∀ (m j : Nat) (y : Int32) (σ' : qw_M), j + m = 32 → y = nI j → fr scA σ σ' → sh σ' T C P n a L → sg σ' (tF T) (ps T C s).1 (ps T C s).2 (tC T) → ((j = 0 ∧ pln σ' (Int32.ofInt (Int.negSucc 0)) (nI 33) (Int32.ofInt (Int.negSucc 0))) ∨ ∃ i, amn v j i ∧ pln σ' (nI i) (nI (v i)) (Int32.ofInt (Int.negSucc 0))) →
      E_X4_planShift Q 18 [(0, .ref 29), (1, .int (nI s)), (2, .int y)] [] σ' := by
    intro m
    induction m with
    | zero =>
      intro j y σ' hj hy hf h' hg hp
      subst hy
      have : j = 32 := by omega
      subst this
      refine ev_X4_planShift [18] 100 ?_
      refine vt (Int32.le_refl _) ?_
      subst hQ
      rcases hp with ⟨z, -⟩ | hp
      · exact absurd z (by decide)
      · exact ⟨hf, h', hp⟩
    | succ m ih =>
      intro j y σ' hj hy hf h' hg hp
      subst hy
      refine ev_X4_planShift [18, 77] 100 ?_
      refine vf (nnle 32 j (by omega) (by omega)) ?_
      have f1 : fr [21] σ' (qw_pi σ' 21 8 (nI j)) := fr.pi (by simp)
      have h1 := h'.fr f1 (by intro k _ _ _; simp; omega) (h'.2.2.2.2.2.2.fr f1 (by decide))
      have hl1 : sl (qw_pi σ' 21 8 (nI j)) j := ⟨by omega, pi_eq⟩
      refine ⟨trivial, _, m_isOut h1.2.2.2.1 hs, fun y σ3 _ ⟨k1, k2⟩ => ?_⟩
      cases k2
      have k1 := k1.symm
      subst k1
      refine ⟨trivial, _, m_shineS h1 (hg.fr f1 (by intro k _ _; simp; omega)) hl1 (isx a s n) (nI 0), fun σ4 ⟨e1, e2, e3, e4, e5⟩ => ?_⟩
      rw [nosk] at e5
      have e5' : gl σ4 28 (lgS T C n a j s) := e5
      refine ⟨trivial, _, m_falseNow e2.2.2.1 e5', fun y σ5 ⟨g3, g4⟩ => ?_⟩
      cases g4
      have g3 := g3.symm
      subst g3
      have ev : pfa P (lgS T C n a j s) = v j := by rw [← hv]; rfl
      rw [ev]
      refine And.intro (nin 1 3 (by omega) (by omega)) ?_
      have e1c : (nI 1).toNatClampNeg = 1 := nI_clamp (by omega)
      rw [e1c]
      have hall : fr scA σ' σ4 := (f1.mo (by unfold scA; decide)).tr (scr_A e1)
      have h33 : σ4 33 = σ' 33 := by rw [e1 33 (by unfold scr; decide), f1 33 (by decide)]
      have next : ∀ (σ5 : qw_M), fr [33] σ4 σ5 → (∃ i, amn v (j + 1) i ∧ pln σ5 (nI i) (nI (v i)) (Int32.ofInt (Int.negSucc 0))) → E_X4_planShift Q 77 [(0, .ref 29), (1, .int (nI s)), (2, .int (nI j))] [] σ5 := fun σ5 hb1 hb2 => by
        refine ev_X4_planShift [18] 100 ?_
        have hb1' : fr scA σ4 σ5 := hb1.mo (by unfold scA; decide)
        exact ih (j + 1) _ _ (by omega) (nI_add j 1) ((hf.tr hall).tr hb1') (e2.fr hb1' scA_ok (e2.2.2.2.2.2.2.fr hb1 (by decide))) (e4.fr hb1 (by intro k _ _; simp; omega)) (Or.inr hb2)
      have e33 : ∃ old, (σ4 33).1 1 = nI old ∧ old ≤ 33 ∧ (old ≤ v j → ∃ i, amn v (j + 1) i ∧ pln σ4 (nI i) (nI (v i)) (Int32.ofInt (Int.negSucc 0))) ∧ (v j < old → amn v (j + 1) j) := by
        unfold pln
        unfold pln at hp
        rw [h33]
        rcases hp with ⟨z, i8'⟩ | ⟨i, ha, i8'⟩
        · refine ⟨33, i8'.2.1, by omega, fun hle => absurd hle (by have := hv32 j; omega), fun _ => ?_⟩
          rw [z]
          exact amn_0
        · exact ⟨v i, i8'.2.1, by have := hv32 i; omega, fun hle => ⟨i, amn_ge ha hle, i8'⟩, fun hlt => amn_lt ha hlt⟩
      obtain ⟨old, o1, o2, o3, o4⟩ := e33
      have hvc := hv32 j
      by_cases c : v j < old
      · refine vf (by rw [o1]; exact nnle old (v j) c (by omega)) ?_
        refine ⟨trivial, _, m_falseNow e2.2.2.1 e5', fun y σ5 ⟨g3, g4⟩ => ?_⟩
        cases g4
        have g3 := g3.symm
        subst g3
        rw [ev]
        refine ⟨trivial, _, m_decide _ _ _, fun σ5 ⟨q1, q2⟩ => ?_⟩
        exact next σ5 q1 ⟨j, o4 c, q2⟩
      · refine vt (by rw [o1]; exact nle old (v j) (by omega) (by omega)) ?_
        exact next _ fr.rf (o3 (by omega))
  refine ev_X4_planShift [18] 100 ?_
  refine ⟨trivial, _, m_goTo h hs, fun σ2 ⟨g1, g2, g3, g4⟩ => ?_⟩
  refine ⟨trivial, _, m_decide _ _ _, fun σ6 ⟨r1, r2⟩ => ?_⟩
  have a6 : fr scA σ2 σ6 := r1.mo (by unfold scA; decide)
  exact loop 32 0 _ _ rfl rfl ((scr_A g1).tr a6) (g2.fr a6 scA_ok (g2.2.2.2.2.2.2.fr r1 (by decide))) (g4.fr r1 (by intro k _ _; simp; omega)) (Or.inl ⟨rfl, r2⟩)
