/-! Planner -/
/-- a figure's own way through cues -/
def evD (C : CC) (skip : Nat → Bool) (f d : Nat) : Nat → Nat
  | 0 => d
  | s + 1 => if skip s then evD C skip f d s else match C s with
    | some z => if z.1 = f then mvD z.2 (evD C skip f d s) else evD C skip f d s
    | none => evD C skip f d s
def evP (C : CC) (skip : Nat → Bool) (f p : Nat) : Nat → Nat
  | 0 => p
  | s + 1 => if skip s then evP C skip f p s else match C s with
    | some z => if z.1 = f then mvP z.2 (evP C skip f p s) else evP C skip f p s
    | none => evP C skip f p s
theorem gos_own {F : Nat} {C : CC} {skip : Nat → Bool} {x : (Nat → Nat) × (Nat → Nat)} {f : Nat} (hf : f < F) : ∀ s, (gos F C skip x s).1 f = evD C skip f (x.1 f) s ∧ (gos F C skip x s).2 f = evP C skip f (x.2 f) s
  | 0 => ⟨rfl, rfl⟩
  | s + 1 => by
    obtain ⟨h1, h2⟩ := gos_own (F := F) (C := C) (skip := skip) (x := x) hf s
    unfold gos evD evP
    cases skip s with
    | true => exact ⟨h1, h2⟩
    | false =>
      simp only [Bool.false_eq_true, if_false]
      cases hC : C s with
      | none => exact ⟨h1, h2⟩
      | some z =>
        unfold stp
        dsimp only
        by_cases e : z.1 = f
        · subst e
          rw [if_pos hf, if_pos rfl, if_pos rfl]
          exact ⟨by dsimp only; rw [up_eq, h1], by dsimp only; rw [up_eq, h2]⟩
        · rw [if_neg e, if_neg e]
          split
          · exact ⟨by dsimp only; rw [up_ne (Ne.symm e)]; exact h1, by dsimp only; rw [up_ne (Ne.symm e)]; exact h2⟩
          · exact ⟨h1, h2⟩
/-- a figure told elsewhere -/
def setDP (T : TT) (f d p : Nat) : TT := (tF T, va_up (tD T) f d, va_up (tP T) f p, tC T, tM T, tK T)
theorem lit_congr {F : Nat} {cov cov2 : Nat → Nat → Bool} {q : Nat → Nat} {wo : Nat → Bool} {c : Nat} : ∀ {j : Nat}, (∀ f, f < j → f < F → wo f = false → cov f c = cov2 f c) → lit F cov q wo j c = lit F cov2 q wo j c
  | 0, _ => rfl
  | j + 1, h => by
    have ih := lit_congr (F := F) (cov := cov) (cov2 := cov2) (q := q) (wo := wo) (c := c) (j := j) (fun f h1 h2 h3 => h f (by omega) h2 h3)
    unfold lit
    rw [ih]
    by_cases hF : j < F
    · cases hw : wo j with
      | true => simp
      | false => rw [h j (by omega) hF hw]
    · simp [hF]
theorem and_r (a b c : Nat) : (a &&& b) &&& c = (a &&& c) &&& b := by rw [Nat.and_assoc, Nat.and_comm b c, ← Nat.and_assoc]
/-- one left out and put behind the others -/
theorem lit_back {F : Nat} {cov : Nat → Nat → Bool} {q : Nat → Nat} {f c : Nat} (hf : f < F) : ∀ j, lit F cov q (fun _ => false) j c = if f < j then (if cov f c then lit F cov q (fun g => decide (g = f)) j c &&& leave (q f) else lit F cov q (fun g => decide (g = f)) j c) else lit F cov q (fun g => decide (g = f)) j c
  | 0 => by simp [lit]
  | j + 1 => by
    have ih := lit_back (cov := cov) (q := q) (c := c) hf j
    rcases Nat.lt_trichotomy j f with h | h | h
    · have h1 : ¬ f < j := by omega
      have h2 : ¬ f < j + 1 := by omega
      have h3 : ¬ j = f := by omega
      rw [if_neg h1] at ih
      rw [if_neg h2]
      simp only [lit, ih]
      simp [h3]
    · subst h
      have h1 : ¬ j < j := by omega
      rw [if_neg h1] at ih
      rw [if_pos (by omega)]
      simp only [lit, ih]
      simp [hf]
    · have h2 : f < j + 1 := by omega
      have h3 : ¬ j = f := by omega
      rw [if_pos h] at ih
      rw [if_pos h2]
      simp only [lit, ih]
      cases hc : cov f c <;> by_cases hj : j < F <;> cases hcj : cov j c <;> simp [h3, hj, and_r]
/-- the least index of the least of the first N values -/
def amn (v : Nat → Nat) (N i : Nat) : Prop := i < N ∧ (∀ j, j < N → v i ≤ v j) ∧ ∀ j, j < i → v i < v j
theorem amn_lt {v : Nat → Nat} {N i : Nat} (h : amn v N i) (hl : v N < v i) : amn v (N + 1) N := by
  refine ⟨by omega, fun j hj => ?_, fun j hj => ?_⟩
  · by_cases e : j = N
    · rw [e]; exact Nat.le_refl _
    · have := h.2.1 j (by omega); omega
  · have := h.2.1 j hj; omega
theorem amn_ge {v : Nat → Nat} {N i : Nat} (h : amn v N i) (hl : v i ≤ v N) : amn v (N + 1) i := by
  refine ⟨by have := h.1; omega, fun j hj => ?_, h.2.2⟩
  by_cases e : j = N
  · rw [e]; exact hl
  · exact h.2.1 j (by omega)
theorem amn_0 {v : Nat → Nat} : amn v 1 0 := ⟨by omega, fun j hj => by rw [show j = 0 by omega]; exact Nat.le_refl _, fun j hj => absurd hj (Nat.not_lt_zero _)⟩
theorem amn_u {v : Nat → Nat} {N i j : Nat} (h : amn v N i) (h2 : amn v N j) : i = j := by
  rcases Nat.lt_trichotomy i j with e | e | e
  · have := h2.2.2 i e
    have := h.2.1 j h2.1
    omega
  · exact e
  · have := h.2.2 j e
    have := h2.2.1 i h.1
    omega
/-- cells that plans, sights and chances may leave changed -/
def scA : List Nat := [21, 23, 24, 25, 26, 27, 28, 30, 31, 32, 33, 37, 38, 39, 40, 41]
theorem scA_ok : ∀ k, 7 ≤ k → k ≤ 22 → k ≠ 21 → k ∉ scA := by
  intro k h1 h2 h3
  unfold scA
  simp
  omega
theorem scr_A {σ σ' : qw_M} (h : fr scr σ σ') : fr scA σ σ' := h.mo (by unfold scr scA; decide)
def pln (σ : qw_M) (a b c : Int32) : Prop := (σ 33).1 0 = a ∧ (σ 33).1 1 = b ∧ (σ 33).1 2 = c
theorem pln.fr {σ σ' : qw_M} {a b c : Int32} {l : List Nat} (h : pln σ a b c) (hf : fr l σ σ') (hl : 33 ∉ l) : pln σ' a b c := by
  unfold pln
  rw [hf 33 hl]
  exact h
theorem m_decide {σ : qw_M} (a b c : Int32) : qw_Mt qw_tw wC my_X4_decide [.ref 29, .int a, .int b, .int c] σ (fun _ σ' => fr [33] σ σ' ∧ pln σ' a b c) := by
  refine mt_X4_decide rfl (ev_X4_decide [] 100 ?_)
  refine And.intro (nin 0 3 (by omega) (by omega)) ?_
  refine And.intro (nin 1 3 (by omega) (by omega)) ?_
  refine And.intro (nin 2 3 (by omega) (by omega)) ?_
  have e0 : (nI 0).toNatClampNeg = 0 := nI_clamp (by omega)
  have e1 : (nI 1).toNatClampNeg = 1 := nI_clamp (by omega)
  have e2 : (nI 2).toNatClampNeg = 2 := nI_clamp (by omega)
  rw [e0, e1, e2]
  refine ⟨((fr.pi List.mem_cons_self).tr (fr.pi List.mem_cons_self)).tr (fr.pi List.mem_cons_self), ?_, ?_, ?_⟩ <;> simp [pi_at]
theorem m_answer {σ : qw_M} {a b c : Int32} (h : pln σ a b c) {i : Nat} (hi : i < 3) : qw_Mt qw_tw wC my_X4_answer [.ref 29, .int (nI i)] σ (fun r σ' => σ' = σ ∧ r = some (.int (if i = 0 then a else if i = 1 then b else c))) := by
  obtain ⟨h0, h1, h2⟩ := h
  refine mt_X4_answer rfl (ev_X4_answer [] 100 ?_)
  refine vf (nI_pos (by omega)) ?_
  refine vf (nnle 3 i (by omega) (by omega)) ?_
  refine And.intro (nin i 3 (by omega) (by omega)) ?_
  refine ⟨rfl, ?_⟩
  rw [nI_clamp (by omega)]
  rcases (show i = 0 ∨ i = 1 ∨ i = 2 by omega) with rfl | rfl | rfl
  · rw [h0]; rfl
  · rw [h1]; rfl
  · rw [h2]; rfl
/-! Planner: one figure alone, the others anywhere -/
def s1 (σ : qw_M) (f d p : Nat) : Prop := 1 ≤ d ∧ d ≤ 8 ∧ p < 32 ∧ (σ 23).1 f = nI d ∧ (σ 24).1 f = nI p
theorem s1.fr {σ σ' : qw_M} {f d p : Nat} {l : List Nat} (h : s1 σ f d p) (hf : fr l σ σ') (h1 : 23 ∉ l) (h2 : 24 ∉ l) : s1 σ' f d p := by
  unfold s1
  rw [hf 23 h1, hf 24 h2]
  exact h
theorem m_moveF {T : TT} {σ : qw_M} (hT : tr σ T) {f d p w : Nat} (hs : s1 σ f d p) (hf : f < tF T) (hw : w < 4) : qw_Mt qw_tw wC my_X8_move [.ref 21, .int (nI f), .int (nI w)] σ (fun _ σ' => fr [23, 24] σ σ' ∧ (σ' 23).1 f = nI (mvD w d) ∧ (σ' 24).1 f = nI (mvP w p)) := by
  have hF := hT.1.1
  obtain ⟨s1, s2, s3, s5, s6⟩ := hs
  have e5 : (σ 23).1 (nI f).toNatClampNeg = nI d := by rw [nI_clamp (by omega)]; exact s5
  have e6 : (σ 24).1 (nI f).toNatClampNeg = nI p := by rw [nI_clamp (by omega)]; exact s6
  have hin : vp_in (nI f) 8 := nin f 8 (by omega) (by omega)
  have stay : ∀ {d' p' : Nat}, d' = d → p' = p → fr [23, 24] σ σ ∧ (σ 23).1 f = nI d' ∧ (σ 24).1 f = nI p' := fun h1 h2 => by subst h1; subst h2; exact ⟨fr.rf, s5, s6⟩
  refine mt_X8_move rfl (ev_X8_move [] 100 ?_)
  refine ⟨trivial, _, m_has hT _, fun x σ' _ ⟨h1, h2⟩ => ?_⟩
  subst h1
  rcases h2 with ⟨g, hg, e, h2⟩ | ⟨h2, -⟩
  · cases h2
    refine vnt (by decide) ?_
    rcases (show w = 0 ∨ w = 1 ∨ w = 2 ∨ w = 3 by omega) with rfl | rfl | rfl | rfl
    · refine vnf rfl ?_
      refine And.intro hin ?_
      refine vb (fun a => ?_) (fun a => ?_)
      · have a0 : p = 0 := by
          rw [e6] at a
          rcases Nat.eq_zero_or_pos p with z | z
          · exact z
          · exact absurd a (nI_nle z (by omega))
        refine vnt (by decide) ?_
        refine vnt (by decide) ?_
        refine vnt (by decide) ?_
        exact stay (by simp [mvD]) (by simp [mvP, a0])
      · have a0 : 0 < p := by
          rw [e6] at a
          rcases Nat.eq_zero_or_pos p with z | z
          · rw [z] at a; exact absurd (Int32.le_refl _) a
          · exact z
        refine And.intro hin ?_
        refine And.intro hin ?_
        refine ⟨fr.pi (by simp), ?_⟩
        rw [e6, nI_clamp (by omega), pk_sub (a := p) (b := 1) (by omega)]
        refine ⟨by rw [pi_off (by decide), s5]; simp [mvD], by rw [pi_eq]; simp [mvP]⟩
    · refine vnt (by decide) ?_
      refine vnf rfl ?_
      refine And.intro hin ?_
      refine vb (fun a => ?_) (fun a => ?_)
      · have a0 : ¬ p < 31 := by
          rw [e6] at a
          intro z
          exact nnle 31 p z (by omega) a
        refine vnt (by decide) ?_
        refine vnt (by decide) ?_
        exact stay (by simp [mvD]) (by simp [mvP, a0])
      · have a0 : p < 31 := by
          rw [e6] at a
          rcases Nat.lt_or_ge p 31 with z | z
          · exact z
          · exact absurd (nle 31 p z (by omega)) a
        refine And.intro hin ?_
        refine And.intro hin ?_
        refine ⟨fr.pi (by simp), ?_⟩
        rw [e6, nI_clamp (by omega), nI_add]
        refine ⟨by rw [pi_off (by decide), s5]; simp [mvD], by rw [pi_eq]; simp [mvP, a0]⟩
    · refine vnt (by decide) ?_
      refine vnt (by decide) ?_
      refine vnf rfl ?_
      refine And.intro hin ?_
      refine vb (fun a => ?_) (fun a => ?_)
      · have a0 : ¬ 1 < d := by
          rw [e5] at a
          intro z
          exact nnle d 1 z (by omega) a
        refine vnt (by decide) ?_
        exact stay (by simp [mvD, a0]) (by simp [mvP])
      · have a0 : 1 < d := by
          rw [e5] at a
          rcases Nat.lt_or_ge 1 d with z | z
          · exact z
          · exact absurd (nle d 1 z (by omega)) a
        refine And.intro hin ?_
        refine And.intro hin ?_
        refine ⟨fr.pi (by simp), ?_⟩
        rw [e5, nI_clamp (by omega), pk_sub (a := d) (b := 1) (by omega)]
        refine ⟨by rw [pi_eq]; simp [mvD, a0], by rw [pi_off (by decide), s6]; simp [mvP]⟩
    · refine vnt (by decide) ?_
      refine vnt (by decide) ?_
      refine vnt (by decide) ?_
      refine vnf rfl ?_
      refine And.intro hin ?_
      refine vb (fun a => ?_) (fun a => ?_)
      · have a0 : ¬ d < 8 := by
          rw [e5] at a
          intro z
          exact nnle 8 d z (by omega) a
        exact stay (by simp [mvD, a0]) (by simp [mvP])
      · have a0 : d < 8 := by
          rw [e5] at a
          rcases Nat.lt_or_ge d 8 with z | z
          · exact z
          · exact absurd (nle 8 d z (by omega)) a
        refine And.intro hin ?_
        refine And.intro hin ?_
        refine ⟨fr.pi (by simp), ?_⟩
        rw [e5, nI_clamp (by omega), nI_add]
        refine ⟨by rw [pi_eq]; simp [mvD, a0], by rw [pi_off (by decide), s6]; simp [mvP]⟩
  · exact absurd rfl (h2 f hf)
theorem mvD_ok {w d : Nat} (h1 : 1 ≤ d) (h8 : d ≤ 8) : 1 ≤ mvD w d ∧ mvD w d ≤ 8 := by
  unfold mvD
  split
  · split <;> omega
  · split
    · split <;> omega
    · omega
theorem mvP_ok {w p : Nat} (h : p < 32) : mvP w p < 32 := by
  unfold mvP
  split
  · omega
  · split
    · split <;> omega
    · omega
theorem m_moveX {T : TT} {σ : qw_M} (hT : tr σ T) {f g w : Nat} (hne : g ≠ f) (hg : g < tF T) (hw : w < 4) : qw_Mt qw_tw wC my_X8_move [.ref 21, .int (nI g), .int (nI w)] σ (fun _ σ' => fr [23, 24] σ σ' ∧ (σ' 23).1 f = (σ 23).1 f ∧ (σ' 24).1 f = (σ 24).1 f) := by
  have hF := hT.1.1
  have hin : vp_in (nI g) 8 := nin g 8 (by omega) (by omega)
  have ek : (nI g).toNatClampNeg = g := nI_clamp (by omega)
  have k23 : ∀ x, fr [23, 24] σ (qw_pi σ 23 (nI g).toNatClampNeg x) ∧ (qw_pi σ 23 (nI g).toNatClampNeg x 23).1 f = (σ 23).1 f ∧ (qw_pi σ 23 (nI g).toNatClampNeg x 24).1 f = (σ 24).1 f := fun x => ⟨fr.pi (by simp), by rw [ek]; exact pi_ne (Ne.symm hne), by rw [pi_off (by decide)]⟩
  have k24 : ∀ x, fr [23, 24] σ (qw_pi σ 24 (nI g).toNatClampNeg x) ∧ (qw_pi σ 24 (nI g).toNatClampNeg x 23).1 f = (σ 23).1 f ∧ (qw_pi σ 24 (nI g).toNatClampNeg x 24).1 f = (σ 24).1 f := fun x => ⟨fr.pi (by simp), by rw [pi_off (by decide)], by rw [ek]; exact pi_ne (Ne.symm hne)⟩
  have k0 : fr [23, 24] σ σ ∧ (σ 23).1 f = (σ 23).1 f ∧ (σ 24).1 f = (σ 24).1 f := ⟨fr.rf, rfl, rfl⟩
  refine mt_X8_move rfl (ev_X8_move [] 100 ?_)
  refine ⟨trivial, _, m_has hT _, fun x σ' _ ⟨h1, h2⟩ => ?_⟩
  have h1 := h1.symm
  subst h1
  rcases h2 with ⟨g2, hg2, e, h2⟩ | ⟨h2, -⟩
  · cases h2
    refine vnt (by decide) ?_
    rcases (show w = 0 ∨ w = 1 ∨ w = 2 ∨ w = 3 by omega) with rfl | rfl | rfl | rfl
    · refine vnf rfl (And.intro hin (vb (fun _ => ?_) (fun _ => ?_)))
      · refine vnt (by decide) ?_
        refine vnt (by decide) ?_
        refine vnt (by decide) ?_
        exact k0
      · exact And.intro hin (And.intro hin (k24 _))
    · refine vnt (by decide) ?_
      refine vnf rfl (And.intro hin (vb (fun _ => ?_) (fun _ => ?_)))
      · refine vnt (by decide) ?_
        refine vnt (by decide) ?_
        exact k0
      · exact And.intro hin (And.intro hin (k24 _))
    · refine vnt (by decide) ?_
      refine vnt (by decide) ?_
      refine vnf rfl (And.intro hin (vb (fun _ => ?_) (fun _ => ?_)))
      · refine vnt (by decide) ?_
        exact k0
      · exact And.intro hin (And.intro hin (k23 _))
    · refine vnt (by decide) ?_
      refine vnt (by decide) ?_
      refine vnt (by decide) ?_
      refine vnf rfl (And.intro hin (vb (fun _ => ?_) (fun _ => ?_)))
      · exact k0
      · exact And.intro hin (And.intro hin (k23 _))
  · exact absurd rfl (h2 g hg)
theorem m_moveC1 {T : TT} {σ : qw_M} (hT : tr σ T) {f d p : Nat} (hf : f < tF T) (hs : s1 σ f d p) {C : CC} (hC : ∀ s f w, C s = some (f, w) → f < 8 ∧ w < 4) (s : Nat) : qw_Mt qw_tw wC my_X8_move [.ref 21, .int (cuf C s), .int (cuw C s)] σ (fun _ σ' => fr [23, 24] σ σ' ∧ s1 σ' f (match C s with | some z => if z.1 = f then mvD z.2 d else d | none => d) (match C s with | some z => if z.1 = f then mvP z.2 p else p | none => p)) := by
  have hF := hT.1.1
  cases h : C s with
  | none =>
    rw [cuf_none h]
    refine mt_mono (m_move0 hT (fun f hf => ?_)) (fun r σ' k => ?_)
    · exact fun e => nI_m1 (a := f) (by omega) e.symm
    · subst k
      exact ⟨fr.rf, hs⟩
  | some z =>
    obtain ⟨h8, h4⟩ := hC s z.1 z.2 h
    have e1 : cuf C s = nI z.1 := by simp only [cuf, h]
    have e2 : cuw C s = nI z.2 := by simp only [cuw, h]
    rw [e1, e2]
    dsimp only
    obtain ⟨c1, c2, c3, c4, c5⟩ := id hs
    by_cases hz : z.1 = f
    · subst hz
      refine mt_mono (m_moveF hT hs hf h4) (fun r σ' ⟨k1, k2, k3⟩ => ⟨k1, ?_⟩)
      rw [if_pos rfl, if_pos rfl]
      exact ⟨(mvD_ok c1 c2).1, (mvD_ok c1 c2).2, mvP_ok c3, k2, k3⟩
    · rw [if_neg hz, if_neg hz]
      by_cases hzF : z.1 < tF T
      · exact mt_mono (m_moveX hT hz hzF h4) (fun r σ' ⟨k1, k2, k3⟩ => ⟨k1, c1, c2, c3, by rw [k2]; exact c4, by rw [k3]; exact c5⟩)
      · refine mt_mono (m_move0 hT (fun f hf => ?_)) (fun r σ' k => ?_)
        · exact fun e => hzF (by have := nI_i (a := z.1) (b := f) (by omega) (by omega) e; omega)
        · subst k
          exact ⟨fr.rf, hs⟩
theorem m_doCues1 {T : TT} {σ : qw_M} (hT : tr σ T) {f d p : Nat} (hf : f < tF T) (hs : s1 σ f d p) {C : CC} (hC : cu σ 14 C) {last : Nat} (hl : last < 20) : qw_Mt qw_tw wC my_X7_doCues [.ref 7, .int (nI last), .int (nI 0)] σ (fun _ σ' => fr [23, 24] σ σ' ∧ s1 σ' f (evD C (fun _ => false) f d (last + 1)) (evP C (fun _ => false) f p (last + 1))) := by
  refine mt_X7_doCues rfl ?_
  have loop : ∀ (n j : Nat) (y : Int32) (σ' : qw_M), j + n = last + 1 → y = nI j → fr [23, 24] σ σ' → s1 σ' f (evD C (fun _ => false) f d j) (evP C (fun _ => false) f p j) →
      E_X7_doCues (fun _ σ' => fr [23, 24] σ σ' ∧ s1 σ' f (evD C (fun _ => false) f d (last + 1)) (evP C (fun _ => false) f p (last + 1))) 2 [(0, .ref 7), (1, .int (nI last)), (2, .int (nI 0)), (3, .int y)] [] σ' := by
    intro n
    induction n with
    | zero =>
      intro j y σ' hj hy hfr hg
      subst hy
      have : j = last + 1 := by omega
      subst this
      refine ev_X7_doCues [2] 100 ?_
      refine vt (nlt last (last + 1) (by omega) (by omega)) ?_
      exact ⟨hfr, hg⟩
    | succ n ih =>
      intro j y σ' hj hy hfr hg
      subst hy
      refine ev_X7_doCues [2] 100 ?_
      refine vf (nnlt last j (by omega) (by omega)) ?_
      refine vf (nnle 20 j (by omega) (by omega)) ?_
      have e0 : bt (nI 0) j = false := b_0 j
      refine vnf (by rw [bt_s (by omega), rb, e0]) ?_
      have hT' := hT.fr hfr (by intro k _ _; simp; omega)
      have hC' := hC.fr hfr (by decide) (by decide) (by decide)
      refine ⟨trivial, _, m_figureOf (Or.inl rfl) hC' (s := j) (by omega), fun y1 σ1 ⟨k1, k2⟩ => ?_⟩
      cases k2
      have k1 := k1.symm
      subst k1
      refine ⟨trivial, _, m_whitherOf (Or.inl rfl) hC' (s := j) (by omega), fun y2 σ2 ⟨k1, k2⟩ => ?_⟩
      cases k2
      have k1 := k1.symm
      subst k1
      refine ⟨trivial, _, m_moveC1 hT' hf hg hC.1 j, fun σ3 ⟨k1, k2⟩ => ?_⟩
      exact ih (j + 1) _ _ (by omega) (nI_add j 1) (hfr.tr k1) k2
  refine ev_X7_doCues [2] 100 ?_
  exact loop (last + 1) 0 _ _ (by omega) rfl fr.rf hs
theorem m_put1 {T : TT} {σ : qw_M} (hT : tr σ T) {f a b : Nat} (hf : f < tF T) (ha : 1 ≤ a) (ha8 : a ≤ 8) (hb : b < 32) : qw_Mt qw_tw wC my_X8_put [.ref 21, .int (nI f), .int (nI a), .int (nI b)] σ (fun _ σ' => fr [23, 24] σ σ' ∧ s1 σ' f a b) := by
  have hF := hT.1.1
  refine mt_X8_put rfl (ev_X8_put [] 100 ?_)
  refine ⟨trivial, _, m_has hT _, fun x σ' _ ⟨h1, h2⟩ => ?_⟩
  have h1 := h1.symm
  subst h1
  rcases h2 with ⟨g, hg, e, h2⟩ | ⟨h2, -⟩
  · cases h2
    refine vf (by decide) ?_
    refine And.intro (nin f 8 (by omega) (by omega)) ?_
    refine And.intro (nin f 8 (by omega) (by omega)) ?_
    rw [nI_clamp (by omega)]
    exact ⟨(fr.pi (by simp)).tr (fr.pi (by simp)), ha, ha8, hb, by rw [pi_off (by decide)]; exact pi_eq, pi_eq⟩
  · exact absurd rfl (h2 f hf)
theorem m_depthOf1 {T : TT} {σ : qw_M} (hT : tr σ T) {f d p : Nat} (hf : f < tF T) (hs : s1 σ f d p) : qw_Mt qw_tw wC my_X8_depthOf [.ref 21, .int (nI f)] σ (fun r σ' => σ' = σ ∧ r = some (.int (nI d))) := by
  have hF := hT.1.1
  refine mt_X8_depthOf rfl (ev_X8_depthOf [] 100 ?_)
  refine ⟨trivial, _, m_has hT _, fun x σ' _ ⟨h1, h2⟩ => ?_⟩
  subst h1
  rcases h2 with ⟨g, hg, e, h2⟩ | ⟨h2, -⟩
  · cases h2
    refine vf (by decide) ?_
    refine And.intro (nin f 8 (by omega) (by omega)) ?_
    refine ⟨rfl, ?_⟩
    rw [nI_clamp (by omega), hs.2.2.2.1]
  · exact absurd rfl (h2 f hf)
theorem m_placeOf1 {T : TT} {σ : qw_M} (hT : tr σ T) {f d p : Nat} (hf : f < tF T) (hs : s1 σ f d p) : qw_Mt qw_tw wC my_X8_placeOf [.ref 21, .int (nI f)] σ (fun r σ' => σ' = σ ∧ r = some (.int (nI p))) := by
  have hF := hT.1.1
  refine mt_X8_placeOf rfl (ev_X8_placeOf [] 100 ?_)
  refine ⟨trivial, _, m_has hT _, fun x σ' _ ⟨h1, h2⟩ => ?_⟩
  subst h1
  rcases h2 with ⟨g, hg, e, h2⟩ | ⟨h2, -⟩
  · cases h2
    refine vf (by decide) ?_
    refine And.intro (nin f 8 (by omega) (by omega)) ?_
    refine ⟨rfl, ?_⟩
    rw [nI_clamp (by omega), hs.2.2.2.2]
  · exact absurd rfl (h2 f hf)
theorem m_findEnds {σ : qw_M} {T : TT} {C : CC} {P : Nat → Option Nat} {n : Nat} {a : Nat → Nat} {L : Nat} (h : sh σ T C P n a L) {f s : Nat} (hf : f < tF T) (hs : s < 20) : qw_Mt qw_tw wC my_X4_findEnds [.ref 29, .int (nI f), .int (nI s)] σ (fun _ σ' => fr [23, 24, 31, 32] σ σ' ∧ (∀ d, 1 ≤ d → d ≤ 8 → 1 ≤ evD C (fun _ => false) f d (s + 1) ∧ evD C (fun _ => false) f d (s + 1) ≤ 8 ∧ (σ' 31).1 d = nI (evD C (fun _ => false) f d (s + 1))) ∧ ∀ p, p < 32 → evP C (fun _ => false) f p (s + 1) < 32 ∧ (σ' 32).1 p = nI (evP C (fun _ => false) f p (s + 1))) := by
  have hF := h.1.1.1
  generalize hQ : (fun (_ : Option Value) (σ' : qw_M) => fr [23, 24, 31, 32] σ σ' ∧ (∀ d, 1 ≤ d → d ≤ 8 → 1 ≤ evD C (fun _ => false) f d (s + 1) ∧ evD C (fun _ => false) f d (s + 1) ≤ 8 ∧ (σ' 31).1 d = nI (evD C (fun _ => false) f d (s + 1))) ∧ ∀ p, p < 32 → evP C (fun _ => false) f p (s + 1) < 32 ∧ (σ' 32).1 p = nI (evP C (fun _ => false) f p (s + 1))) = Q
  refine mt_X4_findEnds (Q := Q) rfl ?_
  have loop : ∀ (m j : Nat) (y : Int32) (σ' : qw_M) (ls : qw_L), j + m = 32 → y = nI j → fr [23, 24, 31, 32] σ σ' →
      (∀ d, 1 ≤ d → d ≤ 8 → d ≤ j → 1 ≤ evD C (fun _ => false) f d (s + 1) ∧ evD C (fun _ => false) f d (s + 1) ≤ 8 ∧ (σ' 31).1 d = nI (evD C (fun _ => false) f d (s + 1))) → (∀ p, p < j → evP C (fun _ => false) f p (s + 1) < 32 ∧ (σ' 32).1 p = nI (evP C (fun _ => false) f p (s + 1))) →
      (∀ q ∈ [(0, Value.ref 29), (1, .int (nI f)), (2, .int (nI s)), (3, .int y)], q ∈ ls) → E_X4_findEnds Q 2 ls [] σ' := by
    intro m
    induction m with
    | zero =>
      intro j y σ' ls hj hy hfr hD hP hls
      subst hy
      have : j = 32 := by omega
      subst this
      refine qw_Ev.sub (ev_X4_findEnds [2] 100 ?_) hls
      refine vt (Int32.le_refl _) ?_
      subst hQ
      exact ⟨hfr, fun d h1 h2 => hD d h1 h2 (by omega), hP⟩
    | succ m ih =>
      intro j y σ' ls hj hy hfr hD hP hls
      subst hy
      refine qw_Ev.sub (ev_X4_findEnds [2] 100 ?_) hls
      refine vf (nnle 32 j (by omega) (by omega)) ?_
      refine ⟨trivial, _, m_min _ _, fun y1 σ1 ⟨k1, k2⟩ => ?_⟩
      cases k2
      have k1 := k1.symm
      subst k1
      generalize hdd : (if j + 1 ≤ 8 then j + 1 else 8) = dd
      have hd1 : 1 ≤ dd ∧ dd ≤ 8 ∧ (j + 1 ≤ 8 → dd = j + 1) := by
        rw [← hdd]
        split <;> omega
      have e : (if nI 8 < nI j + nI 1 then nI 8 else nI j + nI 1) = nI dd := by
        rw [nI_add, ← hdd]
        by_cases c : j + 1 ≤ 8
        · rw [if_neg (nnlt 8 (j + 1) c (by omega)), if_pos c]
        · rw [if_pos (nlt 8 (j + 1) (by omega) (by omega)), if_neg c]
      rw [e]
      have hT' := h.1.fr hfr (by intro k _ _; simp; omega)
      have hC' := h.2.1.fr hfr (by decide) (by decide) (by decide)
      refine ⟨trivial, _, m_put1 hT' hf hd1.1 hd1.2.1 (b := j) (by omega), fun σ2 ⟨g1, g2⟩ => ?_⟩
      have hT2 := hT'.fr g1 (by intro k _ _; simp; omega)
      have hC2 := hC'.fr g1 (by decide) (by decide) (by decide)
      refine ⟨trivial, _, m_doCues1 hT2 hf g2 hC2 hs, fun σ3 ⟨e1, e2⟩ => ?_⟩
      have hT3 := hT2.fr e1 (by intro k _ _; simp; omega)
      obtain ⟨r1, r2, r3, -, -⟩ := id e2
      refine ⟨trivial, _, m_depthOf1 hT3 hf e2, fun y3 σ4 ⟨k1, k2⟩ => ?_⟩
      cases k2
      have k1 := k1.symm
      subst k1
      refine And.intro (nin dd 9 (by omega) (by omega)) ?_
      rw [nI_clamp (n := dd) (by omega)]
      have hfa : fr [31] σ3 (qw_pi σ3 31 dd (nI (evD C (fun _ => false) f dd (s + 1)))) := fr.pi (by simp)
      have hTa := hT3.fr hfa (by intro k _ _; simp; omega)
      have hga := e2.fr hfa (by decide) (by decide)
      refine ⟨trivial, _, m_placeOf1 hTa hf hga, fun y3 σ4 ⟨k1, k2⟩ => ?_⟩
      cases k2
      have k1 := k1.symm
      subst k1
      refine And.intro (nin j 32 (by omega) (by omega)) ?_
      rw [nI_clamp (n := j) (by omega)]
      have hall : fr [23, 24, 31, 32] σ' σ3 := (g1.mo (by simp)).tr (e1.mo (by simp))
      refine ih (j + 1) _ _ _ (by omega) (nI_add j 1) (((hfr.tr hall).tr (hfa.mo (by simp))).tr (fr.pi (by simp))) (fun d h1 h2 h3 => ?_) (fun p hp => ?_) ?_
      · rw [pi_off (by decide)]
        by_cases ed : d = dd
        · subst ed
          rw [pi_eq]
          exact ⟨r1, r2, rfl⟩
        · rw [pi_ne ed]
          have hdj : d ≤ j := by omega
          obtain ⟨z1, z2, z3⟩ := hD d h1 h2 hdj
          refine ⟨z1, z2, ?_⟩
          rw [e1 31 (by decide), g1 31 (by decide)]
          exact z3
      · by_cases ep : p = j
        · subst ep
          rw [pi_eq]
          exact ⟨r3, rfl⟩
        · rw [pi_ne ep, pi_off (by decide), e1 32 (by decide), g1 32 (by decide)]
          exact hP p (by omega)
      · intro z hz
        simp only [List.mem_cons, List.not_mem_nil, or_false] at hz
        rcases hz with rfl | rfl | rfl | rfl
        · exact List.mem_of_getElem? (i := 0) rfl
        · exact List.mem_of_getElem? (i := 1) rfl
        · exact List.mem_of_getElem? (i := 2) rfl
        · exact List.mem_of_getElem? (i := 3) rfl
  refine ev_X4_findEnds [2] 100 ?_
  exact loop 32 0 _ _ _ rfl rfl fr.rf (fun d h1 h2 h3 => by omega) (fun p hp => absurd hp (Nat.not_lt_zero _)) (fun q hq => hq)
