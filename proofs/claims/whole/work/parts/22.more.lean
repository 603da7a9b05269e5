/-! Planner: more, leave -/
abbrev m1 : Int32 := Int32.ofInt (Int.negSucc 0)
/-- none, the first one, the first pair, or nothing does -/
def pk2 (z : Bool) (N : Nat) (f1 : Nat → Bool) (f2 : Nat → Nat → Bool) (lo : Nat → Nat) (k x y : Int32) : Prop :=
  (z = true ∧ k = nI 0 ∧ x = m1 ∧ y = m1) ∨
  (z = false ∧ ∃ A, A < N ∧ f1 A = true ∧ (∀ A2, A2 < A → f1 A2 = false) ∧ k = nI 1 ∧ x = nI A ∧ y = m1) ∨
  (z = false ∧ (∀ A, A < N → f1 A = false) ∧ ∃ A B, A < N ∧ lo A ≤ B ∧ B < N ∧ f2 A B = true ∧ (∀ A2 B2, A2 < N → lo A2 ≤ B2 → B2 < N → (A2 < A ∨ (A2 = A ∧ B2 < B)) → f2 A2 B2 = false) ∧ k = nI 2 ∧ x = nI A ∧ y = nI B) ∨
  (z = false ∧ (∀ A, A < N → f1 A = false) ∧ (∀ A B, A < N → lo A ≤ B → B < N → f2 A B = false) ∧ k = m1 ∧ x = m1 ∧ y = m1)
/-- whether it is shown in a step, the figures being there and there, some left out -/
def shX (T : TT) (P : Nat → Option Nat) (n : Nat) (a : Nat → Nat) (L s : Nat) (x : (Nat → Nat) × (Nat → Nat)) (wo : Nat → Bool) : Bool := psh P (fun c => if isx a s n then 0 else lit (tF T) (cv T L x.1 x.2) (tC T) wo 8 c)
def cde (k : Nat) : Option (Nat × Nat) := some (k / 4, k % 4)
def mo1 (T : TT) (C : CC) (P : Nat → Option Nat) (n : Nat) (a : Nat → Nat) (L A : Nat) : Bool := shX T P n a L 19 (stp (tF T) (cde A) (ps T C 19)) (fun _ => false)
def mo2 (T : TT) (C : CC) (P : Nat → Option Nat) (n : Nat) (a : Nat → Nat) (L A B : Nat) : Bool := shX T P n a L 19 (stp (tF T) (cde B) (stp (tF T) (cde A) (ps T C 19))) (fun _ => false)
def obi (B : Option Nat) : Int32 := match B with
  | some b => nI b
  | none => m1
def obf (f1 : Nat → Bool) (f2 : Nat → Nat → Bool) (A : Nat) (B : Option Nat) : Bool := match B with
  | some b => f2 A b
  | none => f1 A
theorem sg.congr {σ : qw_M} {F : Nat} {d p q d2 p2 : Nat → Nat} (h : sg σ F d p q) (e : ∀ f, f < F → d2 f = d f ∧ p2 f = p f) : sg σ F d2 p2 q := by
  intro f hf
  rw [(e f hf).1, (e f hf).2]
  exact h f hf
theorem m_isShownAfter {σ : qw_M} {T : TT} {C : CC} {P : Nat → Option Nat} {n : Nat} {a : Nat → Nat} {L : Nat} (h : sh σ T C P n a L) (hL : sl σ L) (hg : sg σ (tF T) (ps T C 19).1 (ps T C 19).2 (tC T)) {A : Nat} (hA : A < 4 * tF T) (B : Option Nat) (hB : ∀ b, B = some b → b < 4 * tF T) : qw_Mt qw_tw wC my_X4_isShownAfter [.ref 29, .int (nI A), .int (obi B)] σ (fun r σ' => fr scr σ σ' ∧ sh σ' T C P n a L ∧ sl σ' L ∧ sg σ' (tF T) (ps T C 19).1 (ps T C 19).2 (tC T) ∧ r = some (.int (nI (obf (mo1 T C P n a L) (mo2 T C P n a L) A B).toNat))) := by
  have hF := h.1.1.1
  generalize hR : (obf (mo1 T C P n a L) (mo2 T C P n a L) A B) = R
  generalize hQ : (fun (r : Option Value) (σ' : qw_M) => fr scr σ σ' ∧ sh σ' T C P n a L ∧ sl σ' L ∧ sg σ' (tF T) (ps T C 19).1 (ps T C 19).2 (tC T) ∧ r = some (.int (nI R.toNat))) = Q
  have hf1 : A / 4 < tF T := by omega
  have hw1 : A % 4 < 4 := by omega
  have k4 : nI A / nI 4 = nI (A / 4) := pk_div (a := A) (d := 4) (by omega) (by omega) (by omega)
  have r4 : nI A - nI A / nI 4 * nI 4 = nI (A % 4) := pk_rem (a := A) (d := 4) (by omega) (by omega) (by omega)
  have e1 : stp (tF T) (cde A) (ps T C 19) = (va_up (ps T C 19).1 (A / 4) (mvD (A % 4) ((ps T C 19).1 (A / 4))), va_up (ps T C 19).2 (A / 4) (mvP (A % 4) ((ps T C 19).2 (A / 4)))) := by
    simp only [stp, cde, hf1, if_true]
  obtain ⟨p1, p2, p3, -, -, -, -⟩ := hg (A / 4) hf1
  have d4 : ¬ nI 4 = 0 := nI_ne0 (n := 4) (by omega) (by omega)
  generalize hbv : (obi B) = bv
  -- from 88: lit, put back, asked
  have tail : ∀ (g : Nat) (x : (Nat → Nat) × (Nat → Nat)) (σ1 : qw_M), g < tF T → fr scr σ σ1 → sh σ1 T C P n a L → sl σ1 L → sg σ1 (tF T) x.1 x.2 (tC T) → (∀ i, i < tF T → i ≠ A / 4 → i ≠ g → x.1 i = (ps T C 19).1 i ∧ x.2 i = (ps T C 19).2 i) → shX T P n a L 19 x (fun _ => false) = R →
      E_X4_isShownAfter Q 88 [(0, .ref 29), (1, .int (nI A)), (2, .int bv), (3, .int (nI (A / 4))), (4, .int (nI g)), (5, .int (nI ((ps T C 19).1 (A / 4)))), (6, .int (nI ((ps T C 19).2 (A / 4)))), (7, .int (nI ((ps T C 19).1 g))), (8, .int (nI ((ps T C 19).2 g)))] [] σ1 := by
    intro g x σ1 hgF hf h1 hl hx hoff hRx
    obtain ⟨z1, z2, z3, -, -, -, -⟩ := hg g hgF
    refine ev_X4_isShownAfter [105] 100 ?_
    refine ⟨trivial, _, m_isOut h1.2.2.2.1 (s := 19) (by omega), fun y σ3 _ ⟨k1, k2⟩ => ?_⟩
    cases k2
    have k1 := k1.symm
    subst k1
    refine ⟨trivial, _, m_shineS h1 hx hl (isx a 19 n) (nI 0), fun σ4 ⟨f1, f2, f3, f4, f5⟩ => ?_⟩
    rw [nosk] at f5
    show E_X4_isShownAfter Q 105 [(0, .ref 29), (1, .int (nI A)), (2, .int bv), (3, .int (nI (A / 4))), (4, .int (nI g)), (5, .int (nI ((ps T C 19).1 (A / 4)))), (6, .int (nI ((ps T C 19).2 (A / 4)))), (7, .int (nI ((ps T C 19).1 g))), (8, .int (nI ((ps T C 19).2 g)))] [] σ4
    refine ev_X4_isShownAfter [] 100 ?_
    refine ⟨trivial, _, m_put f2.1 f4 hf1 p1 p2 p3, fun σ5 ⟨q1, q2⟩ => ?_⟩
    have q1' := scr_mv q1
    have h5 := f2.fr q1' scr_ok (f2.2.2.2.2.2.2.fr q1 (by decide))
    refine ⟨trivial, _, m_put h5.1 q2 hgF z1 z2 z3, fun σ6 ⟨w1, w2⟩ => ?_⟩
    have w1' := scr_mv w1
    have h6 := h5.fr w1' scr_ok (h5.2.2.2.2.2.2.fr w1 (by decide))
    refine ⟨trivial, _, m_isShownNow h6.2.2.1 ((f5.fr q1 (by decide)).fr w1 (by decide)), fun y σ7 hy ⟨k1, k2⟩ => ?_⟩
    cases k2
    have k1 := k1.symm
    subst k1
    subst hQ
    refine ⟨hy, (((hf.tr f1).tr q1').tr w1'), h6, (f3.fr q1 (by decide)).fr w1 (by decide), w2.congr (fun i hiF => ?_), by rw [← hRx]; rfl⟩
    by_cases e : i = g
    · rw [e, up_eq, up_eq]
      exact ⟨rfl, rfl⟩
    · rw [up_ne e, up_ne e]
      by_cases e3 : i = A / 4
      · rw [e3, up_eq, up_eq]
        exact ⟨rfl, rfl⟩
      · rw [up_ne e3, up_ne e3]
        obtain ⟨o1, o2⟩ := hoff i hiF e3 e
        exact ⟨o1.symm, o2.symm⟩
  -- from 18: what is kept
  have mid : ∀ (g : Nat), g < tF T → (∀ σ1 : qw_M, fr [23, 24] σ σ1 → sg σ1 (tF T) (stp (tF T) (cde A) (ps T C 19)).1 (stp (tF T) (cde A) (ps T C 19)).2 (tC T) →
        E_X4_isShownAfter Q 71 [(0, .ref 29), (1, .int (nI A)), (2, .int bv), (3, .int (nI (A / 4))), (4, .int (nI g)), (5, .int (nI ((ps T C 19).1 (A / 4)))), (6, .int (nI ((ps T C 19).2 (A / 4)))), (7, .int (nI ((ps T C 19).1 g))), (8, .int (nI ((ps T C 19).2 g)))] [] σ1) →
      E_X4_isShownAfter Q 18 [(0, .ref 29), (1, .int (nI A)), (2, .int bv), (3, .int (nI (A / 4))), (4, .int (nI g))] [] σ := by
    intro g hgF kk
    refine ev_X4_isShownAfter [38] 100 ?_
    refine ⟨trivial, _, m_depthOf h.1 hg hf1, fun y σ1 ⟨k1, k2⟩ => ?_⟩
    cases k2
    have k1 := k1.symm
    subst k1
    refine ⟨trivial, _, m_placeOf h.1 hg hf1, fun y σ1 ⟨k1, k2⟩ => ?_⟩
    cases k2
    have k1 := k1.symm
    subst k1
    show E_X4_isShownAfter Q 38 [(0, .ref 29), (1, .int (nI A)), (2, .int bv), (3, .int (nI (A / 4))), (4, .int (nI g)), (5, .int (nI ((ps T C 19).1 (A / 4)))), (6, .int (nI ((ps T C 19).2 (A / 4))))] [] σ
    refine ev_X4_isShownAfter [60] 100 ?_
    refine ⟨trivial, _, m_depthOf h.1 hg hgF, fun y σ1 ⟨k1, k2⟩ => ?_⟩
    cases k2
    have k1 := k1.symm
    subst k1
    refine ⟨trivial, _, m_placeOf h.1 hg hgF, fun y σ1 ⟨k1, k2⟩ => ?_⟩
    cases k2
    have k1 := k1.symm
    subst k1
    show E_X4_isShownAfter Q 60 [(0, .ref 29), (1, .int (nI A)), (2, .int bv), (3, .int (nI (A / 4))), (4, .int (nI g)), (5, .int (nI ((ps T C 19).1 (A / 4)))), (6, .int (nI ((ps T C 19).2 (A / 4)))), (7, .int (nI ((ps T C 19).1 g))), (8, .int (nI ((ps T C 19).2 g)))] [] σ
    refine ev_X4_isShownAfter [71] 100 ?_
    refine And.intro d4 ?_
    rw [r4]
    refine ⟨trivial, _, m_move h.1 hg hf1 hw1, fun σ1 ⟨g1, g2⟩ => ?_⟩
    exact kk σ1 g1 (by rw [e1]; exact g2)
  refine mt_X4_isShownAfter (Q := Q) rfl (ev_X4_isShownAfter [18] 100 ?_)
  refine And.intro d4 ?_
  rw [k4]
  cases B with
  | none =>
    subst hbv
    refine vnf rfl ?_
    refine mid (A / 4) hf1 (fun σ1 g1 g2 => ?_)
    have g1' := scr_mv g1
    have h1 := h.fr g1' scr_ok (h.2.2.2.2.2.2.fr g1 (by decide))
    refine ev_X4_isShownAfter [88] 100 ?_
    refine vt rfl ?_
    refine tail (A / 4) (stp (tF T) (cde A) (ps T C 19)) σ1 hf1 g1' h1 (hL.fr g1 (by decide)) g2 (fun i hi h1 h2 => ?_) hR
    rw [e1]
    exact ⟨up_ne h1, up_ne h1⟩
  | some b =>
    subst hbv
    have hb := hB b rfl
    have hf2 : b / 4 < tF T := by omega
    have hw2 : b % 4 < 4 := by omega
    have k4b : nI b / nI 4 = nI (b / 4) := pk_div (a := b) (d := 4) (by omega) (by omega) (by omega)
    have r4b : nI b - nI b / nI 4 * nI 4 = nI (b % 4) := pk_rem (a := b) (d := 4) (by omega) (by omega) (by omega)
    have e2 : stp (tF T) (cde b) (stp (tF T) (cde A) (ps T C 19)) = (va_up (stp (tF T) (cde A) (ps T C 19)).1 (b / 4) (mvD (b % 4) ((stp (tF T) (cde A) (ps T C 19)).1 (b / 4))), va_up (stp (tF T) (cde A) (ps T C 19)).2 (b / 4) (mvP (b % 4) ((stp (tF T) (cde A) (ps T C 19)).2 (b / 4)))) := by
      generalize stp (tF T) (cde A) (ps T C 19) = X
      simp only [stp, cde, hf2, if_true]
    refine vnt (nI_m1 (by omega)) ?_
    refine And.intro d4 ?_
    have k4c : obi (some b) / nI 4 = nI (b / 4) := k4b
    rw [k4c]
    refine mid (b / 4) hf2 (fun σ1 g1 g2 => ?_)
    have g1' := scr_mv g1
    have h1 := h.fr g1' scr_ok (h.2.2.2.2.2.2.fr g1 (by decide))
    refine ev_X4_isShownAfter [88] 100 ?_
    refine vf (nI_m1 (by omega)) ?_
    refine And.intro d4 ?_
    have r4c : obi (some b) - obi (some b) / nI 4 * nI 4 = nI (b % 4) := r4b
    rw [r4c]
    refine ⟨trivial, _, m_move h1.1 g2 hf2 hw2, fun σ2 ⟨v1, v2⟩ => ?_⟩
    have v2 : sg σ2 (tF T) (stp (tF T) (cde b) (stp (tF T) (cde A) (ps T C 19))).1 (stp (tF T) (cde b) (stp (tF T) (cde A) (ps T C 19))).2 (tC T) := by
      rw [e2]
      exact v2
    have v1' := scr_mv v1
    have h2 := h1.fr v1' scr_ok (h1.2.2.2.2.2.2.fr v1 (by decide))
    refine tail (b / 4) (stp (tF T) (cde b) (stp (tF T) (cde A) (ps T C 19))) σ2 hf2 (g1'.tr v1') h2 ((hL.fr g1 (by decide)).fr v1 (by decide)) v2 (fun i hi h1 h2 => ?_) hR
    rw [e2]
    dsimp only
    rw [up_ne h2, up_ne h2, e1]
    exact ⟨up_ne h1, up_ne h1⟩
theorem zb {b : Bool} : nI b.toNat = 0 ↔ b = false := rb b
theorem m_planMore {σ : qw_M} {T : TT} {C : CC} {P : Nat → Option Nat} {n : Nat} {a : Nat → Nat} {L : Nat} (h : sh σ T C P n a L) : qw_Mt qw_tw wC my_X4_planMore [.ref 29] σ (fun _ σ' => fr scA σ σ' ∧ sh σ' T C P n a L ∧ ∃ k x y, pk2 (psh P (lgS T C n a L 19)) (4 * tF T) (mo1 T C P n a L) (mo2 T C P n a L) (fun _ => 0) k x y ∧ pln σ' k x y) := by
  have hF := h.1.1.1
  generalize hZ : psh P (lgS T C n a L 19) = Z
  generalize hM1 : mo1 T C P n a L = f1
  generalize hM2 : mo2 T C P n a L = f2
  generalize hQ : (fun (_ : Option Value) (σ' : qw_M) => fr scA σ σ' ∧ sh σ' T C P n a L ∧ ∃ k x y, pk2 Z (4 * tF T) f1 f2 (fun _ => 0) k x y ∧ pln σ' k x y) = Q
  refine mt_X4_planMore (Q := Q) rfl ?_
  generalize hI : (fun (σ' : qw_M) => fr scA σ σ' ∧ sh σ' T C P n a L ∧ sl σ' L ∧ sg σ' (tF T) (ps T C 19).1 (ps T C 19).2 (tC T) ∧ pln σ' m1 m1 m1) = I
  have ende : ∀ (σ' σ2 : qw_M) (k x y : Int32), I σ' → fr [33] σ' σ2 → pln σ2 k x y → pk2 Z (4 * tF T) f1 f2 (fun _ => 0) k x y → Q none σ2 := fun σ' σ2 k x y hi h33 hp hk => by
    subst hI
    subst hQ
    obtain ⟨i1, i2, -⟩ := hi
    have h33' : fr scA σ' σ2 := h33.mo (by unfold scA; decide)
    exact ⟨i1.tr h33', i2.fr h33' scA_ok (i2.2.2.2.2.2.2.fr h33 (by decide)), k, x, y, hk, hp⟩
  have after : ∀ (σ' : qw_M), I σ' → ∀ A, A < 4 * tF T → ∀ B : Option Nat, (∀ b, B = some b → b < 4 * tF T) → qw_Mt qw_tw wC my_X4_isShownAfter [.ref 29, .int (nI A), .int (obi B)] σ' (fun r σ2 => I σ2 ∧ r = some (.int (nI (obf f1 f2 A B).toNat))) := fun σ' hi A hA B hB => by
    subst hI
    obtain ⟨i1, i2, i3, i4, i5⟩ := hi
    refine mt_mono (m_isShownAfter i2 i3 i4 hA B hB) (fun r σ2 ⟨k1, k2, k3, k4, k5⟩ => ⟨⟨i1.tr (scr_A k1), k2, k3, k4, i5.fr k1 (by unfold scr; decide)⟩, ?_⟩)
    subst hM1
    subst hM2
    exact k5
  have after1 : ∀ (σ' : qw_M), I σ' → ∀ A, A < 4 * tF T → qw_Mt qw_tw wC my_X4_isShownAfter [.ref 29, .int (nI A), .int m1] σ' (fun r σ2 => I σ2 ∧ r = some (.int (nI (f1 A).toNat))) := fun σ' hi A hA => after σ' hi A hA none (fun b e => by cases e)
  have after2 : ∀ (σ' : qw_M), I σ' → ∀ A, A < 4 * tF T → ∀ B, B < 4 * tF T → qw_Mt qw_tw wC my_X4_isShownAfter [.ref 29, .int (nI A), .int (nI B)] σ' (fun r σ2 => I σ2 ∧ r = some (.int (nI (f2 A B).toNat))) := fun σ' hi A hA B hB => after σ' hi A hA (some B) (fun b e => by cases e; exact hB)
  have loop2 : Z = false → (∀ A, A < 4 * tF T → f1 A = false) → ∀ (m A : Nat) (y : Int32) (σ' : qw_M) (ls : qw_L), A + m = 4 * tF T → y = nI A → I σ' → (∀ A2 B2, A2 < A → B2 < 4 * tF T → f2 A2 B2 = false) → (∀ q ∈ [(0, Value.ref 29), (1, .int (nI (4 * tF T))), (2, .int y)], q ∈ ls) → E_X4_planMore Q 79 ls [] σ' := by
    intro hZf hno1 m
    induction m with
    | zero =>
      intro A y σ' ls hA hy hi hno hls
      subst hy
      refine qw_Ev.sub (ev_X4_planMore [79] 100 ?_) hls
      refine vt (nle (4 * tF T) A (by omega) (by omega)) ?_
      have hp : pln σ' m1 m1 m1 := by subst hI; exact hi.2.2.2.2
      exact ende σ' σ' _ _ _ hi fr.rf hp (Or.inr (Or.inr (Or.inr ⟨hZf, hno1, fun A2 B2 h1 _ h3 => hno A2 B2 (by omega) h3, rfl, rfl, rfl⟩)))
    | succ m ih =>
      intro A y σ' ls hA hy hi hno hls
      subst hy
      have inner : ∀ (k B : Nat) (y : Int32) (σ' : qw_M), B + k = 4 * tF T → y = nI B → I σ' → (∀ B2, B2 < B → f2 A B2 = false) → E_X4_planMore Q 86 [(0, Value.ref 29), (1, .int (nI (4 * tF T))), (2, .int (nI A)), (3, .int y)] [] σ' := by
        intro k
        induction k with
        | zero =>
          intro B y σ' hB hy hi hnoB
          subst hy
          refine ev_X4_planMore [79, 86] 100 ?_
          refine vt (nle (4 * tF T) B (by omega) (by omega)) ?_
          refine ih (A + 1) _ _ _ (by omega) (nI_add A 1) hi (fun A2 B2 h1 h2 => ?_) (fun z hz => ?_)
          · by_cases e : A2 = A
            · rw [e]; exact hnoB B2 (by omega)
            · exact hno A2 B2 (by omega) h2
          · simp only [List.mem_cons, List.not_mem_nil, or_false] at hz
            rcases hz with rfl | rfl | rfl
            · exact List.mem_of_getElem? (i := 0) rfl
            · exact List.mem_of_getElem? (i := 1) rfl
            · exact List.mem_of_getElem? (i := 2) rfl
        | succ k ihk =>
          intro B y σ' hB hy hi hnoB
          subst hy
          refine ev_X4_planMore [79, 86] 100 ?_
          refine vf (nnle (4 * tF T) B (by omega) (by omega)) ?_
          refine ⟨trivial, _, after2 σ' hi A (by omega) B (by omega), fun y σ2 _ ⟨k1, k2⟩ => ?_⟩
          cases k2
          cases hb : f2 A B with
          | false =>
            refine vt rfl ?_
            refine ihk (B + 1) _ _ (by omega) (nI_add B 1) k1 (fun B2 h1 => ?_)
            by_cases e : B2 = B
            · rw [e]; exact hb
            · exact hnoB B2 (by omega)
          | true =>
            refine vf (by decide) ?_
            refine ⟨trivial, _, m_decide _ _ _, fun σ3 ⟨q1, q2⟩ => ?_⟩
            refine ende σ2 σ3 _ _ _ k1 q1 q2 (Or.inr (Or.inr (Or.inl ⟨hZf, hno1, A, B, by omega, Nat.zero_le _, by omega, hb, fun A2 B2 h1 _ h3 h4 => ?_, rfl, rfl, rfl⟩)))
            rcases h4 with h4 | ⟨h4, h5⟩
            · exact hno A2 B2 h4 h3
            · rw [h4]; exact hnoB B2 h5
      refine qw_Ev.sub (ev_X4_planMore [86] 100 ?_) hls
      refine vf (nnle (4 * tF T) A (by omega) (by omega)) ?_
      exact inner (4 * tF T) 0 _ _ (by omega) rfl hi (fun B2 h1 => absurd h1 (Nat.not_lt_zero _))
  have loop1 : Z = false → ∀ (m A : Nat) (y : Int32) (σ' : qw_M), A + m = 4 * tF T → y = nI A → I σ' → (∀ A2, A2 < A → f1 A2 = false) → E_X4_planMore Q 49 [(0, Value.ref 29), (1, .int (nI (4 * tF T))), (2, .int y)] [] σ' := by
    intro hZf m
    induction m with
    | zero =>
      intro A y σ' hA hy hi hno
      subst hy
      refine ev_X4_planMore [79] 100 ?_
      refine vt (nle (4 * tF T) A (by omega) (by omega)) ?_
      exact loop2 hZf (fun A2 h2 => hno A2 (by omega)) (4 * tF T) 0 _ _ _ (by omega) rfl hi (fun A2 B2 h1 => absurd h1 (Nat.not_lt_zero _)) (fun q hq => hq)
    | succ m ih =>
      intro A y σ' hA hy hi hno
      subst hy
      refine ev_X4_planMore [49] 100 ?_
      refine vf (nnle (4 * tF T) A (by omega) (by omega)) ?_
      refine ⟨trivial, _, after1 σ' hi A (by omega), fun y σ2 _ ⟨k1, k2⟩ => ?_⟩
      cases k2
      cases hb : f1 A with
      | false =>
        refine vt rfl ?_
        refine ih (A + 1) _ _ (by omega) (nI_add A 1) k1 (fun A2 h1 => ?_)
        by_cases e : A2 = A
        · rw [e]; exact hb
        · exact hno A2 (by omega)
      | true =>
        refine vf (by decide) ?_
        refine ⟨trivial, _, m_decide _ _ _, fun σ3 ⟨q1, q2⟩ => ?_⟩
        exact ende σ2 σ3 _ _ _ k1 q1 q2 (Or.inr (Or.inl ⟨hZf, A, by omega, hb, hno, rfl, rfl, rfl⟩))
  refine ev_X4_planMore [49] 100 ?_
  refine ⟨trivial, _, m_decide _ _ _, fun σ1 ⟨q1, q2⟩ => ?_⟩
  have q1' : fr scA σ σ1 := q1.mo (by unfold scA; decide)
  have h1 := h.fr q1' scA_ok (h.2.2.2.2.2.2.fr q1 (by decide))
  refine ⟨trivial, _, m_lightUp h1 (s := 19) (by omega), fun σ2 ⟨g1, g2, g3, g4, g5⟩ => ?_⟩
  have hi : I σ2 := by
    subst hI
    exact ⟨q1'.tr (scr_A g1), g2, g3, g4, q2.fr g1 (by unfold scr; decide)⟩
  have g5' : gl σ2 28 (lgS T C n a L 19) := g5
  refine ⟨trivial, _, m_isShownNow g2.2.2.1 g5', fun y σ3 _ ⟨k1, k2⟩ => ?_⟩
  cases k2
  have k1 := k1.symm
  subst k1
  rw [hZ]
  cases hz : Z with
  | true =>
    refine vf (by decide) ?_
    refine ⟨trivial, _, m_decide _ _ _, fun σ3 ⟨q3, q4⟩ => ?_⟩
    exact ende σ2 σ3 _ _ _ hi q3 q4 (Or.inl ⟨hz, rfl, rfl, rfl⟩)
  | false =>
    refine vt rfl ?_
    have e4 : nI 4 * (σ2 8).1 5 = nI (4 * tF T) := by rw [g2.1.2.1, pk_mul]
    have fin : ∀ z, z = nI (4 * tF T) → E_X4_planMore Q 49 [(0, .ref 29), (1, .int z), (2, .int (nI 0))] [] σ2 := fun z hzz => by
      subst hzz
      exact loop1 hz (4 * tF T) 0 _ _ (by omega) rfl hi (fun A2 h1 => absurd h1 (Nat.not_lt_zero _))
    exact fin _ e4
def lv1 (A : Nat) : Nat → Bool := fun g => decide (g = A)
def lv2 (A B : Nat) : Nat → Bool := fun g => decide (g = A) || decide (g = B)
/-- whether it is shown in a step, some left out -/
def lev (T : TT) (C : CC) (P : Nat → Option Nat) (n : Nat) (a : Nat → Nat) (L s : Nat) (wo : Nat → Bool) : Bool := shX T P n a L s (ps T C s) wo
theorem m_isShownWithout {σ : qw_M} {T : TT} {C : CC} {P : Nat → Option Nat} {n : Nat} {a : Nat → Nat} {L : Nat} (h : sh σ T C P n a L) (hL : sl σ L) {s : Nat} (hs : s < 20) (hg : sg σ (tF T) (ps T C s).1 (ps T C s).2 (tC T)) (wo : Int32) {w : Nat → Bool} (hw : ∀ g, g < 8 → bt wo g = w g) : qw_Mt qw_tw wC my_X4_isShownWithout [.ref 29, .int wo, .int (nI s)] σ (fun r σ' => fr scr σ σ' ∧ sh σ' T C P n a L ∧ sl σ' L ∧ sg σ' (tF T) (ps T C s).1 (ps T C s).2 (tC T) ∧ r = some (.int (nI (lev T C P n a L s w).toNat))) := by
  refine mt_X4_isShownWithout rfl (ev_X4_isShownWithout [] 100 ?_)
  refine ⟨trivial, _, m_isOut h.2.2.2.1 hs, fun y σ3 _ ⟨k1, k2⟩ => ?_⟩
  cases k2
  have k1 := k1.symm
  subst k1
  refine ⟨trivial, _, m_shineS h hg hL (isx a s n) wo, fun σ4 ⟨f1, f2, f3, f4, f5⟩ => ?_⟩
  have f5' : gl σ4 28 (fun c => if isx a s n then 0 else lit (tF T) (cv T L (ps T C s).1 (ps T C s).2) (tC T) w 8 c) := f5.congr (fun c hc => by rw [lit_wo (j := 8) (wo := bt wo) (wo2 := w) hw])
  refine ⟨trivial, _, m_isShownNow f2.2.2.1 f5', fun y σ7 hy ⟨k1, k2⟩ => ?_⟩
  cases k2
  have k1 := k1.symm
  subst k1
  exact ⟨hy, f1, f2, f3, f4, rfl⟩
theorem m_planLeave {σ : qw_M} {T : TT} {C : CC} {P : Nat → Option Nat} {n : Nat} {a : Nat → Nat} {L : Nat} (h : sh σ T C P n a L) {s : Nat} (hs : s < 20) : qw_Mt qw_tw wC my_X4_planLeave [.ref 29, .int (nI s)] σ (fun _ σ' => fr scA σ σ' ∧ sh σ' T C P n a L ∧ ∃ k x y, pk2 (lev T C P n a L s (fun _ => false)) (tF T) (fun A => lev T C P n a L s (lv1 A)) (fun A B => lev T C P n a L s (lv2 A B)) (fun A => A + 1) k x y ∧ pln σ' k x y) := by
  have hF := h.1.1.1
  generalize hZ : lev T C P n a L s (fun _ => false) = Z
  generalize hM1 : (fun A => lev T C P n a L s (lv1 A)) = f1
  generalize hM2 : (fun A B => lev T C P n a L s (lv2 A B)) = f2
  generalize hQ : (fun (_ : Option Value) (σ' : qw_M) => fr scA σ σ' ∧ sh σ' T C P n a L ∧ ∃ k x y, pk2 Z (tF T) f1 f2 (fun A => A + 1) k x y ∧ pln σ' k x y) = Q
  refine mt_X4_planLeave (Q := Q) rfl ?_
  generalize hI : (fun (σ' : qw_M) => fr scA σ σ' ∧ sh σ' T C P n a L ∧ sl σ' L ∧ sg σ' (tF T) (ps T C s).1 (ps T C s).2 (tC T) ∧ pln σ' m1 m1 m1) = I
  have ende : ∀ (σ' σ2 : qw_M) (k x y : Int32), I σ' → fr [33] σ' σ2 → pln σ2 k x y → pk2 Z (tF T) f1 f2 (fun A => A + 1) k x y → Q none σ2 := fun σ' σ2 k x y hi h33 hp hk => by
    subst hI
    subst hQ
    obtain ⟨i1, i2, -⟩ := hi
    have h33' : fr scA σ' σ2 := h33.mo (by unfold scA; decide)
    exact ⟨i1.tr h33', i2.fr h33' scA_ok (i2.2.2.2.2.2.2.fr h33 (by decide)), k, x, y, hk, hp⟩
  have without : ∀ (σ' : qw_M), I σ' → ∀ (wo : Int32) (w : Nat → Bool), (∀ g, g < 8 → bt wo g = w g) → qw_Mt qw_tw wC my_X4_isShownWithout [.ref 29, .int wo, .int (nI s)] σ' (fun r σ2 => I σ2 ∧ r = some (.int (nI (lev T C P n a L s w).toNat))) := fun σ' hi wo w hw => by
    subst hI
    obtain ⟨i1, i2, i3, i4, i5⟩ := hi
    exact mt_mono (m_isShownWithout i2 i3 hs i4 wo hw) (fun r σ2 ⟨k1, k2, k3, k4, k5⟩ => ⟨⟨i1.tr (scr_A k1), k2, k3, k4, i5.fr k1 (by unfold scr; decide)⟩, k5⟩)
  have w1 : ∀ (σ' : qw_M), I σ' → ∀ A, A < 8 → qw_Mt qw_tw wC my_X4_isShownWithout [.ref 29, .int (nI 1 <<< (nI A &&& 31)), .int (nI s)] σ' (fun r σ2 => I σ2 ∧ r = some (.int (nI (f1 A).toNat))) := fun σ' hi A hA => by
    have := without σ' hi (nI 1 <<< (nI A &&& 31)) (lv1 A) (fun g hg => bt1shl (by omega) g hg)
    subst hM1
    exact this
  have w2 : ∀ (σ' : qw_M), I σ' → ∀ A, A < 8 → ∀ B, B < 8 → qw_Mt qw_tw wC my_X4_isShownWithout [.ref 29, .int ((nI 1 <<< (nI A &&& 31)) ||| (nI 1 <<< (nI B &&& 31))), .int (nI s)] σ' (fun r σ2 => I σ2 ∧ r = some (.int (nI (f2 A B).toNat))) := fun σ' hi A hA B hB => by
    have := without σ' hi ((nI 1 <<< (nI A &&& 31)) ||| (nI 1 <<< (nI B &&& 31))) (lv2 A B) (fun g hg => by rw [b_or, bt1shl (by omega) g hg, bt1shl (by omega) g hg]; rfl)
    subst hM2
    exact this
  have loop2 : Z = false → (∀ A, A < tF T → f1 A = false) → ∀ (m A : Nat) (y : Int32) (σ' : qw_M) (ls : qw_L), A + m = tF T → y = nI A → I σ' → (∀ A2 B2, A2 < A → A2 + 1 ≤ B2 → B2 < tF T → f2 A2 B2 = false) → (∀ q ∈ [(0, Value.ref 29), (1, .int (nI s)), (2, .int (nI (tF T))), (3, .int y)], q ∈ ls) → E_X4_planLeave Q 77 ls [] σ' := by
    intro hZf hno1 m
    induction m with
    | zero =>
      intro A y σ' ls hA hy hi hno hls
      subst hy
      refine qw_Ev.sub (ev_X4_planLeave [77] 100 ?_) hls
      refine vt (nle (tF T) A (by omega) (by omega)) ?_
      have hp : pln σ' m1 m1 m1 := by subst hI; exact hi.2.2.2.2
      exact ende σ' σ' _ _ _ hi fr.rf hp (Or.inr (Or.inr (Or.inr ⟨hZf, hno1, fun A2 B2 h1 h2 h3 => hno A2 B2 (by omega) h2 h3, rfl, rfl, rfl⟩)))
    | succ m ih =>
      intro A y σ' ls hA hy hi hno hls
      subst hy
      have inner : ∀ (k B : Nat) (y : Int32) (σ' : qw_M), B + k = tF T → A + 1 ≤ B → y = nI B → I σ' → (∀ B2, A + 1 ≤ B2 → B2 < B → f2 A B2 = false) → E_X4_planLeave Q 87 [(0, Value.ref 29), (1, .int (nI s)), (2, .int (nI (tF T))), (3, .int (nI A)), (4, .int y)] [] σ' := by
        intro k
        induction k with
        | zero =>
          intro B y σ' hB hAB hy hi hnoB
          subst hy
          refine ev_X4_planLeave [77, 87] 100 ?_
          refine vt (nle (tF T) B (by omega) (by omega)) ?_
          refine ih (A + 1) _ _ _ (by omega) (nI_add A 1) hi (fun A2 B2 h1 h2 h3 => ?_) (fun z hz => ?_)
          · by_cases e : A2 = A
            · subst e; exact hnoB B2 h2 (by omega)
            · exact hno A2 B2 (by omega) h2 h3
          · simp only [List.mem_cons, List.not_mem_nil, or_false] at hz
            rcases hz with rfl | rfl | rfl | rfl
            · exact List.mem_of_getElem? (i := 0) rfl
            · exact List.mem_of_getElem? (i := 1) rfl
            · exact List.mem_of_getElem? (i := 2) rfl
            · exact List.mem_of_getElem? (i := 3) rfl
        | succ k ihk =>
          intro B y σ' hB hAB hy hi hnoB
          subst hy
          refine ev_X4_planLeave [77, 87] 100 ?_
          refine vf (nnle (tF T) B (by omega) (by omega)) ?_
          refine ⟨trivial, _, w2 σ' hi A (by omega) B (by omega), fun y σ2 _ ⟨k1, k2⟩ => ?_⟩
          cases k2
          cases hb : f2 A B with
          | false =>
            refine vt rfl ?_
            refine ihk (B + 1) _ _ (by omega) (by omega) (nI_add B 1) k1 (fun B2 h1 h2 => ?_)
            by_cases e : B2 = B
            · rw [e]; exact hb
            · exact hnoB B2 h1 (by omega)
          | true =>
            refine vf (by decide) ?_
            refine ⟨trivial, _, m_decide _ _ _, fun σ3 ⟨q1, q2⟩ => ?_⟩
            refine ende σ2 σ3 _ _ _ k1 q1 q2 (Or.inr (Or.inr (Or.inl ⟨hZf, hno1, A, B, by omega, hAB, by omega, hb, fun A2 B2 h1 h2 h3 h4 => ?_, rfl, rfl, rfl⟩)))
            rcases h4 with h4 | ⟨h4, h5⟩
            · exact hno A2 B2 h4 h2 h3
            · subst h4; exact hnoB B2 h2 h5
      refine qw_Ev.sub (ev_X4_planLeave [87] 100 ?_) hls
      refine vf (nnle (tF T) A (by omega) (by omega)) ?_
      exact inner (tF T - (A + 1)) (A + 1) _ _ (by omega) (by omega) (nI_add A 1) hi (fun B2 h1 h2 => absurd h2 (by omega))
  have loop1 : Z = false → ∀ (m A : Nat) (y : Int32) (σ' : qw_M), A + m = tF T → y = nI A → I σ' → (∀ A2, A2 < A → f1 A2 = false) → E_X4_planLeave Q 45 [(0, Value.ref 29), (1, .int (nI s)), (2, .int (nI (tF T))), (3, .int y)] [] σ' := by
    intro hZf m
    induction m with
    | zero =>
      intro A y σ' hA hy hi hno
      subst hy
      refine ev_X4_planLeave [77] 100 ?_
      refine vt (nle (tF T) A (by omega) (by omega)) ?_
      exact loop2 hZf (fun A2 h2 => hno A2 (by omega)) (tF T) 0 _ _ _ (by omega) rfl hi (fun A2 B2 h1 => absurd h1 (Nat.not_lt_zero _)) (fun q hq => hq)
    | succ m ih =>
      intro A y σ' hA hy hi hno
      subst hy
      refine ev_X4_planLeave [45] 100 ?_
      refine vf (nnle (tF T) A (by omega) (by omega)) ?_
      refine ⟨trivial, _, w1 σ' hi A (by omega), fun y σ2 _ ⟨k1, k2⟩ => ?_⟩
      cases k2
      cases hb : f1 A with
      | false =>
        refine vt rfl ?_
        refine ih (A + 1) _ _ (by omega) (nI_add A 1) k1 (fun A2 h1 => ?_)
        by_cases e : A2 = A
        · rw [e]; exact hb
        · exact hno A2 (by omega)
      | true =>
        refine vf (by decide) ?_
        refine ⟨trivial, _, m_decide _ _ _, fun σ3 ⟨q1, q2⟩ => ?_⟩
        exact ende σ2 σ3 _ _ _ k1 q1 q2 (Or.inr (Or.inl ⟨hZf, A, by omega, hb, hno, rfl, rfl, rfl⟩))
  refine ev_X4_planLeave [45] 100 ?_
  refine ⟨trivial, _, m_decide _ _ _, fun σ1 ⟨q1, q2⟩ => ?_⟩
  have q1' : fr scA σ σ1 := q1.mo (by unfold scA; decide)
  have h1 := h.fr q1' scA_ok (h.2.2.2.2.2.2.fr q1 (by decide))
  refine ⟨trivial, _, m_goTo h1 hs, fun σ2 ⟨g1, g2, g3, g4⟩ => ?_⟩
  have hi : I σ2 := by
    subst hI
    exact ⟨q1'.tr (scr_A g1), g2, g3, g4, q2.fr g1 (by unfold scr; decide)⟩
  refine ⟨trivial, _, without σ2 hi (nI 0) (fun _ => false) (fun g _ => b_0 g), fun y σ3 _ ⟨k1, k2⟩ => ?_⟩
  cases k2
  rw [hZ]
  cases hz : Z with
  | true =>
    refine vf (by decide) ?_
    refine ⟨trivial, _, m_decide _ _ _, fun σ4 ⟨q3, q4⟩ => ?_⟩
    exact ende σ3 σ4 _ _ _ k1 q3 q4 (Or.inl ⟨hz, rfl, rfl, rfl⟩)
  | false =>
    refine vt rfl ?_
    have fin : ∀ z, z = nI (tF T) → E_X4_planLeave Q 45 [(0, .ref 29), (1, .int (nI s)), (2, .int z), (3, .int (nI 0))] [] σ3 := fun z hzz => by
      subst hzz
      exact loop1 hz (tF T) 0 _ _ (by omega) rfl k1 (fun A2 h1 => absurd h1 (Nat.not_lt_zero _))
    exact fin _ g2.1.2.1
