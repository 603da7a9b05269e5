/-! Witness: what was seen -/
/-- sights: each a number, 256 times the step, 8 times the cell, the light -/
def si (σ : qw_M) (m : Nat) (e : Nat → Nat) : Prop := m ≤ 8 ∧ (σ 35).1 1 = nI m ∧ ∀ i, i < m → e i < 5120 ∧ (σ 36).1 i = nI (e i)
theorem si.fr {σ σ' : qw_M} {m : Nat} {e : Nat → Nat} {l : List Nat} (h : si σ m e) (hf : fr l σ σ') (h1 : 35 ∉ l) (h2 : 36 ∉ l) : si σ' m e := by
  unfold si
  rw [hf 35 h1, hf 36 h2]
  exact h
def allx (f : Nat → Bool) : Nat → Bool
  | 0 => true
  | n + 1 => allx f n && f n
theorem allx_t {f : Nat → Bool} : ∀ {n : Nat}, allx f n = true ↔ ∀ i, i < n → f i = true
  | 0 => ⟨fun _ i h => absurd h (Nat.not_lt_zero i), fun _ => rfl⟩
  | n + 1 => by
    have ih := allx_t (f := f) (n := n)
    constructor
    · intro h i hi
      have h : (allx f n && f n) = true := h
      rw [Bool.and_eq_true] at h
      rcases Nat.lt_or_ge i n with q | q
      · exact ih.mp h.1 i q
      · have : i = n := by omega
        subst this
        exact h.2
    · intro h
      show (allx f n && f n) = true
      rw [ih.mpr (fun i hi => h i (by omega)), h n (by omega)]
      rfl
theorem allx_f {f : Nat → Bool} {n i : Nat} (hi : i < n) (h : f i = false) : allx f n = false := by
  cases hb : allx f n with
  | false => rfl
  | true => rw [allx_t.mp hb i hi] at h; cases h
theorem pk_mul3 (s c v : Nat) : (nI s * nI 32 + nI c) * nI 8 + nI v = nI ((s * 32 + c) * 8 + v) := by
  rw [pk_mul, nI_add, pk_mul, nI_add]
theorem m_wadd {σ : qw_M} {m : Nat} {e : Nat → Nat} (hs : si σ m e) (hm : m < 8) (s c v : Nat) : qw_Mt qw_tw wC my_X10_add [.ref 34, .int (nI s), .int (nI c), .int (nI v)] σ (fun r σ' => σ' = qw_pi (qw_pi σ 36 m (nI ((s * 32 + c) * 8 + v))) 35 1 (nI (m + 1)) ∧ r = some (.int (nI (m + 1)))) := by
  refine mt_X10_add rfl (ev_X10_add [] 100 ?_)
  refine ⟨trivial, _, m_add (k := 35) (N := 8) (by unfold qr_row; omega) hs.2.1 hm _, fun x σ' ⟨h1, h2⟩ => ?_⟩
  rw [pk_mul3] at h1
  exact ⟨h1, h2⟩
theorem m_watched {σ : qw_M} {m : Nat} {e : Nat → Nat} (hs : si σ m e) : qw_Mt qw_tw wC my_X10_watchedSteps [.ref 34] σ (fun r σ' => σ' = σ ∧ ∃ x, r = some (.int x) ∧ ∀ k, k < 32 → bt x k = isx (fun i => e i / 256) k m) := by
  obtain ⟨hm, h1, h2⟩ := hs
  refine mt_X10_watchedSteps rfl ?_
  have loop : ∀ (n j : Nat) (y acc : Int32), j + n = m → y = nI j → (∀ k, k < 32 → bt acc k = isx (fun i => e i / 256) k j) → E_X10_watchedSteps (fun r σ' => σ' = σ ∧ ∃ x, r = some (.int x) ∧ ∀ k, k < 32 → bt x k = isx (fun i => e i / 256) k m) 4 [(0, .ref 34), (1, .int acc), (2, .int y)] [] σ := by
    intro n
    induction n with
    | zero =>
      intro j y acc hj hy hb
      subst hy
      have : j = m := by omega
      subst this
      refine ev_X10_watchedSteps [4] 100 ?_
      refine vt (by rw [h1]; exact Int32.le_refl _) ?_
      exact ⟨rfl, acc, rfl, hb⟩
    | succ n ih =>
      intro j y acc hj hy hb
      subst hy
      refine ev_X10_watchedSteps [4] 100 ?_
      refine vf (by rw [h1]; exact nnle m j (by omega) (by omega)) ?_
      refine ⟨trivial, _, m_item (k := 35) (N := 8) (by unfold qr_row; omega) h1 hm _, fun x σ' ⟨k1, k2⟩ => ?_⟩
      have k1 := k1.symm
      subst k1
      rcases k2 with ⟨i, hi, ee, k2⟩ | ⟨k2, -⟩
      · have : j = i := nI_i (by omega) (by omega) ee
        subst this
        cases k2
        obtain ⟨b1, b2⟩ := h2 j hi
        refine And.intro (nI_ne0 (n := 256) (by omega) (by omega)) ?_
        have e256 : (σ (35 + 1)).1 j / nI 256 = nI (e j / 256) := by
          rw [show 35 + 1 = 36 from rfl, b2]
          exact pk_div (a := e j) (d := 256) (by omega) (by omega) (by omega)
        rw [e256]
        refine ih (j + 1) _ _ (by omega) (nI_add j 1) (fun k hk => ?_)
        rw [b_or, hb k hk, bt_shl1 (by omega) hk]
        show (isx (fun i => e i / 256) k j || decide (k = e j / 256)) = (isx (fun i => e i / 256) k j || decide (e j / 256 = k))
        simp [eq_comm]
      · exact absurd rfl (k2 j (by omega))
  refine ev_X10_watchedSteps [4] 100 ?_
  exact loop m 0 _ _ (by omega) rfl (fun k hk => b_0 k)
/-- one sight comes out so -/
def sok (e : Nat → Nat) (lf : Nat → Nat → Nat) (i : Nat) : Bool := decide (lf (e i / 256) (e i / 8 % 32) = e i % 8)
theorem m_agreesIn {σ : qw_M} {m : Nat} {e : Nat → Nat} (hs : si σ m e) {G : Nat → Nat} (hG : gl σ 28 G) {s : Nat} (hs20 : s < 20) : qw_Mt qw_tw wC my_X10_agreesIn [.ref 34, .int (nI s)] σ (fun r σ' => σ' = σ ∧ r = some (.int (nI (allx (fun i => !decide (e i / 256 = s) || decide (G (e i / 8 % 32) = e i % 8)) m).toNat))) := by
  obtain ⟨hm, h1, h2⟩ := hs
  generalize hfi : (fun i => !decide (e i / 256 = s) || decide (G (e i / 8 % 32) = e i % 8)) = fi
  generalize hQ : (fun (r : Option Value) (σ' : qw_M) => σ' = σ ∧ r = some (.int (nI (allx fi m).toNat))) = Q
  refine mt_X10_agreesIn (Q := Q) rfl ?_
  have loop : ∀ (n j : Nat) (y : Int32) (ls : qw_L), j + n = m → y = nI j → (∀ i, i < j → fi i = true) → (∀ q ∈ [(0, Value.ref 34), (1, .int (nI s)), (2, .int y)], q ∈ ls) → E_X10_agreesIn Q 2 ls [] σ := by
    intro n
    induction n with
    | zero =>
      intro j y ls hj hy hb hls
      subst hy
      have : j = m := by omega
      subst this
      refine qw_Ev.sub (ev_X10_agreesIn [2] 100 ?_) hls
      refine vt (by rw [h1]; exact Int32.le_refl _) ?_
      subst hQ
      refine ⟨Or.inr rfl, rfl, ?_⟩
      rw [allx_t.mpr hb]
      rfl
    | succ n ih =>
      intro j y ls hj hy hb hls
      subst hy
      refine qw_Ev.sub (ev_X10_agreesIn [2] 100 ?_) hls
      refine vf (by rw [h1]; exact nnle m j (by omega) (by omega)) ?_
      refine ⟨trivial, _, m_item (k := 35) (N := 8) (by unfold qr_row; omega) h1 hm _, fun x σ' ⟨k1, k2⟩ => ?_⟩
      have k1 := k1.symm
      subst k1
      rcases k2 with ⟨i, hi, ee, k2⟩ | ⟨k2, -⟩
      · have : j = i := nI_i (by omega) (by omega) ee
        subst this
        cases k2
        obtain ⟨b1, b2⟩ := h2 j hi
        have b2' : (σ (35 + 1)).1 j = nI (e j) := b2
        rw [b2']
        refine And.intro (nI_ne0 (n := 256) (by omega) (by omega)) ?_
        have e256 : nI (e j) / nI 256 = nI (e j / 256) := pk_div (a := e j) (d := 256) (by omega) (by omega) (by omega)
        have e8 : nI (e j) / nI 8 = nI (e j / 8) := pk_div (a := e j) (d := 8) (by omega) (by omega) (by omega)
        have e32 : nI (e j / 8) - nI (e j / 8) / nI 32 * nI 32 = nI (e j / 8 % 32) := pk_rem (a := e j / 8) (d := 32) (by omega) (by omega) (by omega)
        have r8 : nI (e j) - nI (e j) / nI 8 * nI 8 = nI (e j % 8) := pk_rem (a := e j) (d := 8) (by omega) (by omega) (by omega)
        have next : fi j = true → ∀ ls : qw_L, (∀ q ∈ [(0, Value.ref 34), (1, .int (nI s)), (2, .int (nI j + nI 1))], q ∈ ls) → E_X10_agreesIn Q 2 ls [] σ := fun hf ls hls => ih (j + 1) _ ls (by omega) (nI_add j 1) (fun i hi => by
          by_cases e : i = j
          · rw [e]; exact hf
          · exact hb i (by omega)) hls
        have sub3 : ∀ (a b c d : Value), ∀ q ∈ [(0, Value.ref 34), (1, .int (nI s)), (2, c)], q ∈ [(0, Value.ref 34), (1, .int (nI s)), (2, c), (3, a), (4, b)] := fun a b c d z hz => by
          simp only [List.mem_cons, List.not_mem_nil, or_false] at hz
          rcases hz with rfl | rfl | rfl <;> simp
        rw [e256]
        by_cases c1 : e j / 256 = s
        · refine vnf (by rw [c1]) ?_
          refine vf (by decide) ?_
          refine And.intro (nI_ne0 (n := 8) (by omega) (by omega)) ?_
          rw [e8]
          refine And.intro (nI_ne0 (n := 32) (by omega) (by omega)) ?_
          rw [e32]
          refine ⟨trivial, _, m_lightOf (Or.inr (Or.inl rfl)) hG (c := e j / 8 % 32) (by omega), fun x σ' ⟨k1, k2⟩ => ?_⟩
          cases k2
          have k1 := k1.symm
          subst k1
          refine And.intro (nI_ne0 (n := 8) (by omega) (by omega)) ?_
          have r8' : nI (e j) - nI (e j / 8) * nI 8 = nI (e j % 8) := by rw [← e8]; exact r8
          have hG8 := (hG (e j / 8 % 32) (by omega)).1
          by_cases c2 : G (e j / 8 % 32) = e j % 8
          · refine vt ?_ ?_
            · rw [c2]
              first | exact r8'.symm | exact r8.symm
            · exact next (by rw [← hfi]; simp [c2]) _ (sub3 _ _ _ .null)
          · refine vf ?_ ?_
            · intro z
              apply c2
              refine nI_i (by omega) (by omega) (z.trans ?_)
              first | exact r8' | exact r8
            · subst hQ
              refine ⟨Or.inl rfl, rfl, ?_⟩
              rw [allx_f (i := j) (by omega) (by rw [← hfi]; simp [c1, c2])]
              rfl
        · refine vnt (nne (e j / 256) s c1 (by omega) (by omega)) ?_
          refine vt rfl ?_
          exact next (by rw [← hfi]; simp [c1]) _ (sub3 _ _ _ .null)
      · exact absurd rfl (k2 j (by omega))
  refine ev_X10_agreesIn [2] 100 ?_
  exact loop m 0 _ _ (by omega) rfl (fun i h => absurd h (Nat.not_lt_zero i)) (fun q hq => hq)
theorem shr_zero {x : Int32} (h31 : bt x 31 = false) {j : Nat} (hj : j < 32) : x >>> (nI j &&& 31) = 0 ↔ ∀ k, j ≤ k → k < 32 → bt x k = false := by
  constructor
  · intro h k h1 h2
    have e := b_sshr j hj x (i := k - j) (by omega)
    rw [h, if_pos (by omega), show j + (k - j) = k by omega] at e
    rw [← e]
    exact b_0 _
  · intro h
    apply b_ext
    intro i hi
    rw [b_sshr j hj x hi]
    have h0 : bt 0 i = false := b_0 i
    rw [h0]
    split
    · exact h (j + i) (by omega) (by omega)
    · exact h31
/-- the light by cues that are skipped or not, from figures there and there, of such colours -/
def lgX (T : TT) (C : CC) (skip : Nat → Bool) (n : Nat) (a : Nat → Nat) (L : Nat) (x : (Nat → Nat) × (Nat → Nat)) (q : Nat → Nat) (s c : Nat) : Nat := if isx a s n then 0 else lit (tF T) (cv T L (gos (tF T) C skip x (s + 1)).1 (gos (tF T) C skip x (s + 1)).2) q (fun _ => false) 8 c
theorem m_agrees {σ : qw_M} {T : TT} {C : CC} {P : Nat → Option Nat} {n : Nat} {a : Nat → Nat} {L : Nat} (h : sh σ T C P n a L) (hL : sl σ L) {x : (Nat → Nat) × (Nat → Nat)} {q : Nat → Nat} (hg : sg σ (tF T) x.1 x.2 q) {m : Nat} {e : Nat → Nat} (hs : si σ m e) (sk : Int32) : qw_Mt qw_tw wC my_X10_agrees [.ref 34, .int sk] σ (fun r σ' => fr scr σ σ' ∧ sh σ' T C P n a L ∧ r = some (.int (nI (allx (sok e (lgX T C (bt sk) n a L x q)) m).toNat))) := by
  generalize hlf : lgX T C (bt sk) n a L x q = lf
  generalize hQ : (fun (r : Option Value) (σ' : qw_M) => fr scr σ σ' ∧ sh σ' T C P n a L ∧ r = some (.int (nI (allx (sok e lf) m).toNat))) = Q
  refine mt_X10_agrees (Q := Q) rfl ?_
  refine ev_X10_agrees [7] 100 ?_
  refine ⟨trivial, _, m_watched hs, fun w σ1 ⟨k1, z, k2, hw⟩ => ?_⟩
  cases k2
  have k1 := k1.symm
  subst k1
  have hw31 : bt w 31 = false := by
    rw [hw 31 (by omega)]
    exact isx_false.mpr (fun i hi => by have := (hs.2.2 i hi).1; omega)
  have loop : ∀ (k j : Nat) (y : Int32) (σ' : qw_M), j + k = 20 → y = nI j → fr scr σ σ' → sh σ' T C P n a L → sl σ' L → sg σ' (tF T) (gos (tF T) C (bt sk) x j).1 (gos (tF T) C (bt sk) x j).2 q → (∀ i, i < m → e i / 256 < j → sok e lf i = true) → E_X10_agrees Q 7 [(0, .ref 34), (1, .int sk), (2, .int w), (3, .int y)] [] σ' := by
    intro k
    induction k with
    | zero =>
      intro j y σ' hj hy hf h' hl hgg hok
      subst hy
      have : j = 20 := by omega
      subst this
      refine ev_X10_agrees [7] 100 ?_
      refine vt (Int32.le_refl _) ?_
      subst hQ
      refine ⟨Or.inr rfl, hf, h', ?_⟩
      rw [allx_t.mpr (fun i hi => hok i hi (by have := (hs.2.2 i hi).1; omega))]
      rfl
    | succ k ih =>
      intro j y σ' hj hy hf h' hl hgg hok
      subst hy
      refine ev_X10_agrees [7, 56] 100 ?_
      refine vf (nnle 20 j (by omega) (by omega)) ?_
      by_cases c0 : w >>> (nI j &&& 31) = 0
      · refine vt c0 ?_
        subst hQ
        refine ⟨Or.inr rfl, hf, h', ?_⟩
        rw [allx_t.mpr (fun i hi => hok i hi ?_)]
        · rfl
        · have hz := (shr_zero hw31 (by omega)).mp c0
          rcases Nat.lt_or_ge (e i / 256) j with z | z
          · exact z
          · have hb := (hs.2.2 i hi).1
            have := hz (e i / 256) z (by omega)
            rw [hw _ (by omega)] at this
            exact absurd rfl (isx_false.mp this i hi)
      · refine vf c0 ?_
        have es : (sk >>> (nI j &&& 31)) &&& nI 1 = nI (bt sk j).toNat := bt_s (by omega)
        have ew : (w >>> (nI j &&& 31)) &&& nI 1 = nI (bt w j).toNat := bt_s (by omega)
        -- from 56: the cue is done
        have body : ∀ (σ2 : qw_M), fr scr σ' σ2 → sh σ2 T C P n a L → sl σ2 L → sg σ2 (tF T) (gos (tF T) C (bt sk) x (j + 1)).1 (gos (tF T) C (bt sk) x (j + 1)).2 q → E_X10_agrees Q 56 [(0, .ref 34), (1, .int sk), (2, .int w), (3, .int (nI j))] [] σ2 := fun σ2 f1 f2 f3 f4 => by
          refine ev_X10_agrees [7] 100 ?_
          cases hb : bt w j with
          | false =>
            refine vt (by rw [ew, hb]; rfl) ?_
            refine ih (j + 1) _ _ (by omega) (nI_add j 1) (hf.tr f1) f2 f3 f4 (fun i hi hij => ?_)
            by_cases e2 : e i / 256 = j
            · rw [hw j (by omega)] at hb
              exact absurd e2 (isx_false.mp hb i hi)
            · exact hok i hi (by omega)
          | true =>
            refine vf (by rw [ew, hb]; decide) ?_
            refine ⟨trivial, _, m_isOut f2.2.2.2.1 (s := j) (by omega), fun y σ3 _ ⟨k1, k2⟩ => ?_⟩
            cases k2
            have k1 := k1.symm
            subst k1
            refine ⟨trivial, _, m_shineS f2 f4 f3 (isx a j n) (nI 0), fun σ4 ⟨g1, g2, g3, g4, g5⟩ => ?_⟩
            rw [nosk] at g5
            have g5' : gl σ4 28 (lf j) := by
              rw [← hlf]
              exact g5
            have hs4 := (hs.fr (hf.tr f1) (by unfold scr; decide) (by unfold scr; decide)).fr g1 (by unfold scr; decide) (by unfold scr; decide)
            refine ⟨trivial, _, m_agreesIn hs4 g5' (s := j) (by omega), fun y σ5 _ ⟨k1, k2⟩ => ?_⟩
            cases k2
            have k1 := k1.symm
            subst k1
            cases hall : allx (fun i => !decide (e i / 256 = j) || decide (lf j (e i / 8 % 32) = e i % 8)) m with
            | true =>
              refine vnt (by decide) ?_
              refine ih (j + 1) _ _ (by omega) (nI_add j 1) ((hf.tr f1).tr g1) g2 g3 g4 (fun i hi hij => ?_)
              by_cases e2 : e i / 256 = j
              · have := allx_t.mp hall i hi
                simp only [e2, decide_true, Bool.not_true, Bool.false_or] at this
                unfold sok
                rw [e2]
                exact this
              · exact hok i hi (by omega)
            | false =>
              refine vnf rfl ?_
              subst hQ
              refine ⟨Or.inl rfl, (hf.tr f1).tr g1, g2, ?_⟩
              cases hs2 : allx (sok e lf) m with
              | false => rfl
              | true =>
                have : allx (fun i => !decide (e i / 256 = j) || decide (lf j (e i / 8 % 32) = e i % 8)) m = true := allx_t.mpr (fun i hi => by
                  by_cases e2 : e i / 256 = j
                  · have := allx_t.mp hs2 i hi
                    unfold sok at this
                    rw [e2] at this
                    simp only [this, Bool.or_true]
                  · simp [e2])
                rw [this] at hall
                cases hall
        cases hb : bt sk j with
        | true =>
          refine vnt (by rw [es, hb]; decide) ?_
          refine body σ' fr.rf h' hl ?_
          simp only [gos, hb, if_true]
          exact hgg
        | false =>
          refine vnf (by rw [es, hb]; rfl) ?_
          refine ⟨trivial, _, m_figureOf (Or.inl rfl) h'.2.1 (s := j) (by omega), fun y1 σ1 ⟨k1, k2⟩ => ?_⟩
          cases k2
          have k1 := k1.symm
          subst k1
          refine ⟨trivial, _, m_whitherOf (Or.inl rfl) h'.2.1 (s := j) (by omega), fun y2 σ2 ⟨k1, k2⟩ => ?_⟩
          cases k2
          have k1 := k1.symm
          subst k1
          refine ⟨trivial, _, m_moveC h'.1 hgg h'.2.1.1 j, fun σ3 ⟨k1, k2⟩ => ?_⟩
          have f1 := scr_mv k1
          refine body σ3 f1 (h'.fr f1 scr_ok (h'.2.2.2.2.2.2.fr k1 (by decide))) (hl.fr k1 (by decide)) ?_
          simp only [gos, hb]
          exact k2
  exact loop 20 0 _ _ rfl rfl fr.rf h hL hg (fun i hi hz => absurd hz (Nat.not_lt_zero _))
