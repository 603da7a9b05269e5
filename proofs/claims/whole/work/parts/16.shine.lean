/-! Stage: light, touching -/
theorem m_dim0 {k : Nat} (hk : qr_glow k) {σ : qw_M} {G : Nat → Nat} (hg : gl σ k G) {x y : Int32} (hx : ∀ c, c < 32 → bt x c = false) : qw_Mt qw_tw wC my_X2_dim [.ref k, .int x, .int y] σ (fun _ σ' => fr [k] σ σ' ∧ gl σ' k G) := by
  have e : ∀ z : Int32, z &&& (x ^^^ Int32.ofInt (Int.negSucc 0)) = z := fun z => b_ext (fun i hi => by rw [bt_neg hi, hx i hi]; simp)
  have fin : ∀ σ' : qw_M, fr [k] σ σ' → (σ' k).1 0 = (σ k).1 0 → (σ' k).1 1 = (σ k).1 1 → (σ' k).1 2 = (σ k).1 2 → fr [k] σ σ' ∧ gl σ' k G := fun σ' h h0 h1 h2 => ⟨h, fun c hc => by rw [h0, h1, h2]; exact hg c hc⟩
  have m : ∀ l : List Nat, k ∈ k :: l := fun l => List.mem_cons_self
  rcases hk with rfl | rfl | rfl
  all_goals
    refine mt_X2_dim rfl (ev_X2_dim [] 100 ?_)
    refine vb (fun _ => ?_) (fun _ => ?_)
    · refine vb (fun _ => ?_) (fun _ => ?_)
      · refine vb (fun _ => ?_) (fun _ => ?_)
        · exact fin _ fr.rf rfl rfl rfl
        · refine fin _ (fr.pi (m _)) ?_ ?_ ?_ <;> (simp only [pi_at, e]; try simp)
      · refine vb (fun _ => ?_) (fun _ => ?_)
        · refine fin _ (fr.pi (m _)) ?_ ?_ ?_ <;> (simp only [pi_at, e]; try simp)
        · refine fin _ ((fr.pi (m _)).tr (fr.pi (m _))) ?_ ?_ ?_ <;> (simp only [pi_at, e]; try simp)
    · refine vb (fun _ => ?_) (fun _ => ?_)
      · refine vb (fun _ => ?_) (fun _ => ?_)
        · refine fin _ (fr.pi (m _)) ?_ ?_ ?_ <;> (simp only [pi_at, e]; try simp)
        · refine fin _ ((fr.pi (m _)).tr (fr.pi (m _))) ?_ ?_ ?_ <;> (simp only [pi_at, e]; try simp)
      · refine vb (fun _ => ?_) (fun _ => ?_)
        · refine fin _ ((fr.pi (m _)).tr (fr.pi (m _))) ?_ ?_ ?_ <;> (simp only [pi_at, e]; try simp)
        · refine fin _ (((fr.pi (m _)).tr (fr.pi (m _))).tr (fr.pi (m _))) ?_ ?_ ?_ <;> (simp only [pi_at, e]; try simp)
/-- the light of a cell behind the first figures of F, some left out -/
def lit (F : Nat) (cov : Nat → Nat → Bool) (q : Nat → Nat) (wo : Nat → Bool) : Nat → Nat → Nat
  | 0, _ => 7
  | f + 1, c => if !wo f && (decide (f < F) && cov f c) then lit F cov q wo f c &&& leave (q f) else lit F cov q wo f c
/-- which cell which figure covers -/
def cv (T : TT) (L : Nat) (d p : Nat → Nat) (f c : Nat) : Bool := over L (d f) (p f) (tK T f) c
theorem m_shine {T : TT} {σ : qw_M} (hT : tr σ T) (hr : ry σ) (hc : ca σ T) {d p q : Nat → Nat} (hs : sg σ (tF T) d p q) {L : Nat} (hL : sl σ L) (fl : Bool) (wo : Int32) : qw_Mt qw_tw wC my_X8_shine [.ref 21, .int (nI fl.toNat), .int wo] σ (fun _ σ' => fr [26, 27, 28] σ σ' ∧ ca σ' T ∧ gl σ' 28 (fun c => if fl then 0 else lit (tF T) (cv T L d p) q (bt wo) 8 c)) := by
  refine mt_X8_shine rfl ?_
  have loop : ∀ (n j : Nat) (x : Int32) (σ' : qw_M), j + n = 8 → x = nI j → fr [26, 27, 28] σ σ' → ca σ' T → gl σ' 28 (lit (tF T) (cv T L d p) q (bt wo) j) →
      E_X8_shine (fun _ σ' => fr [26, 27, 28] σ σ' ∧ ca σ' T ∧ gl σ' 28 (fun c => if false = true then 0 else lit (tF T) (cv T L d p) q (bt wo) 8 c)) 18 [(0, .ref 21), (1, .int (nI 0)), (2, .int wo), (3, .int x)] [] σ' := by
    intro n
    induction n with
    | zero =>
      intro j x σ' hj hx hf hc' hg
      subst hx
      refine ev_X8_shine [18] 100 ?_
      refine vt (nle 8 j (by omega) (by omega)) ?_
      have : j = 8 := by omega
      subst this
      exact ⟨hf, hc', hg⟩
    | succ n ih =>
      intro j x σ' hj hx hf hc' hg
      subst hx
      refine ev_X8_shine [18] 100 ?_
      refine vf (nnle 8 j (by omega) (by omega)) ?_
      refine vnf rfl ?_
      have ew : (wo >>> (nI j &&& 31)) &&& nI 1 = nI (bt wo j).toNat := bt_s (by omega)
      refine vnb (fun a => ?_) (fun a => ?_)
      · rw [ew, rb] at a
        have a : bt wo j = true := by simpa using a
        refine ih (j + 1) _ _ (by omega) (nI_add j 1) hf hc' (hg.congr (fun c hc => ?_))
        simp [lit, a]
      · rw [ew, rb] at a
        have hT' := hT.fr hf (by intro k _ _; simp; omega)
        have hr' := hr.fr hf (by decide)
        have hs' := hs.fr hf (by intro k _ _; simp; omega)
        have hL' := hL.fr hf (by decide)
        refine ⟨trivial, _, m_coverOf hT' hr' hc' hs' hL' (f := j) (by omega), fun x σ2 ⟨g1, g2, y, g3, g4⟩ => ?_⟩
        cases g3
        refine And.intro (nin j 8 (by omega) (by omega)) ?_
        have hg2 := hg.fr g1 (by decide)
        have hf2 : fr [26, 27, 28] σ σ2 := hf.tr (g1.mo (by simp))
        by_cases hjF : j < tF T
        · have hcol : (σ2 25).1 (nI j).toNatClampNeg = nI (q j) := by
            rw [nI_clamp (by omega), hf2 25 (by decide)]
            exact (hs j hjF).2.2.2.2.2.2
          refine ⟨trivial, fun _ σ' => fr [28] σ2 σ' ∧ gl σ' 28 (fun c => if (decide (j < tF T) && over L (d j) (p j) (tK T j) c) then lit (tF T) (cv T L d p) q (bt wo) j c &&& leave (q j) else lit (tF T) (cv T L d p) q (bt wo) j c), ?_, fun σ3 ⟨k1, k2⟩ => ?_⟩
          · rw [hcol]
            exact m_dim (Or.inr (Or.inl rfl)) hg2 g4 (hs j hjF).2.2.2.1
          · refine ih (j + 1) _ _ (by omega) (nI_add j 1) (hf2.tr (k1.mo (by simp))) (g2.fr k1 (by decide)) (k2.congr (fun c hc => ?_))
            simp [lit, a, cv]
        · refine ⟨trivial, _, m_dim0 (Or.inr (Or.inl rfl)) hg2 (fun c hc => by rw [g4 c hc]; simp [hjF]), fun σ3 ⟨k1, k2⟩ => ?_⟩
          refine ih (j + 1) _ _ (by omega) (nI_add j 1) (hf2.tr (k1.mo (by simp))) (g2.fr k1 (by decide)) (k2.congr (fun c hc => ?_))
          simp [lit, hjF]
  cases fl with
  | false =>
    refine ev_X8_shine [18] 100 ?_
    refine vt rfl ?_
    refine ⟨trivial, _, m_fill7 (Or.inr (Or.inl rfl)), fun σ2 ⟨k1, k2⟩ => ?_⟩
    exact loop 8 0 _ _ rfl rfl (k1.mo (by simp)) (hc.fr k1 (by decide)) k2
  | true =>
    refine ev_X8_shine [18] 100 ?_
    refine vf (by decide) ?_
    refine ⟨trivial, _, m_fill0 (Or.inr (Or.inl rfl)), fun σ2 ⟨k1, k2⟩ => ?_⟩
    refine ev_X8_shine [18] 100 ?_
    refine vf (by decide) ?_
    refine vnt (by decide) ?_
    exact ⟨k1.mo (by simp), hc.fr k1 (by decide), k2⟩
theorem m_dimBy {T : TT} {σ : qw_M} (hT : tr σ T) (hr : ry σ) (hc : ca σ T) {d p q : Nat → Nat} (hs : sg σ (tF T) d p q) {L : Nat} (hL : sl σ L) {f : Nat} (hf : f < tF T) {G : Nat → Nat} (hg : gl σ 28 G) : qw_Mt qw_tw wC my_X8_dimBy [.ref 21, .int (nI f)] σ (fun _ σ' => fr [26, 27, 28] σ σ' ∧ ca σ' T ∧ gl σ' 28 (fun c => if cv T L d p f c then G c &&& leave (q f) else G c)) := by
  have hF := hT.1.1
  refine mt_X8_dimBy rfl (ev_X8_dimBy [] 100 ?_)
  refine ⟨trivial, _, m_has hT _, fun x σ' _ ⟨h1, h2⟩ => ?_⟩
  have h1 := h1.symm
  subst h1
  rcases h2 with ⟨g, hg, e, h2⟩ | ⟨h2, -⟩
  · cases h2
    refine vf (by decide) ?_
    refine ⟨trivial, _, m_coverOf hT hr hc hs hL (f := f) (by omega), fun x σ2 ⟨g1, g2, y, g3, g4⟩ => ?_⟩
    cases g3
    refine And.intro (nin f 8 (by omega) (by omega)) ?_
    have hcol : (σ2 25).1 (nI f).toNatClampNeg = nI (q f) := by
      rw [nI_clamp (by omega), g1 25 (by decide)]
      exact (hs f hf).2.2.2.2.2.2
    refine ⟨trivial, fun _ σ' => fr [28] σ2 σ' ∧ gl σ' 28 (fun c => if (decide (f < tF T) && over L (d f) (p f) (tK T f) c) then G c &&& leave (q f) else G c), ?_, fun σ3 ⟨k1, k2⟩ => ?_⟩
    · rw [hcol]
      exact m_dim (Or.inr (Or.inl rfl)) (‹gl σ 28 G›.fr g1 (by decide)) g4 (hs f hf).2.2.2.1
    · refine ⟨(g1.mo (by simp)).tr (k1.mo (by simp)), g2.fr k1 (by decide), k2.congr (fun c hc => ?_)⟩
      cases h : over L (d f) (p f) (tK T f) c <;> simp [cv, hf, h]
  · exact absurd rfl (h2 f hf)
/-- whether two figures touch -/
def tch (T : TT) (d p : Nat → Nat) (a b : Nat) : Bool := decide (d a = d b) && (decide (p a < p b + tM T b) && decide (p b < p a + tM T a))
theorem m_touchingPair {T : TT} {σ : qw_M} (hT : tr σ T) {d p q : Nat → Nat} (hs : sg σ (tF T) d p q) : qw_Mt qw_tw wC my_X8_touchingPair [.ref 21] σ (fun r σ' => σ' = σ ∧ ((∃ a b, a < b ∧ b < tF T ∧ tch T d p a b = true ∧ (∀ a2 b2, a2 < b2 → b2 < tF T → a2 < a ∨ (a2 = a ∧ b2 < b) → tch T d p a2 b2 = false) ∧ r = some (.int (nI (a * 8 + b)))) ∨ ((∀ a b, a < b → b < tF T → tch T d p a b = false) ∧ r = some (.int (Int32.ofInt (Int.negSucc 0)))))) := by
  obtain ⟨⟨hF, hok⟩, hn, htr⟩ := hT
  refine mt_X8_touchingPair rfl ?_
  generalize hQ : (fun (r : Option Value) (σ' : qw_M) => σ' = σ ∧ ((∃ a b, a < b ∧ b < tF T ∧ tch T d p a b = true ∧ (∀ a2 b2, a2 < b2 → b2 < tF T → a2 < a ∨ (a2 = a ∧ b2 < b) → tch T d p a2 b2 = false) ∧ r = some (.int (nI (a * 8 + b)))) ∨ ((∀ a b, a < b → b < tF T → tch T d p a b = false) ∧ r = some (.int (Int32.ofInt (Int.negSucc 0)))))) = Q
  have inner : ∀ (n a b : Nat) (y : Int32), b + n = tF T → a < b → a < tF T → y = nI b → (∀ a2 b2, a2 < b2 → b2 < tF T → a2 < a ∨ (a2 = a ∧ b2 < b) → tch T d p a2 b2 = false) →
      (∀ y, (∀ a2 b2, a2 < b2 → b2 < tF T → a2 < a + 1 → tch T d p a2 b2 = false) → E_X8_touchingPair Q 118 [(0, .ref 21), (1, .int (nI a)), (2, .int y)] [] σ) →
      E_X8_touchingPair Q 23 [(0, .ref 21), (1, .int (nI a)), (2, .int y)] [] σ := by
    intro n
    induction n with
    | zero =>
      intro a b y hb hab haF hy hno kk
      subst hy
      refine ev_X8_touchingPair [23, 118] 100 ?_
      refine vt (by rw [hn]; exact nle (tF T) b (by omega) (by omega)) ?_
      exact kk _ (fun a2 b2 h1 h2 h3 => hno a2 b2 h1 h2 (by omega))
    | succ n ih =>
      intro a b y hb hab haF hy hno kk
      subst hy
      have hbF : b < tF T := by omega
      obtain ⟨a1, a2, a3, a4, a5, a6, a7⟩ := hs a haF
      obtain ⟨b1, b2, b3, b4, b5, b6, b7⟩ := hs b hbF
      obtain ⟨-, -, -, -, am1, am6, -⟩ := hok a haF
      obtain ⟨-, -, -, -, bm1, bm6, -⟩ := hok b hbF
      obtain ⟨-, -, -, am, -⟩ := htr a haF
      obtain ⟨-, -, -, bm, -⟩ := htr b hbF
      have ina : vp_in (nI a) 8 := nin a 8 (by omega) (by omega)
      have inb : vp_in (nI b) 8 := nin b 8 (by omega) (by omega)
      have ka : (nI a).toNatClampNeg = a := nI_clamp (by omega)
      have kb : (nI b).toNatClampNeg = b := nI_clamp (by omega)
      have next : tch T d p a b = false → E_X8_touchingPair Q 23 [(0, .ref 21), (1, .int (nI a)), (2, .int (nI b + nI 1))] [] σ := fun hf =>
        ih a (b + 1) _ (by omega) (by omega) haF (nI_add b 1) (fun a2 b2 h1 h2 h3 => by
          by_cases h : a2 = a ∧ b2 = b
          · rw [h.1, h.2]
            exact hf
          · exact hno a2 b2 h1 h2 (by omega)) kk
      refine ev_X8_touchingPair [23, 118] 100 ?_
      refine vf (by rw [hn]; exact nnle (tF T) b (by omega) (by omega)) ?_
      refine vf (nnle 8 b (by omega) (by omega)) ?_
      refine And.intro ina ?_
      refine And.intro inb ?_
      rw [ka, kb, a5, b5]
      by_cases c1 : d a = d b
      · refine vnf (by rw [c1]) ?_
        refine And.intro ina ?_
        refine And.intro inb ?_
        refine And.intro inb ?_
        rw [ka, kb, a6, b6, bm]
        by_cases c2 : p a < p b + tM T b
        · refine vf (by rw [nI_add]; exact nnle (p b + tM T b) (p a) (by omega) (by omega)) ?_
          refine And.intro inb ?_
          refine And.intro ina ?_
          refine And.intro ina ?_
          rw [ka, kb, a6, b6, am]
          by_cases c3 : p b < p a + tM T a
          · refine vf (by rw [nI_add]; exact nnle (p a + tM T a) (p b) (by omega) (by omega)) ?_
            subst hQ
            refine ⟨rfl, Or.inl ⟨a, b, hab, hbF, by simp [tch, c1, c2, c3], hno, ?_⟩⟩
            show some (Value.int (nI a * nI 8 + nI b)) = _
            rw [pk_mul, nI_add]
          · refine vt (by rw [nI_add]; exact nle (p a + tM T a) (p b) (by omega) (by omega)) ?_
            exact next (by simp [tch, c3])
        · refine vt (by rw [nI_add]; exact nle (p b + tM T b) (p a) (by omega) (by omega)) ?_
          exact next (by simp [tch, c2])
      · refine vnt (nne (d a) (d b) c1 (by omega) (by omega)) ?_
        exact next (by simp [tch, c1])
  have outer : ∀ (n a : Nat) (x : Int32), a + n = tF T → x = nI a → (∀ a2 b2, a2 < b2 → b2 < tF T → a2 < a → tch T d p a2 b2 = false) → ∀ ls, ls = [(0, Value.ref 21), (1, .int x)] → E_X8_touchingPair Q 2 ls [] σ := by
    intro n
    induction n with
    | zero =>
      intro a x ha hx hno ls hls
      subst hx
      subst hls
      refine ev_X8_touchingPair [2, 23] 100 ?_
      refine vt (by rw [hn]; exact nle (tF T) a (by omega) (by omega)) ?_
      subst hQ
      exact ⟨rfl, Or.inr ⟨fun a2 b2 h1 h2 => hno a2 b2 h1 h2 (by omega), rfl⟩⟩
    | succ n ih =>
      intro a x ha hx hno ls hls
      subst hx
      subst hls
      refine ev_X8_touchingPair [2, 23] 100 ?_
      refine vf (by rw [hn]; exact nnle (tF T) a (by omega) (by omega)) ?_
      refine vf (nnle 8 a (by omega) (by omega)) ?_
      refine inner (tF T - (a + 1)) a (a + 1) _ (by omega) (by omega) (by omega) (nI_add a 1) (fun a2 b2 h1 h2 h3 => hno a2 b2 h1 h2 (by omega)) (fun y hno2 => ?_)
      refine ev_X8_touchingPair [2, 23] 100 ?_
      refine qw_Ev.sub (ih (a + 1) _ (by omega) (nI_add a 1) (fun a2 b2 h1 h2 h3 => hno2 a2 b2 h1 h2 h3) _ rfl) ?_
      intro z hz
      simp only [List.mem_cons, List.not_mem_nil, or_false] at hz
      rcases hz with rfl | rfl
      · exact List.mem_of_getElem? (i := 0) rfl
      · exact List.mem_of_getElem? (i := 1) rfl
  refine ev_X8_touchingPair [2, 23] 100 ?_
  exact outer (tF T) 0 _ (by omega) rfl (fun a2 b2 h1 h2 h3 => absurd h3 (Nat.not_lt_zero _)) _ rfl
