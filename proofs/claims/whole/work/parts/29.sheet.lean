/-! Sheets -/
abbrev PG : Type := Option (Nat × Nat × (Nat → Int32))
def psz (x : PG) : Nat := match x with
  | some z => z.2.1
  | none => 0
def pfm (x : PG) : Int32 := match x with
  | some z => nI z.1
  | none => m1
def pit (x : PG) (i : Nat) : Int32 := match x with
  | some z => z.2.2 i
  | none => 0
def pokk (x : PG) : Prop := match x with
  | some z => z.1 < 3 ∧ z.2.1 ≤ 60
  | none => True
def pg (σ : qw_M) (k : Nat) (x : PG) : Prop := pokk x ∧ (σ k).1 1 = pfm x ∧ (σ k).1 2 = nI (psz x) ∧ ∀ i, i < psz x → (σ (k + 4)).1 i = pit x i
theorem pg.fr {σ σ' : qw_M} {k : Nat} {x : PG} {l : List Nat} (h : pg σ k x) (hf : fr l σ σ') (h0 : k ∉ l) (h1 : k + 4 ∉ l) : pg σ' k x := by
  unfold pg
  rw [hf k h0, hf (k + 4) h1]
  exact h
theorem psz_le {x : PG} (h : pokk x) : psz x ≤ 60 := by
  cases x with
  | none => exact Nat.zero_le _
  | some z => exact h.2
def qr_pg (k : Nat) : Prop := k = 43 ∨ k = 44 ∨ k = 45 ∨ k = 46
theorem m_isLost {k : Nat} (hk : qr_pg k) {σ : qw_M} {x : PG} (h : pg σ k x) : qw_Mt qw_tw wC my_X6_isLost [.ref k] σ (fun r σ' => σ' = σ ∧ r = some (.int (nI x.isNone.toNat))) := by
  have e : (σ k).1 1 = m1 ↔ x.isNone = true := by
    rw [h.2.1]
    cases x with
    | none => exact ⟨fun _ => rfl, fun _ => rfl⟩
    | some z =>
      have := h.1.1
      exact ⟨fun q => absurd q (nI_m1 (by omega)), fun q => by cases q⟩
  rcases hk with rfl | rfl | rfl | rfl
  all_goals
    refine mt_X6_isLost rfl (ev_X6_isLost [] 100 ?_)
    refine vnb (fun q => ?_) (fun q => ?_)
    · have q : ¬ x.isNone = true := fun z => q (e.mpr z)
      refine ⟨Or.inl rfl, rfl, ?_⟩
      cases hx : x.isNone with
      | true => exact absurd hx q
      | false => rfl
    · have q := e.mp q
      refine ⟨Or.inr rfl, rfl, ?_⟩
      rw [q]
      rfl
theorem m_phas {k : Nat} (hk : qr_pg k) {σ : qw_M} {x : PG} (h : pg σ k x) (i : Int32) : qw_Mt qw_tw wC my_X6_has [.ref k, .int i] σ (fun r σ' => σ' = σ ∧ ((∃ j, j < psz x ∧ i = nI j ∧ r = some (.int (nI 1))) ∨ ((∀ j, j < psz x → i ≠ nI j) ∧ r = some (.int (nI 0))))) := by
  have hN := psz_le h.1
  have hn := h.2.2.1
  rcases hk with rfl | rfl | rfl | rfl
  all_goals
    refine mt_X6_has rfl (ev_X6_has [] 100 ?_)
    refine vb (fun a => ?_) (fun a => ?_)
    · exact ⟨Or.inl rfl, rfl, Or.inr ⟨fun j hj e => by subst e; exact nI_pos (by omega) a, rfl⟩⟩
    · refine vb (fun b => ?_) (fun b => ?_)
      · rw [hn] at b
        exact ⟨Or.inl rfl, rfl, Or.inr ⟨fun j hj e => by subst e; exact nI_ge hj (by omega) b, rfl⟩⟩
      · rw [hn] at b
        obtain ⟨j, hj, rfl⟩ := nI_of a
        have hjn : j < psz x := by
          rcases Nat.lt_or_ge j (psz x) with q | q
          · exact q
          · exact absurd (nI_le q hj) b
        refine vf (nnle 60 j (by omega) (by omega)) ?_
        exact ⟨Or.inr rfl, rfl, Or.inl ⟨j, hjn, rfl, rfl⟩⟩
theorem m_pitem {k : Nat} (hk : qr_pg k) {σ : qw_M} {x : PG} (h : pg σ k x) {j : Nat} (hj : j < psz x) : qw_Mt qw_tw wC my_X6_item [.ref k, .int (nI j)] σ (fun r σ' => σ' = σ ∧ r = some (.int (pit x j))) := by
  have hN := psz_le h.1
  have hi := h.2.2.2 j hj
  have hk0 := hk
  rcases hk with rfl | rfl | rfl | rfl
  all_goals
    refine mt_X6_item rfl (ev_X6_item [] 100 ?_)
    refine ⟨trivial, _, m_phas hk0 h _, fun z σ1 _ ⟨k1, k2⟩ => ?_⟩
    have k1 := k1.symm
    subst k1
    rcases k2 with ⟨i, -, -, k2⟩ | ⟨k2, -⟩
    · cases k2
      refine vf (by decide) ?_
      refine And.intro (nin j 60 (by omega) (by omega)) ?_
      rw [nI_clamp (n := j) (by omega)]
      exact ⟨rfl, congrArg (fun z => some (Value.int z)) hi⟩
    · exact absurd rfl (k2 j hj)
def cutI (f : Nat) (v : Int32) : Int32 := if f = 0 then v.toInt8.toInt32 else if f = 1 then v.toInt16.toInt32 else v
def pput (x : PG) (j : Nat) (v : Int32) : PG := match x with
  | some z => some (z.1, z.2.1, fun i => if i = j then cutI z.1 v else z.2.2 i)
  | none => none
theorem m_pput {k : Nat} (hk : qr_pg k) {σ : qw_M} {x : PG} (h : pg σ k x) {j : Nat} (hj : j < psz x) (v : Int32) : qw_Mt qw_tw wC my_X6_put [.ref k, .int (nI j), .int v] σ (fun _ σ' => fr [k + 4] σ σ' ∧ pg σ' k (pput x j v)) := by
  have hN := psz_le h.1
  have hk0 := hk
  cases x with
  | none => exact absurd hj (Nat.not_lt_zero j)
  | some y =>
    obtain ⟨f, n, it⟩ := y
    have hf3 : f < 3 := h.1.1
    have hn : n ≤ 60 := h.1.2
    have hf : (σ k).1 1 = nI f := h.2.1
    have hj : j < n := hj
    have end_ : ∀ w : Int32, w = cutI f v → fr [k + 4] σ (qw_pi σ (k + 4) j w) ∧ pg (qw_pi σ (k + 4) j w) k (pput (some (f, n, it)) j v) := fun w hw => by
      refine ⟨fr.pi (by simp), ⟨hf3, hn⟩, ?_, ?_, fun i hi => ?_⟩
      · rw [pi_off (by omega)]
        exact h.2.1
      · rw [pi_off (by omega)]
        exact h.2.2.1
      · rw [pi_at]
        have hi : i < n := hi
        show _ = if i = j then cutI f v else it i
        by_cases q : i = j
        · rw [if_pos q, if_pos q, hw]
        · rw [if_neg q, if_neg q]
          exact h.2.2.2 i hi
    rcases hk with rfl | rfl | rfl | rfl
    all_goals
      refine mt_X6_put rfl (ev_X6_put [39] 100 ?_)
      refine ⟨trivial, _, m_phas hk0 h _, fun z σ1 _ ⟨k1, k2⟩ => ?_⟩
      have k1 := k1.symm
      subst k1
      rcases k2 with ⟨i, -, -, k2⟩ | ⟨k2, -⟩
      · cases k2
        refine vf (by decide) ?_
        by_cases f0 : f = 0
        · refine vnf (by rw [hf, f0]; rfl) ?_
          refine ev_X6_put [] 100 ?_
          refine And.intro (nin j 60 (by omega) (by omega)) ?_
          rw [nI_clamp (n := j) (by omega)]
          exact end_ _ (by unfold cutI; rw [if_pos f0])
        · refine vnt (by rw [hf]; exact nI_ne0 (n := f) (by omega) (by omega)) ?_
          by_cases f1 : f = 1
          · refine vnf (by rw [hf, f1]) ?_
            refine ev_X6_put [] 100 ?_
            refine And.intro (nin j 60 (by omega) (by omega)) ?_
            rw [nI_clamp (n := j) (by omega)]
            exact end_ _ (by unfold cutI; rw [if_neg f0, if_pos f1])
          · refine vnt (by rw [hf]; exact nne f 1 f1 (by omega) (by omega)) ?_
            refine ev_X6_put [] 100 ?_
            refine And.intro (nin j 60 (by omega) (by omega)) ?_
            rw [nI_clamp (n := j) (by omega)]
            exact end_ _ (by unfold cutI; rw [if_neg f0, if_neg f1])
      · exact absurd rfl (k2 j hj)
theorem m_pdrop {k : Nat} (hk : qr_pg k) {σ : qw_M} {x : PG} (h : pg σ k x) : qw_Mt qw_tw wC my_X6_drop [.ref k] σ (fun r σ' => fr [k] σ σ' ∧ pg σ' k none ∧ r = some (.int (nI (psz x)))) := by
  have hn := h.2.2.1
  rcases hk with rfl | rfl | rfl | rfl
  all_goals
    refine mt_X6_drop rfl (ev_X6_drop [] 100 ?_)
    refine ⟨(fr.pi (by decide)).tr (fr.pi (by decide)), ⟨trivial, ?_, pi_eq, fun i hi => absurd hi (Nat.not_lt_zero i)⟩, congrArg (fun z => some (Value.int z)) hn⟩
    rw [pi_ne (q := 1) (j := 2) (by decide), pi_eq]
    rfl
theorem m_prenew {k : Nat} (hk : qr_pg k) {σ : qw_M} {f n : Nat} (hf : f < 3) (hn : n ≤ 60) : qw_Mt qw_tw wC my_X6_renew [.ref k, .int (nI f), .int (nI n)] σ (fun _ σ' => fr [k, k + 4] σ σ' ∧ pg σ' k (some (f, n, fun _ => nI 0))) := by
  rcases hk with rfl | rfl | rfl | rfl
  all_goals
    refine mt_X6_renew rfl (ev_X6_renew [17] 100 ?_)
    refine ⟨trivial, _, m_min _ _, fun z σ1 ⟨k1, k2⟩ => ?_⟩
    have k1 := k1.symm
    subst k1
    have k2 : z = nI n := by
      have k2 := Value.int.inj (Option.some.inj k2)
      rw [k2]
      by_cases q : n = 60
      · rw [if_neg (nnlt 60 n (by omega) (by omega))]
      · rw [if_neg (nnlt 60 n (by omega) (by omega))]
    subst k2
  · have loop : ∀ (m j : Nat) (y : Int32) (σ' : qw_M), j + m = 60 → y = nI j → fr [43, 43 + 4] σ σ' → (σ' 43).1 1 = nI f → (σ' 43).1 2 = nI n → (∀ i, i < j → (σ' 47).1 i = nI 0) → E_X6_renew (fun _ σ' => fr [43, 43 + 4] σ σ' ∧ pg σ' 43 (some (f, n, fun _ => nI 0))) 17 [(0, .ref 43), (1, .int (nI f)), (2, .int (nI n)), (3, .int y)] [] σ' := by
      intro m
      induction m with
      | zero =>
        intro j y σ' hj hy a1 a2 a3 a4
        subst hy
        have : j = 60 := by omega
        subst this
        refine ev_X6_renew [17] 100 ?_
        refine vt (Int32.le_refl _) ?_
        exact ⟨a1, ⟨hf, hn⟩, a2, a3, fun i hi => a4 i (by have hi : i < n := hi; omega)⟩
      | succ m ih =>
        intro j y σ' hj hy a1 a2 a3 a4
        subst hy
        refine ev_X6_renew [17] 100 ?_
        refine vf (nnle 60 j (by omega) (by omega)) ?_
        refine And.intro (nin j 60 (by omega) (by omega)) ?_
        rw [nI_clamp (n := j) (by omega)]
        refine ih (j + 1) _ _ (by omega) (nI_add j 1) (a1.tr (fr.pi (by decide))) ?_ ?_ (fun i hi => ?_)
        · rw [pi_off (by decide)]; exact a2
        · rw [pi_off (by decide)]; exact a3
        · rw [pi_at]
          by_cases q : i = j
          · rw [if_pos q]
          · rw [if_neg q]; exact a4 i (by omega)
    refine loop 60 0 _ _ rfl rfl ((fr.pi (by decide)).tr (fr.pi (by decide))) ?_ pi_eq (fun i hi => absurd hi (Nat.not_lt_zero i))
    rw [pi_ne (q := 1) (j := 2) (by decide), pi_eq]
  · have loop : ∀ (m j : Nat) (y : Int32) (σ' : qw_M), j + m = 60 → y = nI j → fr [44, 44 + 4] σ σ' → (σ' 44).1 1 = nI f → (σ' 44).1 2 = nI n → (∀ i, i < j → (σ' 48).1 i = nI 0) → E_X6_renew (fun _ σ' => fr [44, 44 + 4] σ σ' ∧ pg σ' 44 (some (f, n, fun _ => nI 0))) 17 [(0, .ref 44), (1, .int (nI f)), (2, .int (nI n)), (3, .int y)] [] σ' := by
      intro m
      induction m with
      | zero =>
        intro j y σ' hj hy a1 a2 a3 a4
        subst hy
        have : j = 60 := by omega
        subst this
        refine ev_X6_renew [17] 100 ?_
        refine vt (Int32.le_refl _) ?_
        exact ⟨a1, ⟨hf, hn⟩, a2, a3, fun i hi => a4 i (by have hi : i < n := hi; omega)⟩
      | succ m ih =>
        intro j y σ' hj hy a1 a2 a3 a4
        subst hy
        refine ev_X6_renew [17] 100 ?_
        refine vf (nnle 60 j (by omega) (by omega)) ?_
        refine And.intro (nin j 60 (by omega) (by omega)) ?_
        rw [nI_clamp (n := j) (by omega)]
        refine ih (j + 1) _ _ (by omega) (nI_add j 1) (a1.tr (fr.pi (by decide))) ?_ ?_ (fun i hi => ?_)
        · rw [pi_off (by decide)]; exact a2
        · rw [pi_off (by decide)]; exact a3
        · rw [pi_at]
          by_cases q : i = j
          · rw [if_pos q]
          · rw [if_neg q]; exact a4 i (by omega)
    refine loop 60 0 _ _ rfl rfl ((fr.pi (by decide)).tr (fr.pi (by decide))) ?_ pi_eq (fun i hi => absurd hi (Nat.not_lt_zero i))
    rw [pi_ne (q := 1) (j := 2) (by decide), pi_eq]
  · have loop : ∀ (m j : Nat) (y : Int32) (σ' : qw_M), j + m = 60 → y = nI j → fr [45, 45 + 4] σ σ' → (σ' 45).1 1 = nI f → (σ' 45).1 2 = nI n → (∀ i, i < j → (σ' 49).1 i = nI 0) → E_X6_renew (fun _ σ' => fr [45, 45 + 4] σ σ' ∧ pg σ' 45 (some (f, n, fun _ => nI 0))) 17 [(0, .ref 45), (1, .int (nI f)), (2, .int (nI n)), (3, .int y)] [] σ' := by
      intro m
      induction m with
      | zero =>
        intro j y σ' hj hy a1 a2 a3 a4
        subst hy
        have : j = 60 := by omega
        subst this
        refine ev_X6_renew [17] 100 ?_
        refine vt (Int32.le_refl _) ?_
        exact ⟨a1, ⟨hf, hn⟩, a2, a3, fun i hi => a4 i (by have hi : i < n := hi; omega)⟩
      | succ m ih =>
        intro j y σ' hj hy a1 a2 a3 a4
        subst hy
        refine ev_X6_renew [17] 100 ?_
        refine vf (nnle 60 j (by omega) (by omega)) ?_
        refine And.intro (nin j 60 (by omega) (by omega)) ?_
        rw [nI_clamp (n := j) (by omega)]
        refine ih (j + 1) _ _ (by omega) (nI_add j 1) (a1.tr (fr.pi (by decide))) ?_ ?_ (fun i hi => ?_)
        · rw [pi_off (by decide)]; exact a2
        · rw [pi_off (by decide)]; exact a3
        · rw [pi_at]
          by_cases q : i = j
          · rw [if_pos q]
          · rw [if_neg q]; exact a4 i (by omega)
    refine loop 60 0 _ _ rfl rfl ((fr.pi (by decide)).tr (fr.pi (by decide))) ?_ pi_eq (fun i hi => absurd hi (Nat.not_lt_zero i))
    rw [pi_ne (q := 1) (j := 2) (by decide), pi_eq]
  · have loop : ∀ (m j : Nat) (y : Int32) (σ' : qw_M), j + m = 60 → y = nI j → fr [46, 46 + 4] σ σ' → (σ' 46).1 1 = nI f → (σ' 46).1 2 = nI n → (∀ i, i < j → (σ' 50).1 i = nI 0) → E_X6_renew (fun _ σ' => fr [46, 46 + 4] σ σ' ∧ pg σ' 46 (some (f, n, fun _ => nI 0))) 17 [(0, .ref 46), (1, .int (nI f)), (2, .int (nI n)), (3, .int y)] [] σ' := by
      intro m
      induction m with
      | zero =>
        intro j y σ' hj hy a1 a2 a3 a4
        subst hy
        have : j = 60 := by omega
        subst this
        refine ev_X6_renew [17] 100 ?_
        refine vt (Int32.le_refl _) ?_
        exact ⟨a1, ⟨hf, hn⟩, a2, a3, fun i hi => a4 i (by have hi : i < n := hi; omega)⟩
      | succ m ih =>
        intro j y σ' hj hy a1 a2 a3 a4
        subst hy
        refine ev_X6_renew [17] 100 ?_
        refine vf (nnle 60 j (by omega) (by omega)) ?_
        refine And.intro (nin j 60 (by omega) (by omega)) ?_
        rw [nI_clamp (n := j) (by omega)]
        refine ih (j + 1) _ _ (by omega) (nI_add j 1) (a1.tr (fr.pi (by decide))) ?_ ?_ (fun i hi => ?_)
        · rw [pi_off (by decide)]; exact a2
        · rw [pi_off (by decide)]; exact a3
        · rw [pi_at]
          by_cases q : i = j
          · rw [if_pos q]
          · rw [if_neg q]; exact a4 i (by omega)
    refine loop 60 0 _ _ rfl rfl ((fr.pi (by decide)).tr (fr.pi (by decide))) ?_ pi_eq (fun i hi => absurd hi (Nat.not_lt_zero i))
    rw [pi_ne (q := 1) (j := 2) (by decide), pi_eq]
theorem m_hasRun {k : Nat} (hk : qr_pg k) {σ : qw_M} {x : PG} (h : pg σ k x) (i n : Int32) : qw_Mt qw_tw wC my_X6_hasRun [.ref k, .int i, .int n] σ (fun r σ' => σ' = σ ∧ ((∃ a b, i = nI a ∧ n = nI b ∧ a + b ≤ psz x ∧ r = some (.int (nI 1))) ∨ ((∀ a b, i = nI a → n = nI b → a + b ≤ psz x → False) ∧ r = some (.int (nI 0))))) := by
  have hN := psz_le h.1
  have hn := h.2.2.1
  rcases hk with rfl | rfl | rfl | rfl
  all_goals
    refine mt_X6_hasRun rfl (ev_X6_hasRun [] 100 ?_)
    refine vb (fun a => ?_) (fun a => ?_)
    · exact ⟨Or.inl rfl, rfl, Or.inr ⟨fun p q e1 e2 e3 => by subst e1; exact nI_pos (by omega) a, rfl⟩⟩
    · refine vb (fun b => ?_) (fun b => ?_)
      · exact ⟨Or.inl rfl, rfl, Or.inr ⟨fun p q e1 e2 e3 => by subst e2; exact nI_pos (by omega) b, rfl⟩⟩
      · obtain ⟨p, hp, rfl⟩ := nI_of a
        obtain ⟨q, hq, rfl⟩ := nI_of b
        refine vb (fun c => ?_) (fun c => ?_)
        · rw [hn] at c
          refine ⟨Or.inl rfl, rfl, Or.inr ⟨fun p2 q2 e1 e2 e3 => ?_, rfl⟩⟩
          have e1 := nI_i (a := p) (b := p2) hp (by omega) e1
          subst e1
          exact nnlt (psz x) p (by omega) (by omega) c
        · rw [hn] at c
          have hpn : p ≤ psz x := by
            rcases Nat.lt_or_ge (psz x) p with z | z
            · exact absurd (nlt _ _ z hp) c
            · exact z
          have e : nI (psz x) - nI p = nI (psz x - p) := pk_sub hpn
          refine vb (fun d => ?_) (fun d => ?_)
          · rw [hn, e] at d
            refine ⟨Or.inl rfl, rfl, Or.inr ⟨fun p2 q2 e1 e2 e3 => ?_, rfl⟩⟩
            have e1 := nI_i (a := p) (b := p2) hp (by omega) e1
            have e2 := nI_i (a := q) (b := q2) hq (by omega) e2
            subst e1
            subst e2
            exact nnlt (psz x - p) q (by omega) (by omega) d
          · rw [hn, e] at d
            have hqn : q ≤ psz x - p := by
              rcases Nat.lt_or_ge (psz x - p) q with z | z
              · exact absurd (nlt _ _ z hq) d
              · exact z
            exact ⟨Or.inr rfl, rfl, Or.inl ⟨p, q, rfl, rfl, by omega, rfl⟩⟩
