/-! copy -/
def hrun (i n : Int32) (z : Nat) : Bool := match nn i 61 with
  | none => false
  | some a => match nn n 61 with
    | none => false
    | some m => decide (a + m ≤ z)
theorem m_hrun {k : Nat} (hk : qr_pg k) {σ : qw_M} {x : PG} (h : pg σ k x) (i n : Int32) : qw_Mt qw_tw wC my_X6_hasRun [.ref k, .int i, .int n] σ (fun r σ' => σ' = σ ∧ r = some (.int (nI (hrun i n (psz x)).toNat))) := by
  have hN := psz_le h.1
  refine mt_mono (m_hasRun hk h i n) (fun r σ' ⟨h1, h2⟩ => ⟨h1, ?_⟩)
  rcases h2 with ⟨a, m, e1, e2, e3, h2⟩ | ⟨h2, h3⟩
  · rw [h2]
    unfold hrun
    rw [e1, e2, nn_nI (by omega) (by decide), nn_nI (by omega) (by decide)]
    dsimp only
    rw [decide_eq_true e3]
    rfl
  · rw [h3]
    have : hrun i n (psz x) = false := by
      unfold hrun
      cases hi : nn i 61 with
      | none => rfl
      | some a =>
        cases hm : nn n 61 with
        | none => rfl
        | some m =>
          dsimp only
          exact decide_eq_false (fun z => h2 a m (nn_some (by decide) hi).2 (nn_some (by decide) hm).2 z)
    rw [this]
    rfl
theorem hrun_t {i n : Int32} {z : Nat} (h : hrun i n z = true) : ∃ a m, i = nI a ∧ n = nI m ∧ a ≤ 60 ∧ m ≤ 60 ∧ a + m ≤ z := by
  unfold hrun at h
  cases hi : nn i 61 with
  | none => rw [hi] at h; cases h
  | some a =>
    rw [hi] at h
    cases hm : nn n 61 with
    | none => rw [hm] at h; cases h
    | some m =>
      rw [hm] at h
      have h := of_decide_eq_true h
      obtain ⟨h1, h2⟩ := nn_some (by decide) hi
      obtain ⟨h3, h4⟩ := nn_some (by decide) hm
      exact ⟨a, m, h2, h4, by omega, by omega, h⟩
theorem fr_pc {l : List Nat} {σ : qw_M} {k : Nat} {f : Nat → Int32} {a b n : Nat} (hk : k ∈ l) : fr l σ (qw_pc σ k f a b n) := fun q hq => by
  unfold qw_pc qw_up
  have : q ≠ k := fun z => hq (z ▸ hk)
  simp [this]
theorem pc_at {σ : qw_M} {k : Nat} {f : Nat → Int32} {a b n q : Nat} : (qw_pc σ k f a b n k).1 q = va_cpy f (σ k).1 a b n q := by
  unfold qw_pc qw_up
  simp
def cpyP (z z2 : Nat × Nat × (Nat → Int32)) (a b m : Nat) : PG := some (z2.1, z2.2.1, va_cpy z.2.2 z2.2.2 a b m)
theorem pg_cpy {σ : qw_M} {k k2 : Nat} {z z2 : Nat × Nat × (Nat → Int32)} (h : pg σ k (some z)) (h2 : pg σ k2 (some z2)) {a b m : Nat} (ha : a + m ≤ z.2.1) (hk : k2 ≠ k2 + 4) : pg (qw_pc σ (k2 + 4) (σ (k + 4)).1 a b m) k2 (cpyP z z2 a b m) := by
  obtain ⟨-, -, -, h4⟩ := h
  obtain ⟨g1, g2, g3, g4⟩ := h2
  have hoff : qw_pc σ (k2 + 4) (σ (k + 4)).1 a b m k2 = σ k2 := (fr_pc (l := [k2 + 4]) (by simp)) k2 (by simp)
  refine ⟨g1, by rw [hoff]; exact g2, by rw [hoff]; exact g3, fun i hi => ?_⟩
  rw [pc_at]
  show va_cpy _ _ a b m i = va_cpy z.2.2 z2.2.2 a b m i
  unfold va_cpy
  by_cases e : b ≤ i ∧ i < b + m
  · rw [if_pos e, if_pos e]
    exact h4 (a + (i - b)) (by show _ < z.2.1; omega)
  · rw [if_neg e, if_neg e]
    exact g4 i hi
def do_copy (A : AS) (x i y j n : Int32) : Int32 × AS := match nn x 4 with
  | none => (bad, A)
  | some s => match nn y 4 with
    | none => (bad, A)
    | some t => match aG A s with
      | none => (fnd 1, sfd A 1)
      | some z => match aG A t with
        | none => (fnd 1, sfd A 1)
        | some z2 => if z.1 = z2.1 then (if hrun i n z.2.1 = true ∧ hrun j n z2.2.1 = true then (nI 1, spg A t (cpyP z z2 i.toNatClampNeg j.toNatClampNeg n.toNatClampNeg)) else (fnd 2, sfd A 2)) else (fnd 4, sfd A 4)
theorem copy_00 {σ : qw_M} {A : AS} (h : KC σ A) (i j n : Int32) : E_X11_copy (post (do_copy A (nI 0) i (nI 0) j n)) 27 [(0, .ref 0), (1, .int (nI 0)), (2, .int i), (3, .int (nI 0)), (4, .int j), (5, .int n), (6, .ref 43), (7, .ref 43)] [] σ := by
  have bs : 0 < 4 := by decide
  have bt_ : 0 < 4 := by decide
  have hp := h.2.2.2.2.1 0 bs
  have hp2 := h.2.2.2.2.1 0 bt_
  unfold do_copy
  rw [show nn (nI 0) 4 = some 0 from by decide]
  dsimp only
  refine ev_X11_copy [43, 49, 68, 91, 97] 100 ?_
  refine ⟨trivial, _, m_isLost (Or.inl rfl) hp, fun z σ1 _ ⟨k1, k2⟩ => ?_⟩
  have k1 := k1.symm
  subst k1
  cases k2
  cases hg : aG A 0 with
  | none =>
    refine vnt n10 ?_
    refine ev_X11_copy [] 100 ?_
    refine ⟨trivial, _, m_find (d := 1), fun z σ1 ⟨k1, k2⟩ => ?_⟩
    cases k2
    rw [k1]
    exact ⟨KC_fd h (by decide), rfl⟩
  | some y1 =>
    refine vnf rfl ?_
    rw [hg] at hp
    refine ⟨trivial, _, m_isLost (Or.inl rfl) hp2, fun z σ1 _ ⟨k1, k2⟩ => ?_⟩
    have k1 := k1.symm
    subst k1
    cases k2
    cases hg2 : aG A 0 with
    | none =>
      have q := hg.symm.trans hg2
      cases q
    | some y2 =>
      have q := hg.symm.trans hg2
      cases q
      refine vt rfl ?_
      rw [hg] at hp2
      dsimp only
      refine ev_X11_copy [68, 91, 97] 100 ?_
      have q1 : (σ 43).1 1 = nI y1.1 := hp.2.1
      have q2 : (σ 43).1 1 = nI y1.1 := hp2.2.1
      have q3 : y1.1 < 3 ∧ y1.2.1 ≤ 60 := hp.1
      have q4 : y1.1 < 3 ∧ y1.2.1 ≤ 60 := hp2.1
      by_cases e : y1.1 = y1.1
      · rw [if_pos e]
        refine vt (q1.trans (by rw [e]; exact q2.symm)) ?_
        refine ev_X11_copy [91, 97] 100 ?_
        refine ⟨trivial, _, m_hrun (Or.inl rfl) hp i n, fun z σ1 _ ⟨k1, k2⟩ => ?_⟩
        have k1 := k1.symm
        subst k1
        cases k2
        cases r1 : hrun i n y1.2.1 with
        | false =>
          refine vt (by show nI (hrun i n y1.2.1).toNat = 0; rw [r1]; rfl) ?_
          rw [if_neg (by simp)]
          refine ev_X11_copy [] 100 ?_
          refine ⟨trivial, _, m_find (d := 2), fun z σ1 ⟨k1, k2⟩ => ?_⟩
          cases k2
          rw [k1]
          exact ⟨KC_fd h (by decide), rfl⟩
        | true =>
          refine vf (by show ¬ nI (hrun i n y1.2.1).toNat = 0; rw [r1]; exact n10) ?_
          refine ⟨trivial, _, m_hrun (Or.inl rfl) hp2 j n, fun z σ1 _ ⟨k1, k2⟩ => ?_⟩
          have k1 := k1.symm
          subst k1
          cases k2
          cases r2 : hrun j n y1.2.1 with
          | false =>
            refine vnf (by show nI (hrun j n y1.2.1).toNat = 0; rw [r2]; rfl) ?_
            rw [if_neg (by simp)]
            refine ev_X11_copy [] 100 ?_
            refine ⟨trivial, _, m_find (d := 2), fun z σ1 ⟨k1, k2⟩ => ?_⟩
            cases k2
            rw [k1]
            exact ⟨KC_fd h (by decide), rfl⟩
          | true =>
            refine vnt (by show ¬ nI (hrun j n y1.2.1).toNat = 0; rw [r2]; exact n10) ?_
            rw [if_pos ⟨rfl, rfl⟩]
            obtain ⟨a, m, ea, em, a60, m60, am⟩ := hrun_t r1
            obtain ⟨b, m', eb, em', b60, m60', bm⟩ := hrun_t r2
            have : m = m' := nI_i (by omega) (by omega) (em.symm.trans em')
            subst this
            subst ea
            subst em
            subst eb
            refine ev_X11_copy [] 100 ?_
            refine And.intro ⟨nnlt a 0 (Nat.zero_le _) (by omega), nnlt b 0 (Nat.zero_le _) (by omega), nnlt m 0 (Nat.zero_le _) (by omega), ?_, ?_⟩ (And.intro (by decide) ?_)
            · rw [nI_clamp (n := a) (by omega), nI_clamp (n := m) (by omega)]
              show a + m ≤ 60
              omega
            · rw [nI_clamp (n := b) (by omega), nI_clamp (n := m) (by omega)]
              show b + m ≤ 60
              omega
            · rw [nI_clamp (n := a) (by omega), nI_clamp (n := m) (by omega), nI_clamp (n := b) (by omega)]
              exact ⟨KC_pg h bt_ (fr_pc (by simp)) (pg_cpy hp hp2 am (by decide)), rfl⟩
      · rw [if_neg e]
        refine vf (fun z => e (nI_i (by omega) (by omega) (q1.symm.trans (z.trans q2)))) ?_
        refine ⟨trivial, _, m_find (d := 4), fun z σ1 ⟨k1, k2⟩ => ?_⟩
        cases k2
        rw [k1]
        exact ⟨KC_fd h (by decide), rfl⟩
theorem copy_01 {σ : qw_M} {A : AS} (h : KC σ A) (i j n : Int32) : E_X11_copy (post (do_copy A (nI 0) i (nI 1) j n)) 27 [(0, .ref 0), (1, .int (nI 0)), (2, .int i), (3, .int (nI 1)), (4, .int j), (5, .int n), (6, .ref 43), (7, .ref 44)] [] σ := by
  have bs : 0 < 4 := by decide
  have bt_ : 1 < 4 := by decide
  have hp := h.2.2.2.2.1 0 bs
  have hp2 := h.2.2.2.2.1 1 bt_
  unfold do_copy
  rw [show nn (nI 0) 4 = some 0 from by decide, show nn (nI 1) 4 = some 1 from by decide]
  dsimp only
  refine ev_X11_copy [43, 49, 68, 91, 97] 100 ?_
  refine ⟨trivial, _, m_isLost (Or.inl rfl) hp, fun z σ1 _ ⟨k1, k2⟩ => ?_⟩
  have k1 := k1.symm
  subst k1
  cases k2
  cases hg : aG A 0 with
  | none =>
    refine vnt n10 ?_
    refine ev_X11_copy [] 100 ?_
    refine ⟨trivial, _, m_find (d := 1), fun z σ1 ⟨k1, k2⟩ => ?_⟩
    cases k2
    rw [k1]
    exact ⟨KC_fd h (by decide), rfl⟩
  | some y1 =>
    refine vnf rfl ?_
    rw [hg] at hp
    refine ⟨trivial, _, m_isLost (Or.inr (Or.inl rfl)) hp2, fun z σ1 _ ⟨k1, k2⟩ => ?_⟩
    have k1 := k1.symm
    subst k1
    cases k2
    cases hg2 : aG A 1 with
    | none =>
      refine vf n10 ?_
      refine ev_X11_copy [] 100 ?_
      refine ⟨trivial, _, m_find (d := 1), fun z σ1 ⟨k1, k2⟩ => ?_⟩
      cases k2
      rw [k1]
      exact ⟨KC_fd h (by decide), rfl⟩
    | some y2 =>
      refine vt rfl ?_
      rw [hg2] at hp2
      dsimp only
      refine ev_X11_copy [68, 91, 97] 100 ?_
      have q1 : (σ 43).1 1 = nI y1.1 := hp.2.1
      have q2 : (σ 44).1 1 = nI y2.1 := hp2.2.1
      have q3 : y1.1 < 3 ∧ y1.2.1 ≤ 60 := hp.1
      have q4 : y2.1 < 3 ∧ y2.2.1 ≤ 60 := hp2.1
      by_cases e : y1.1 = y2.1
      · rw [if_pos e]
        refine vt (q1.trans (by rw [e]; exact q2.symm)) ?_
        refine ev_X11_copy [91, 97] 100 ?_
        refine ⟨trivial, _, m_hrun (Or.inl rfl) hp i n, fun z σ1 _ ⟨k1, k2⟩ => ?_⟩
        have k1 := k1.symm
        subst k1
        cases k2
        cases r1 : hrun i n y1.2.1 with
        | false =>
          refine vt (by show nI (hrun i n y1.2.1).toNat = 0; rw [r1]; rfl) ?_
          rw [if_neg (by simp)]
          refine ev_X11_copy [] 100 ?_
          refine ⟨trivial, _, m_find (d := 2), fun z σ1 ⟨k1, k2⟩ => ?_⟩
          cases k2
          rw [k1]
          exact ⟨KC_fd h (by decide), rfl⟩
        | true =>
          refine vf (by show ¬ nI (hrun i n y1.2.1).toNat = 0; rw [r1]; exact n10) ?_
          refine ⟨trivial, _, m_hrun (Or.inr (Or.inl rfl)) hp2 j n, fun z σ1 _ ⟨k1, k2⟩ => ?_⟩
          have k1 := k1.symm
          subst k1
          cases k2
          cases r2 : hrun j n y2.2.1 with
          | false =>
            refine vnf (by show nI (hrun j n y2.2.1).toNat = 0; rw [r2]; rfl) ?_
            rw [if_neg (by simp)]
            refine ev_X11_copy [] 100 ?_
            refine ⟨trivial, _, m_find (d := 2), fun z σ1 ⟨k1, k2⟩ => ?_⟩
            cases k2
            rw [k1]
            exact ⟨KC_fd h (by decide), rfl⟩
          | true =>
            refine vnt (by show ¬ nI (hrun j n y2.2.1).toNat = 0; rw [r2]; exact n10) ?_
            rw [if_pos ⟨rfl, rfl⟩]
            obtain ⟨a, m, ea, em, a60, m60, am⟩ := hrun_t r1
            obtain ⟨b, m', eb, em', b60, m60', bm⟩ := hrun_t r2
            have : m = m' := nI_i (by omega) (by omega) (em.symm.trans em')
            subst this
            subst ea
            subst em
            subst eb
            refine ev_X11_copy [] 100 ?_
            refine And.intro ⟨nnlt a 0 (Nat.zero_le _) (by omega), nnlt b 0 (Nat.zero_le _) (by omega), nnlt m 0 (Nat.zero_le _) (by omega), ?_, ?_⟩ (And.intro (by decide) ?_)
            · rw [nI_clamp (n := a) (by omega), nI_clamp (n := m) (by omega)]
              show a + m ≤ 60
              omega
            · rw [nI_clamp (n := b) (by omega), nI_clamp (n := m) (by omega)]
              show b + m ≤ 60
              omega
            · rw [nI_clamp (n := a) (by omega), nI_clamp (n := m) (by omega), nI_clamp (n := b) (by omega)]
              exact ⟨KC_pg h bt_ (fr_pc (by simp)) (pg_cpy hp hp2 am (by decide)), rfl⟩
      · rw [if_neg e]
        refine vf (fun z => e (nI_i (by omega) (by omega) (q1.symm.trans (z.trans q2)))) ?_
        refine ⟨trivial, _, m_find (d := 4), fun z σ1 ⟨k1, k2⟩ => ?_⟩
        cases k2
        rw [k1]
        exact ⟨KC_fd h (by decide), rfl⟩
theorem copy_02 {σ : qw_M} {A : AS} (h : KC σ A) (i j n : Int32) : E_X11_copy (post (do_copy A (nI 0) i (nI 2) j n)) 27 [(0, .ref 0), (1, .int (nI 0)), (2, .int i), (3, .int (nI 2)), (4, .int j), (5, .int n), (6, .ref 43), (7, .ref 45)] [] σ := by
  have bs : 0 < 4 := by decide
  have bt_ : 2 < 4 := by decide
  have hp := h.2.2.2.2.1 0 bs
  have hp2 := h.2.2.2.2.1 2 bt_
  unfold do_copy
  rw [show nn (nI 0) 4 = some 0 from by decide, show nn (nI 2) 4 = some 2 from by decide]
  dsimp only
  refine ev_X11_copy [43, 49, 68, 91, 97] 100 ?_
  refine ⟨trivial, _, m_isLost (Or.inl rfl) hp, fun z σ1 _ ⟨k1, k2⟩ => ?_⟩
  have k1 := k1.symm
  subst k1
  cases k2
  cases hg : aG A 0 with
  | none =>
    refine vnt n10 ?_
    refine ev_X11_copy [] 100 ?_
    refine ⟨trivial, _, m_find (d := 1), fun z σ1 ⟨k1, k2⟩ => ?_⟩
    cases k2
    rw [k1]
    exact ⟨KC_fd h (by decide), rfl⟩
  | some y1 =>
    refine vnf rfl ?_
    rw [hg] at hp
    refine ⟨trivial, _, m_isLost (Or.inr (Or.inr (Or.inl rfl))) hp2, fun z σ1 _ ⟨k1, k2⟩ => ?_⟩
    have k1 := k1.symm
    subst k1
    cases k2
    cases hg2 : aG A 2 with
    | none =>
      refine vf n10 ?_
      refine ev_X11_copy [] 100 ?_
      refine ⟨trivial, _, m_find (d := 1), fun z σ1 ⟨k1, k2⟩ => ?_⟩
      cases k2
      rw [k1]
      exact ⟨KC_fd h (by decide), rfl⟩
    | some y2 =>
      refine vt rfl ?_
      rw [hg2] at hp2
      dsimp only
      refine ev_X11_copy [68, 91, 97] 100 ?_
      have q1 : (σ 43).1 1 = nI y1.1 := hp.2.1
      have q2 : (σ 45).1 1 = nI y2.1 := hp2.2.1
      have q3 : y1.1 < 3 ∧ y1.2.1 ≤ 60 := hp.1
      have q4 : y2.1 < 3 ∧ y2.2.1 ≤ 60 := hp2.1
      by_cases e : y1.1 = y2.1
      · rw [if_pos e]
        refine vt (q1.trans (by rw [e]; exact q2.symm)) ?_
        refine ev_X11_copy [91, 97] 100 ?_
        refine ⟨trivial, _, m_hrun (Or.inl rfl) hp i n, fun z σ1 _ ⟨k1, k2⟩ => ?_⟩
        have k1 := k1.symm
        subst k1
        cases k2
        cases r1 : hrun i n y1.2.1 with
        | false =>
          refine vt (by show nI (hrun i n y1.2.1).toNat = 0; rw [r1]; rfl) ?_
          rw [if_neg (by simp)]
          refine ev_X11_copy [] 100 ?_
          refine ⟨trivial, _, m_find (d := 2), fun z σ1 ⟨k1, k2⟩ => ?_⟩
          cases k2
          rw [k1]
          exact ⟨KC_fd h (by decide), rfl⟩
        | true =>
          refine vf (by show ¬ nI (hrun i n y1.2.1).toNat = 0; rw [r1]; exact n10) ?_
          refine ⟨trivial, _, m_hrun (Or.inr (Or.inr (Or.inl rfl))) hp2 j n, fun z σ1 _ ⟨k1, k2⟩ => ?_⟩
          have k1 := k1.symm
          subst k1
          cases k2
          cases r2 : hrun j n y2.2.1 with
          | false =>
            refine vnf (by show nI (hrun j n y2.2.1).toNat = 0; rw [r2]; rfl) ?_
            rw [if_neg (by simp)]
            refine ev_X11_copy [] 100 ?_
            refine ⟨trivial, _, m_find (d := 2), fun z σ1 ⟨k1, k2⟩ => ?_⟩
            cases k2
            rw [k1]
            exact ⟨KC_fd h (by decide), rfl⟩
          | true =>
            refine vnt (by show ¬ nI (hrun j n y2.2.1).toNat = 0; rw [r2]; exact n10) ?_
            rw [if_pos ⟨rfl, rfl⟩]
            obtain ⟨a, m, ea, em, a60, m60, am⟩ := hrun_t r1
            obtain ⟨b, m', eb, em', b60, m60', bm⟩ := hrun_t r2
            have : m = m' := nI_i (by omega) (by omega) (em.symm.trans em')
            subst this
            subst ea
            subst em
            subst eb
            refine ev_X11_copy [] 100 ?_
            refine And.intro ⟨nnlt a 0 (Nat.zero_le _) (by omega), nnlt b 0 (Nat.zero_le _) (by omega), nnlt m 0 (Nat.zero_le _) (by omega), ?_, ?_⟩ (And.intro (by decide) ?_)
            · rw [nI_clamp (n := a) (by omega), nI_clamp (n := m) (by omega)]
              show a + m ≤ 60
              omega
            · rw [nI_clamp (n := b) (by omega), nI_clamp (n := m) (by omega)]
              show b + m ≤ 60
              omega
            · rw [nI_clamp (n := a) (by omega), nI_clamp (n := m) (by omega), nI_clamp (n := b) (by omega)]
              exact ⟨KC_pg h bt_ (fr_pc (by simp)) (pg_cpy hp hp2 am (by decide)), rfl⟩
      · rw [if_neg e]
        refine vf (fun z => e (nI_i (by omega) (by omega) (q1.symm.trans (z.trans q2)))) ?_
        refine ⟨trivial, _, m_find (d := 4), fun z σ1 ⟨k1, k2⟩ => ?_⟩
        cases k2
        rw [k1]
        exact ⟨KC_fd h (by decide), rfl⟩
theorem copy_03 {σ : qw_M} {A : AS} (h : KC σ A) (i j n : Int32) : E_X11_copy (post (do_copy A (nI 0) i (nI 3) j n)) 27 [(0, .ref 0), (1, .int (nI 0)), (2, .int i), (3, .int (nI 3)), (4, .int j), (5, .int n), (6, .ref 43), (7, .ref 46)] [] σ := by
  have bs : 0 < 4 := by decide
  have bt_ : 3 < 4 := by decide
  have hp := h.2.2.2.2.1 0 bs
  have hp2 := h.2.2.2.2.1 3 bt_
  unfold do_copy
  rw [show nn (nI 0) 4 = some 0 from by decide, show nn (nI 3) 4 = some 3 from by decide]
  dsimp only
  refine ev_X11_copy [43, 49, 68, 91, 97] 100 ?_
  refine ⟨trivial, _, m_isLost (Or.inl rfl) hp, fun z σ1 _ ⟨k1, k2⟩ => ?_⟩
  have k1 := k1.symm
  subst k1
  cases k2
  cases hg : aG A 0 with
  | none =>
    refine vnt n10 ?_
    refine ev_X11_copy [] 100 ?_
    refine ⟨trivial, _, m_find (d := 1), fun z σ1 ⟨k1, k2⟩ => ?_⟩
    cases k2
    rw [k1]
    exact ⟨KC_fd h (by decide), rfl⟩
  | some y1 =>
    refine vnf rfl ?_
    rw [hg] at hp
    refine ⟨trivial, _, m_isLost (Or.inr (Or.inr (Or.inr rfl))) hp2, fun z σ1 _ ⟨k1, k2⟩ => ?_⟩
    have k1 := k1.symm
    subst k1
    cases k2
    cases hg2 : aG A 3 with
    | none =>
      refine vf n10 ?_
      refine ev_X11_copy [] 100 ?_
      refine ⟨trivial, _, m_find (d := 1), fun z σ1 ⟨k1, k2⟩ => ?_⟩
      cases k2
      rw [k1]
      exact ⟨KC_fd h (by decide), rfl⟩
    | some y2 =>
      refine vt rfl ?_
      rw [hg2] at hp2
      dsimp only
      refine ev_X11_copy [68, 91, 97] 100 ?_
      have q1 : (σ 43).1 1 = nI y1.1 := hp.2.1
      have q2 : (σ 46).1 1 = nI y2.1 := hp2.2.1
      have q3 : y1.1 < 3 ∧ y1.2.1 ≤ 60 := hp.1
      have q4 : y2.1 < 3 ∧ y2.2.1 ≤ 60 := hp2.1
      by_cases e : y1.1 = y2.1
      · rw [if_pos e]
        refine vt (q1.trans (by rw [e]; exact q2.symm)) ?_
        refine ev_X11_copy [91, 97] 100 ?_
        refine ⟨trivial, _, m_hrun (Or.inl rfl) hp i n, fun z σ1 _ ⟨k1, k2⟩ => ?_⟩
        have k1 := k1.symm
        subst k1
        cases k2
        cases r1 : hrun i n y1.2.1 with
        | false =>
          refine vt (by show nI (hrun i n y1.2.1).toNat = 0; rw [r1]; rfl) ?_
          rw [if_neg (by simp)]
          refine ev_X11_copy [] 100 ?_
          refine ⟨trivial, _, m_find (d := 2), fun z σ1 ⟨k1, k2⟩ => ?_⟩
          cases k2
          rw [k1]
          exact ⟨KC_fd h (by decide), rfl⟩
        | true =>
          refine vf (by show ¬ nI (hrun i n y1.2.1).toNat = 0; rw [r1]; exact n10) ?_
          refine ⟨trivial, _, m_hrun (Or.inr (Or.inr (Or.inr rfl))) hp2 j n, fun z σ1 _ ⟨k1, k2⟩ => ?_⟩
          have k1 := k1.symm
          subst k1
          cases k2
          cases r2 : hrun j n y2.2.1 with
          | false =>
            refine vnf (by show nI (hrun j n y2.2.1).toNat = 0; rw [r2]; rfl) ?_
            rw [if_neg (by simp)]
            refine ev_X11_copy [] 100 ?_
            refine ⟨trivial, _, m_find (d := 2), fun z σ1 ⟨k1, k2⟩ => ?_⟩
            cases k2
            rw [k1]
            exact ⟨KC_fd h (by decide), rfl⟩
          | true =>
            refine vnt (by show ¬ nI (hrun j n y2.2.1).toNat = 0; rw [r2]; exact n10) ?_
            rw [if_pos ⟨rfl, rfl⟩]
            obtain ⟨a, m, ea, em, a60, m60, am⟩ := hrun_t r1
            obtain ⟨b, m', eb, em', b60, m60', bm⟩ := hrun_t r2
            have : m = m' := nI_i (by omega) (by omega) (em.symm.trans em')
            subst this
            subst ea
            subst em
            subst eb
            refine ev_X11_copy [] 100 ?_
            refine And.intro ⟨nnlt a 0 (Nat.zero_le _) (by omega), nnlt b 0 (Nat.zero_le _) (by omega), nnlt m 0 (Nat.zero_le _) (by omega), ?_, ?_⟩ (And.intro (by decide) ?_)
            · rw [nI_clamp (n := a) (by omega), nI_clamp (n := m) (by omega)]
              show a + m ≤ 60
              omega
            · rw [nI_clamp (n := b) (by omega), nI_clamp (n := m) (by omega)]
              show b + m ≤ 60
              omega
            · rw [nI_clamp (n := a) (by omega), nI_clamp (n := m) (by omega), nI_clamp (n := b) (by omega)]
              exact ⟨KC_pg h bt_ (fr_pc (by simp)) (pg_cpy hp hp2 am (by decide)), rfl⟩
      · rw [if_neg e]
        refine vf (fun z => e (nI_i (by omega) (by omega) (q1.symm.trans (z.trans q2)))) ?_
        refine ⟨trivial, _, m_find (d := 4), fun z σ1 ⟨k1, k2⟩ => ?_⟩
        cases k2
        rw [k1]
        exact ⟨KC_fd h (by decide), rfl⟩
theorem copy_10 {σ : qw_M} {A : AS} (h : KC σ A) (i j n : Int32) : E_X11_copy (post (do_copy A (nI 1) i (nI 0) j n)) 27 [(0, .ref 0), (1, .int (nI 1)), (2, .int i), (3, .int (nI 0)), (4, .int j), (5, .int n), (6, .ref 44), (7, .ref 43)] [] σ := by
  have bs : 1 < 4 := by decide
  have bt_ : 0 < 4 := by decide
  have hp := h.2.2.2.2.1 1 bs
  have hp2 := h.2.2.2.2.1 0 bt_
  unfold do_copy
  rw [show nn (nI 1) 4 = some 1 from by decide, show nn (nI 0) 4 = some 0 from by decide]
  dsimp only
  refine ev_X11_copy [43, 49, 68, 91, 97] 100 ?_
  refine ⟨trivial, _, m_isLost (Or.inr (Or.inl rfl)) hp, fun z σ1 _ ⟨k1, k2⟩ => ?_⟩
  have k1 := k1.symm
  subst k1
  cases k2
  cases hg : aG A 1 with
  | none =>
    refine vnt n10 ?_
    refine ev_X11_copy [] 100 ?_
    refine ⟨trivial, _, m_find (d := 1), fun z σ1 ⟨k1, k2⟩ => ?_⟩
    cases k2
    rw [k1]
    exact ⟨KC_fd h (by decide), rfl⟩
  | some y1 =>
    refine vnf rfl ?_
    rw [hg] at hp
    refine ⟨trivial, _, m_isLost (Or.inl rfl) hp2, fun z σ1 _ ⟨k1, k2⟩ => ?_⟩
    have k1 := k1.symm
    subst k1
    cases k2
    cases hg2 : aG A 0 with
    | none =>
      refine vf n10 ?_
      refine ev_X11_copy [] 100 ?_
      refine ⟨trivial, _, m_find (d := 1), fun z σ1 ⟨k1, k2⟩ => ?_⟩
      cases k2
      rw [k1]
      exact ⟨KC_fd h (by decide), rfl⟩
    | some y2 =>
      refine vt rfl ?_
      rw [hg2] at hp2
      dsimp only
      refine ev_X11_copy [68, 91, 97] 100 ?_
      have q1 : (σ 44).1 1 = nI y1.1 := hp.2.1
      have q2 : (σ 43).1 1 = nI y2.1 := hp2.2.1
      have q3 : y1.1 < 3 ∧ y1.2.1 ≤ 60 := hp.1
      have q4 : y2.1 < 3 ∧ y2.2.1 ≤ 60 := hp2.1
      by_cases e : y1.1 = y2.1
      · rw [if_pos e]
        refine vt (q1.trans (by rw [e]; exact q2.symm)) ?_
        refine ev_X11_copy [91, 97] 100 ?_
        refine ⟨trivial, _, m_hrun (Or.inr (Or.inl rfl)) hp i n, fun z σ1 _ ⟨k1, k2⟩ => ?_⟩
        have k1 := k1.symm
        subst k1
        cases k2
        cases r1 : hrun i n y1.2.1 with
        | false =>
          refine vt (by show nI (hrun i n y1.2.1).toNat = 0; rw [r1]; rfl) ?_
          rw [if_neg (by simp)]
          refine ev_X11_copy [] 100 ?_
          refine ⟨trivial, _, m_find (d := 2), fun z σ1 ⟨k1, k2⟩ => ?_⟩
          cases k2
          rw [k1]
          exact ⟨KC_fd h (by decide), rfl⟩
        | true =>
          refine vf (by show ¬ nI (hrun i n y1.2.1).toNat = 0; rw [r1]; exact n10) ?_
          refine ⟨trivial, _, m_hrun (Or.inl rfl) hp2 j n, fun z σ1 _ ⟨k1, k2⟩ => ?_⟩
          have k1 := k1.symm
          subst k1
          cases k2
          cases r2 : hrun j n y2.2.1 with
          | false =>
            refine vnf (by show nI (hrun j n y2.2.1).toNat = 0; rw [r2]; rfl) ?_
            rw [if_neg (by simp)]
            refine ev_X11_copy [] 100 ?_
            refine ⟨trivial, _, m_find (d := 2), fun z σ1 ⟨k1, k2⟩ => ?_⟩
            cases k2
            rw [k1]
            exact ⟨KC_fd h (by decide), rfl⟩
          | true =>
            refine vnt (by show ¬ nI (hrun j n y2.2.1).toNat = 0; rw [r2]; exact n10) ?_
            rw [if_pos ⟨rfl, rfl⟩]
            obtain ⟨a, m, ea, em, a60, m60, am⟩ := hrun_t r1
            obtain ⟨b, m', eb, em', b60, m60', bm⟩ := hrun_t r2
            have : m = m' := nI_i (by omega) (by omega) (em.symm.trans em')
            subst this
            subst ea
            subst em
            subst eb
            refine ev_X11_copy [] 100 ?_
            refine And.intro ⟨nnlt a 0 (Nat.zero_le _) (by omega), nnlt b 0 (Nat.zero_le _) (by omega), nnlt m 0 (Nat.zero_le _) (by omega), ?_, ?_⟩ (And.intro (by decide) ?_)
            · rw [nI_clamp (n := a) (by omega), nI_clamp (n := m) (by omega)]
              show a + m ≤ 60
              omega
            · rw [nI_clamp (n := b) (by omega), nI_clamp (n := m) (by omega)]
              show b + m ≤ 60
              omega
            · rw [nI_clamp (n := a) (by omega), nI_clamp (n := m) (by omega), nI_clamp (n := b) (by omega)]
              exact ⟨KC_pg h bt_ (fr_pc (by simp)) (pg_cpy hp hp2 am (by decide)), rfl⟩
      · rw [if_neg e]
        refine vf (fun z => e (nI_i (by omega) (by omega) (q1.symm.trans (z.trans q2)))) ?_
        refine ⟨trivial, _, m_find (d := 4), fun z σ1 ⟨k1, k2⟩ => ?_⟩
        cases k2
        rw [k1]
        exact ⟨KC_fd h (by decide), rfl⟩
theorem copy_11 {σ : qw_M} {A : AS} (h : KC σ A) (i j n : Int32) : E_X11_copy (post (do_copy A (nI 1) i (nI 1) j n)) 27 [(0, .ref 0), (1, .int (nI 1)), (2, .int i), (3, .int (nI 1)), (4, .int j), (5, .int n), (6, .ref 44), (7, .ref 44)] [] σ := by
  have bs : 1 < 4 := by decide
  have bt_ : 1 < 4 := by decide
  have hp := h.2.2.2.2.1 1 bs
  have hp2 := h.2.2.2.2.1 1 bt_
  unfold do_copy
  rw [show nn (nI 1) 4 = some 1 from by decide]
  dsimp only
  refine ev_X11_copy [43, 49, 68, 91, 97] 100 ?_
  refine ⟨trivial, _, m_isLost (Or.inr (Or.inl rfl)) hp, fun z σ1 _ ⟨k1, k2⟩ => ?_⟩
  have k1 := k1.symm
  subst k1
  cases k2
  cases hg : aG A 1 with
  | none =>
    refine vnt n10 ?_
    refine ev_X11_copy [] 100 ?_
    refine ⟨trivial, _, m_find (d := 1), fun z σ1 ⟨k1, k2⟩ => ?_⟩
    cases k2
    rw [k1]
    exact ⟨KC_fd h (by decide), rfl⟩
  | some y1 =>
    refine vnf rfl ?_
    rw [hg] at hp
    refine ⟨trivial, _, m_isLost (Or.inr (Or.inl rfl)) hp2, fun z σ1 _ ⟨k1, k2⟩ => ?_⟩
    have k1 := k1.symm
    subst k1
    cases k2
    cases hg2 : aG A 1 with
    | none =>
      have q := hg.symm.trans hg2
      cases q
    | some y2 =>
      have q := hg.symm.trans hg2
      cases q
      refine vt rfl ?_
      rw [hg] at hp2
      dsimp only
      refine ev_X11_copy [68, 91, 97] 100 ?_
      have q1 : (σ 44).1 1 = nI y1.1 := hp.2.1
      have q2 : (σ 44).1 1 = nI y1.1 := hp2.2.1
      have q3 : y1.1 < 3 ∧ y1.2.1 ≤ 60 := hp.1
      have q4 : y1.1 < 3 ∧ y1.2.1 ≤ 60 := hp2.1
      by_cases e : y1.1 = y1.1
      · rw [if_pos e]
        refine vt (q1.trans (by rw [e]; exact q2.symm)) ?_
        refine ev_X11_copy [91, 97] 100 ?_
        refine ⟨trivial, _, m_hrun (Or.inr (Or.inl rfl)) hp i n, fun z σ1 _ ⟨k1, k2⟩ => ?_⟩
        have k1 := k1.symm
        subst k1
        cases k2
        cases r1 : hrun i n y1.2.1 with
        | false =>
          refine vt (by show nI (hrun i n y1.2.1).toNat = 0; rw [r1]; rfl) ?_
          rw [if_neg (by simp)]
          refine ev_X11_copy [] 100 ?_
          refine ⟨trivial, _, m_find (d := 2), fun z σ1 ⟨k1, k2⟩ => ?_⟩
          cases k2
          rw [k1]
          exact ⟨KC_fd h (by decide), rfl⟩
        | true =>
          refine vf (by show ¬ nI (hrun i n y1.2.1).toNat = 0; rw [r1]; exact n10) ?_
          refine ⟨trivial, _, m_hrun (Or.inr (Or.inl rfl)) hp2 j n, fun z σ1 _ ⟨k1, k2⟩ => ?_⟩
          have k1 := k1.symm
          subst k1
          cases k2
          cases r2 : hrun j n y1.2.1 with
          | false =>
            refine vnf (by show nI (hrun j n y1.2.1).toNat = 0; rw [r2]; rfl) ?_
            rw [if_neg (by simp)]
            refine ev_X11_copy [] 100 ?_
            refine ⟨trivial, _, m_find (d := 2), fun z σ1 ⟨k1, k2⟩ => ?_⟩
            cases k2
            rw [k1]
            exact ⟨KC_fd h (by decide), rfl⟩
          | true =>
            refine vnt (by show ¬ nI (hrun j n y1.2.1).toNat = 0; rw [r2]; exact n10) ?_
            rw [if_pos ⟨rfl, rfl⟩]
            obtain ⟨a, m, ea, em, a60, m60, am⟩ := hrun_t r1
            obtain ⟨b, m', eb, em', b60, m60', bm⟩ := hrun_t r2
            have : m = m' := nI_i (by omega) (by omega) (em.symm.trans em')
            subst this
            subst ea
            subst em
            subst eb
            refine ev_X11_copy [] 100 ?_
            refine And.intro ⟨nnlt a 0 (Nat.zero_le _) (by omega), nnlt b 0 (Nat.zero_le _) (by omega), nnlt m 0 (Nat.zero_le _) (by omega), ?_, ?_⟩ (And.intro (by decide) ?_)
            · rw [nI_clamp (n := a) (by omega), nI_clamp (n := m) (by omega)]
              show a + m ≤ 60
              omega
            · rw [nI_clamp (n := b) (by omega), nI_clamp (n := m) (by omega)]
              show b + m ≤ 60
              omega
            · rw [nI_clamp (n := a) (by omega), nI_clamp (n := m) (by omega), nI_clamp (n := b) (by omega)]
              exact ⟨KC_pg h bt_ (fr_pc (by simp)) (pg_cpy hp hp2 am (by decide)), rfl⟩
      · rw [if_neg e]
        refine vf (fun z => e (nI_i (by omega) (by omega) (q1.symm.trans (z.trans q2)))) ?_
        refine ⟨trivial, _, m_find (d := 4), fun z σ1 ⟨k1, k2⟩ => ?_⟩
        cases k2
        rw [k1]
        exact ⟨KC_fd h (by decide), rfl⟩
theorem copy_12 {σ : qw_M} {A : AS} (h : KC σ A) (i j n : Int32) : E_X11_copy (post (do_copy A (nI 1) i (nI 2) j n)) 27 [(0, .ref 0), (1, .int (nI 1)), (2, .int i), (3, .int (nI 2)), (4, .int j), (5, .int n), (6, .ref 44), (7, .ref 45)] [] σ := by
  have bs : 1 < 4 := by decide
  have bt_ : 2 < 4 := by decide
  have hp := h.2.2.2.2.1 1 bs
  have hp2 := h.2.2.2.2.1 2 bt_
  unfold do_copy
  rw [show nn (nI 1) 4 = some 1 from by decide, show nn (nI 2) 4 = some 2 from by decide]
  dsimp only
  refine ev_X11_copy [43, 49, 68, 91, 97] 100 ?_
  refine ⟨trivial, _, m_isLost (Or.inr (Or.inl rfl)) hp, fun z σ1 _ ⟨k1, k2⟩ => ?_⟩
  have k1 := k1.symm
  subst k1
  cases k2
  cases hg : aG A 1 with
  | none =>
    refine vnt n10 ?_
    refine ev_X11_copy [] 100 ?_
    refine ⟨trivial, _, m_find (d := 1), fun z σ1 ⟨k1, k2⟩ => ?_⟩
    cases k2
    rw [k1]
    exact ⟨KC_fd h (by decide), rfl⟩
  | some y1 =>
    refine vnf rfl ?_
    rw [hg] at hp
    refine ⟨trivial, _, m_isLost (Or.inr (Or.inr (Or.inl rfl))) hp2, fun z σ1 _ ⟨k1, k2⟩ => ?_⟩
    have k1 := k1.symm
    subst k1
    cases k2
    cases hg2 : aG A 2 with
    | none =>
      refine vf n10 ?_
      refine ev_X11_copy [] 100 ?_
      refine ⟨trivial, _, m_find (d := 1), fun z σ1 ⟨k1, k2⟩ => ?_⟩
      cases k2
      rw [k1]
      exact ⟨KC_fd h (by decide), rfl⟩
    | some y2 =>
      refine vt rfl ?_
      rw [hg2] at hp2
      dsimp only
      refine ev_X11_copy [68, 91, 97] 100 ?_
      have q1 : (σ 44).1 1 = nI y1.1 := hp.2.1
      have q2 : (σ 45).1 1 = nI y2.1 := hp2.2.1
      have q3 : y1.1 < 3 ∧ y1.2.1 ≤ 60 := hp.1
      have q4 : y2.1 < 3 ∧ y2.2.1 ≤ 60 := hp2.1
      by_cases e : y1.1 = y2.1
      · rw [if_pos e]
        refine vt (q1.trans (by rw [e]; exact q2.symm)) ?_
        refine ev_X11_copy [91, 97] 100 ?_
        refine ⟨trivial, _, m_hrun (Or.inr (Or.inl rfl)) hp i n, fun z σ1 _ ⟨k1, k2⟩ => ?_⟩
        have k1 := k1.symm
        subst k1
        cases k2
        cases r1 : hrun i n y1.2.1 with
        | false =>
          refine vt (by show nI (hrun i n y1.2.1).toNat = 0; rw [r1]; rfl) ?_
          rw [if_neg (by simp)]
          refine ev_X11_copy [] 100 ?_
          refine ⟨trivial, _, m_find (d := 2), fun z σ1 ⟨k1, k2⟩ => ?_⟩
          cases k2
          rw [k1]
          exact ⟨KC_fd h (by decide), rfl⟩
        | true =>
          refine vf (by show ¬ nI (hrun i n y1.2.1).toNat = 0; rw [r1]; exact n10) ?_
          refine ⟨trivial, _, m_hrun (Or.inr (Or.inr (Or.inl rfl))) hp2 j n, fun z σ1 _ ⟨k1, k2⟩ => ?_⟩
          have k1 := k1.symm
          subst k1
          cases k2
          cases r2 : hrun j n y2.2.1 with
          | false =>
            refine vnf (by show nI (hrun j n y2.2.1).toNat = 0; rw [r2]; rfl) ?_
            rw [if_neg (by simp)]
            refine ev_X11_copy [] 100 ?_
            refine ⟨trivial, _, m_find (d := 2), fun z σ1 ⟨k1, k2⟩ => ?_⟩
            cases k2
            rw [k1]
            exact ⟨KC_fd h (by decide), rfl⟩
          | true =>
            refine vnt (by show ¬ nI (hrun j n y2.2.1).toNat = 0; rw [r2]; exact n10) ?_
            rw [if_pos ⟨rfl, rfl⟩]
            obtain ⟨a, m, ea, em, a60, m60, am⟩ := hrun_t r1
            obtain ⟨b, m', eb, em', b60, m60', bm⟩ := hrun_t r2
            have : m = m' := nI_i (by omega) (by omega) (em.symm.trans em')
            subst this
            subst ea
            subst em
            subst eb
            refine ev_X11_copy [] 100 ?_
            refine And.intro ⟨nnlt a 0 (Nat.zero_le _) (by omega), nnlt b 0 (Nat.zero_le _) (by omega), nnlt m 0 (Nat.zero_le _) (by omega), ?_, ?_⟩ (And.intro (by decide) ?_)
            · rw [nI_clamp (n := a) (by omega), nI_clamp (n := m) (by omega)]
              show a + m ≤ 60
              omega
            · rw [nI_clamp (n := b) (by omega), nI_clamp (n := m) (by omega)]
              show b + m ≤ 60
              omega
            · rw [nI_clamp (n := a) (by omega), nI_clamp (n := m) (by omega), nI_clamp (n := b) (by omega)]
              exact ⟨KC_pg h bt_ (fr_pc (by simp)) (pg_cpy hp hp2 am (by decide)), rfl⟩
      · rw [if_neg e]
        refine vf (fun z => e (nI_i (by omega) (by omega) (q1.symm.trans (z.trans q2)))) ?_
        refine ⟨trivial, _, m_find (d := 4), fun z σ1 ⟨k1, k2⟩ => ?_⟩
        cases k2
        rw [k1]
        exact ⟨KC_fd h (by decide), rfl⟩
theorem copy_13 {σ : qw_M} {A : AS} (h : KC σ A) (i j n : Int32) : E_X11_copy (post (do_copy A (nI 1) i (nI 3) j n)) 27 [(0, .ref 0), (1, .int (nI 1)), (2, .int i), (3, .int (nI 3)), (4, .int j), (5, .int n), (6, .ref 44), (7, .ref 46)] [] σ := by
  have bs : 1 < 4 := by decide
  have bt_ : 3 < 4 := by decide
  have hp := h.2.2.2.2.1 1 bs
  have hp2 := h.2.2.2.2.1 3 bt_
  unfold do_copy
  rw [show nn (nI 1) 4 = some 1 from by decide, show nn (nI 3) 4 = some 3 from by decide]
  dsimp only
  refine ev_X11_copy [43, 49, 68, 91, 97] 100 ?_
  refine ⟨trivial, _, m_isLost (Or.inr (Or.inl rfl)) hp, fun z σ1 _ ⟨k1, k2⟩ => ?_⟩
  have k1 := k1.symm
  subst k1
  cases k2
  cases hg : aG A 1 with
  | none =>
    refine vnt n10 ?_
    refine ev_X11_copy [] 100 ?_
    refine ⟨trivial, _, m_find (d := 1), fun z σ1 ⟨k1, k2⟩ => ?_⟩
    cases k2
    rw [k1]
    exact ⟨KC_fd h (by decide), rfl⟩
  | some y1 =>
    refine vnf rfl ?_
    rw [hg] at hp
    refine ⟨trivial, _, m_isLost (Or.inr (Or.inr (Or.inr rfl))) hp2, fun z σ1 _ ⟨k1, k2⟩ => ?_⟩
    have k1 := k1.symm
    subst k1
    cases k2
    cases hg2 : aG A 3 with
    | none =>
      refine vf n10 ?_
      refine ev_X11_copy [] 100 ?_
      refine ⟨trivial, _, m_find (d := 1), fun z σ1 ⟨k1, k2⟩ => ?_⟩
      cases k2
      rw [k1]
      exact ⟨KC_fd h (by decide), rfl⟩
    | some y2 =>
      refine vt rfl ?_
      rw [hg2] at hp2
      dsimp only
      refine ev_X11_copy [68, 91, 97] 100 ?_
      have q1 : (σ 44).1 1 = nI y1.1 := hp.2.1
      have q2 : (σ 46).1 1 = nI y2.1 := hp2.2.1
      have q3 : y1.1 < 3 ∧ y1.2.1 ≤ 60 := hp.1
      have q4 : y2.1 < 3 ∧ y2.2.1 ≤ 60 := hp2.1
      by_cases e : y1.1 = y2.1
      · rw [if_pos e]
        refine vt (q1.trans (by rw [e]; exact q2.symm)) ?_
        refine ev_X11_copy [91, 97] 100 ?_
        refine ⟨trivial, _, m_hrun (Or.inr (Or.inl rfl)) hp i n, fun z σ1 _ ⟨k1, k2⟩ => ?_⟩
        have k1 := k1.symm
        subst k1
        cases k2
        cases r1 : hrun i n y1.2.1 with
        | false =>
          refine vt (by show nI (hrun i n y1.2.1).toNat = 0; rw [r1]; rfl) ?_
          rw [if_neg (by simp)]
          refine ev_X11_copy [] 100 ?_
          refine ⟨trivial, _, m_find (d := 2), fun z σ1 ⟨k1, k2⟩ => ?_⟩
          cases k2
          rw [k1]
          exact ⟨KC_fd h (by decide), rfl⟩
        | true =>
          refine vf (by show ¬ nI (hrun i n y1.2.1).toNat = 0; rw [r1]; exact n10) ?_
          refine ⟨trivial, _, m_hrun (Or.inr (Or.inr (Or.inr rfl))) hp2 j n, fun z σ1 _ ⟨k1, k2⟩ => ?_⟩
          have k1 := k1.symm
          subst k1
          cases k2
          cases r2 : hrun j n y2.2.1 with
          | false =>
            refine vnf (by show nI (hrun j n y2.2.1).toNat = 0; rw [r2]; rfl) ?_
            rw [if_neg (by simp)]
            refine ev_X11_copy [] 100 ?_
            refine ⟨trivial, _, m_find (d := 2), fun z σ1 ⟨k1, k2⟩ => ?_⟩
            cases k2
            rw [k1]
            exact ⟨KC_fd h (by decide), rfl⟩
          | true =>
            refine vnt (by show ¬ nI (hrun j n y2.2.1).toNat = 0; rw [r2]; exact n10) ?_
            rw [if_pos ⟨rfl, rfl⟩]
            obtain ⟨a, m, ea, em, a60, m60, am⟩ := hrun_t r1
            obtain ⟨b, m', eb, em', b60, m60', bm⟩ := hrun_t r2
            have : m = m' := nI_i (by omega) (by omega) (em.symm.trans em')
            subst this
            subst ea
            subst em
            subst eb
            refine ev_X11_copy [] 100 ?_
            refine And.intro ⟨nnlt a 0 (Nat.zero_le _) (by omega), nnlt b 0 (Nat.zero_le _) (by omega), nnlt m 0 (Nat.zero_le _) (by omega), ?_, ?_⟩ (And.intro (by decide) ?_)
            · rw [nI_clamp (n := a) (by omega), nI_clamp (n := m) (by omega)]
              show a + m ≤ 60
              omega
            · rw [nI_clamp (n := b) (by omega), nI_clamp (n := m) (by omega)]
              show b + m ≤ 60
              omega
            · rw [nI_clamp (n := a) (by omega), nI_clamp (n := m) (by omega), nI_clamp (n := b) (by omega)]
              exact ⟨KC_pg h bt_ (fr_pc (by simp)) (pg_cpy hp hp2 am (by decide)), rfl⟩
      · rw [if_neg e]
        refine vf (fun z => e (nI_i (by omega) (by omega) (q1.symm.trans (z.trans q2)))) ?_
        refine ⟨trivial, _, m_find (d := 4), fun z σ1 ⟨k1, k2⟩ => ?_⟩
        cases k2
        rw [k1]
        exact ⟨KC_fd h (by decide), rfl⟩
theorem copy_20 {σ : qw_M} {A : AS} (h : KC σ A) (i j n : Int32) : E_X11_copy (post (do_copy A (nI 2) i (nI 0) j n)) 27 [(0, .ref 0), (1, .int (nI 2)), (2, .int i), (3, .int (nI 0)), (4, .int j), (5, .int n), (6, .ref 45), (7, .ref 43)] [] σ := by
  have bs : 2 < 4 := by decide
  have bt_ : 0 < 4 := by decide
  have hp := h.2.2.2.2.1 2 bs
  have hp2 := h.2.2.2.2.1 0 bt_
  unfold do_copy
  rw [show nn (nI 2) 4 = some 2 from by decide, show nn (nI 0) 4 = some 0 from by decide]
  dsimp only
  refine ev_X11_copy [43, 49, 68, 91, 97] 100 ?_
  refine ⟨trivial, _, m_isLost (Or.inr (Or.inr (Or.inl rfl))) hp, fun z σ1 _ ⟨k1, k2⟩ => ?_⟩
  have k1 := k1.symm
  subst k1
  cases k2
  cases hg : aG A 2 with
  | none =>
    refine vnt n10 ?_
    refine ev_X11_copy [] 100 ?_
    refine ⟨trivial, _, m_find (d := 1), fun z σ1 ⟨k1, k2⟩ => ?_⟩
    cases k2
    rw [k1]
    exact ⟨KC_fd h (by decide), rfl⟩
  | some y1 =>
    refine vnf rfl ?_
    rw [hg] at hp
    refine ⟨trivial, _, m_isLost (Or.inl rfl) hp2, fun z σ1 _ ⟨k1, k2⟩ => ?_⟩
    have k1 := k1.symm
    subst k1
    cases k2
    cases hg2 : aG A 0 with
    | none =>
      refine vf n10 ?_
      refine ev_X11_copy [] 100 ?_
      refine ⟨trivial, _, m_find (d := 1), fun z σ1 ⟨k1, k2⟩ => ?_⟩
      cases k2
      rw [k1]
      exact ⟨KC_fd h (by decide), rfl⟩
    | some y2 =>
      refine vt rfl ?_
      rw [hg2] at hp2
      dsimp only
      refine ev_X11_copy [68, 91, 97] 100 ?_
      have q1 : (σ 45).1 1 = nI y1.1 := hp.2.1
      have q2 : (σ 43).1 1 = nI y2.1 := hp2.2.1
      have q3 : y1.1 < 3 ∧ y1.2.1 ≤ 60 := hp.1
      have q4 : y2.1 < 3 ∧ y2.2.1 ≤ 60 := hp2.1
      by_cases e : y1.1 = y2.1
      · rw [if_pos e]
        refine vt (q1.trans (by rw [e]; exact q2.symm)) ?_
        refine ev_X11_copy [91, 97] 100 ?_
        refine ⟨trivial, _, m_hrun (Or.inr (Or.inr (Or.inl rfl))) hp i n, fun z σ1 _ ⟨k1, k2⟩ => ?_⟩
        have k1 := k1.symm
        subst k1
        cases k2
        cases r1 : hrun i n y1.2.1 with
        | false =>
          refine vt (by show nI (hrun i n y1.2.1).toNat = 0; rw [r1]; rfl) ?_
          rw [if_neg (by simp)]
          refine ev_X11_copy [] 100 ?_
          refine ⟨trivial, _, m_find (d := 2), fun z σ1 ⟨k1, k2⟩ => ?_⟩
          cases k2
          rw [k1]
          exact ⟨KC_fd h (by decide), rfl⟩
        | true =>
          refine vf (by show ¬ nI (hrun i n y1.2.1).toNat = 0; rw [r1]; exact n10) ?_
          refine ⟨trivial, _, m_hrun (Or.inl rfl) hp2 j n, fun z σ1 _ ⟨k1, k2⟩ => ?_⟩
          have k1 := k1.symm
          subst k1
          cases k2
          cases r2 : hrun j n y2.2.1 with
          | false =>
            refine vnf (by show nI (hrun j n y2.2.1).toNat = 0; rw [r2]; rfl) ?_
            rw [if_neg (by simp)]
            refine ev_X11_copy [] 100 ?_
            refine ⟨trivial, _, m_find (d := 2), fun z σ1 ⟨k1, k2⟩ => ?_⟩
            cases k2
            rw [k1]
            exact ⟨KC_fd h (by decide), rfl⟩
          | true =>
            refine vnt (by show ¬ nI (hrun j n y2.2.1).toNat = 0; rw [r2]; exact n10) ?_
            rw [if_pos ⟨rfl, rfl⟩]
            obtain ⟨a, m, ea, em, a60, m60, am⟩ := hrun_t r1
            obtain ⟨b, m', eb, em', b60, m60', bm⟩ := hrun_t r2
            have : m = m' := nI_i (by omega) (by omega) (em.symm.trans em')
            subst this
            subst ea
            subst em
            subst eb
            refine ev_X11_copy [] 100 ?_
            refine And.intro ⟨nnlt a 0 (Nat.zero_le _) (by omega), nnlt b 0 (Nat.zero_le _) (by omega), nnlt m 0 (Nat.zero_le _) (by omega), ?_, ?_⟩ (And.intro (by decide) ?_)
            · rw [nI_clamp (n := a) (by omega), nI_clamp (n := m) (by omega)]
              show a + m ≤ 60
              omega
            · rw [nI_clamp (n := b) (by omega), nI_clamp (n := m) (by omega)]
              show b + m ≤ 60
              omega
            · rw [nI_clamp (n := a) (by omega), nI_clamp (n := m) (by omega), nI_clamp (n := b) (by omega)]
              exact ⟨KC_pg h bt_ (fr_pc (by simp)) (pg_cpy hp hp2 am (by decide)), rfl⟩
      · rw [if_neg e]
        refine vf (fun z => e (nI_i (by omega) (by omega) (q1.symm.trans (z.trans q2)))) ?_
        refine ⟨trivial, _, m_find (d := 4), fun z σ1 ⟨k1, k2⟩ => ?_⟩
        cases k2
        rw [k1]
        exact ⟨KC_fd h (by decide), rfl⟩
theorem copy_21 {σ : qw_M} {A : AS} (h : KC σ A) (i j n : Int32) : E_X11_copy (post (do_copy A (nI 2) i (nI 1) j n)) 27 [(0, .ref 0), (1, .int (nI 2)), (2, .int i), (3, .int (nI 1)), (4, .int j), (5, .int n), (6, .ref 45), (7, .ref 44)] [] σ := by
  have bs : 2 < 4 := by decide
  have bt_ : 1 < 4 := by decide
  have hp := h.2.2.2.2.1 2 bs
  have hp2 := h.2.2.2.2.1 1 bt_
  unfold do_copy
  rw [show nn (nI 2) 4 = some 2 from by decide, show nn (nI 1) 4 = some 1 from by decide]
  dsimp only
  refine ev_X11_copy [43, 49, 68, 91, 97] 100 ?_
  refine ⟨trivial, _, m_isLost (Or.inr (Or.inr (Or.inl rfl))) hp, fun z σ1 _ ⟨k1, k2⟩ => ?_⟩
  have k1 := k1.symm
  subst k1
  cases k2
  cases hg : aG A 2 with
  | none =>
    refine vnt n10 ?_
    refine ev_X11_copy [] 100 ?_
    refine ⟨trivial, _, m_find (d := 1), fun z σ1 ⟨k1, k2⟩ => ?_⟩
    cases k2
    rw [k1]
    exact ⟨KC_fd h (by decide), rfl⟩
  | some y1 =>
    refine vnf rfl ?_
    rw [hg] at hp
    refine ⟨trivial, _, m_isLost (Or.inr (Or.inl rfl)) hp2, fun z σ1 _ ⟨k1, k2⟩ => ?_⟩
    have k1 := k1.symm
    subst k1
    cases k2
    cases hg2 : aG A 1 with
    | none =>
      refine vf n10 ?_
      refine ev_X11_copy [] 100 ?_
      refine ⟨trivial, _, m_find (d := 1), fun z σ1 ⟨k1, k2⟩ => ?_⟩
      cases k2
      rw [k1]
      exact ⟨KC_fd h (by decide), rfl⟩
    | some y2 =>
      refine vt rfl ?_
      rw [hg2] at hp2
      dsimp only
      refine ev_X11_copy [68, 91, 97] 100 ?_
      have q1 : (σ 45).1 1 = nI y1.1 := hp.2.1
      have q2 : (σ 44).1 1 = nI y2.1 := hp2.2.1
      have q3 : y1.1 < 3 ∧ y1.2.1 ≤ 60 := hp.1
      have q4 : y2.1 < 3 ∧ y2.2.1 ≤ 60 := hp2.1
      by_cases e : y1.1 = y2.1
      · rw [if_pos e]
        refine vt (q1.trans (by rw [e]; exact q2.symm)) ?_
        refine ev_X11_copy [91, 97] 100 ?_
        refine ⟨trivial, _, m_hrun (Or.inr (Or.inr (Or.inl rfl))) hp i n, fun z σ1 _ ⟨k1, k2⟩ => ?_⟩
        have k1 := k1.symm
        subst k1
        cases k2
        cases r1 : hrun i n y1.2.1 with
        | false =>
          refine vt (by show nI (hrun i n y1.2.1).toNat = 0; rw [r1]; rfl) ?_
          rw [if_neg (by simp)]
          refine ev_X11_copy [] 100 ?_
          refine ⟨trivial, _, m_find (d := 2), fun z σ1 ⟨k1, k2⟩ => ?_⟩
          cases k2
          rw [k1]
          exact ⟨KC_fd h (by decide), rfl⟩
        | true =>
          refine vf (by show ¬ nI (hrun i n y1.2.1).toNat = 0; rw [r1]; exact n10) ?_
          refine ⟨trivial, _, m_hrun (Or.inr (Or.inl rfl)) hp2 j n, fun z σ1 _ ⟨k1, k2⟩ => ?_⟩
          have k1 := k1.symm
          subst k1
          cases k2
          cases r2 : hrun j n y2.2.1 with
          | false =>
            refine vnf (by show nI (hrun j n y2.2.1).toNat = 0; rw [r2]; rfl) ?_
            rw [if_neg (by simp)]
            refine ev_X11_copy [] 100 ?_
            refine ⟨trivial, _, m_find (d := 2), fun z σ1 ⟨k1, k2⟩ => ?_⟩
            cases k2
            rw [k1]
            exact ⟨KC_fd h (by decide), rfl⟩
          | true =>
            refine vnt (by show ¬ nI (hrun j n y2.2.1).toNat = 0; rw [r2]; exact n10) ?_
            rw [if_pos ⟨rfl, rfl⟩]
            obtain ⟨a, m, ea, em, a60, m60, am⟩ := hrun_t r1
            obtain ⟨b, m', eb, em', b60, m60', bm⟩ := hrun_t r2
            have : m = m' := nI_i (by omega) (by omega) (em.symm.trans em')
            subst this
            subst ea
            subst em
            subst eb
            refine ev_X11_copy [] 100 ?_
            refine And.intro ⟨nnlt a 0 (Nat.zero_le _) (by omega), nnlt b 0 (Nat.zero_le _) (by omega), nnlt m 0 (Nat.zero_le _) (by omega), ?_, ?_⟩ (And.intro (by decide) ?_)
            · rw [nI_clamp (n := a) (by omega), nI_clamp (n := m) (by omega)]
              show a + m ≤ 60
              omega
            · rw [nI_clamp (n := b) (by omega), nI_clamp (n := m) (by omega)]
              show b + m ≤ 60
              omega
            · rw [nI_clamp (n := a) (by omega), nI_clamp (n := m) (by omega), nI_clamp (n := b) (by omega)]
              exact ⟨KC_pg h bt_ (fr_pc (by simp)) (pg_cpy hp hp2 am (by decide)), rfl⟩
      · rw [if_neg e]
        refine vf (fun z => e (nI_i (by omega) (by omega) (q1.symm.trans (z.trans q2)))) ?_
        refine ⟨trivial, _, m_find (d := 4), fun z σ1 ⟨k1, k2⟩ => ?_⟩
        cases k2
        rw [k1]
        exact ⟨KC_fd h (by decide), rfl⟩
theorem copy_22 {σ : qw_M} {A : AS} (h : KC σ A) (i j n : Int32) : E_X11_copy (post (do_copy A (nI 2) i (nI 2) j n)) 27 [(0, .ref 0), (1, .int (nI 2)), (2, .int i), (3, .int (nI 2)), (4, .int j), (5, .int n), (6, .ref 45), (7, .ref 45)] [] σ := by
  have bs : 2 < 4 := by decide
  have bt_ : 2 < 4 := by decide
  have hp := h.2.2.2.2.1 2 bs
  have hp2 := h.2.2.2.2.1 2 bt_
  unfold do_copy
  rw [show nn (nI 2) 4 = some 2 from by decide]
  dsimp only
  refine ev_X11_copy [43, 49, 68, 91, 97] 100 ?_
  refine ⟨trivial, _, m_isLost (Or.inr (Or.inr (Or.inl rfl))) hp, fun z σ1 _ ⟨k1, k2⟩ => ?_⟩
  have k1 := k1.symm
  subst k1
  cases k2
  cases hg : aG A 2 with
  | none =>
    refine vnt n10 ?_
    refine ev_X11_copy [] 100 ?_
    refine ⟨trivial, _, m_find (d := 1), fun z σ1 ⟨k1, k2⟩ => ?_⟩
    cases k2
    rw [k1]
    exact ⟨KC_fd h (by decide), rfl⟩
  | some y1 =>
    refine vnf rfl ?_
    rw [hg] at hp
    refine ⟨trivial, _, m_isLost (Or.inr (Or.inr (Or.inl rfl))) hp2, fun z σ1 _ ⟨k1, k2⟩ => ?_⟩
    have k1 := k1.symm
    subst k1
    cases k2
    cases hg2 : aG A 2 with
    | none =>
      have q := hg.symm.trans hg2
      cases q
    | some y2 =>
      have q := hg.symm.trans hg2
      cases q
      refine vt rfl ?_
      rw [hg] at hp2
      dsimp only
      refine ev_X11_copy [68, 91, 97] 100 ?_
      have q1 : (σ 45).1 1 = nI y1.1 := hp.2.1
      have q2 : (σ 45).1 1 = nI y1.1 := hp2.2.1
      have q3 : y1.1 < 3 ∧ y1.2.1 ≤ 60 := hp.1
      have q4 : y1.1 < 3 ∧ y1.2.1 ≤ 60 := hp2.1
      by_cases e : y1.1 = y1.1
      · rw [if_pos e]
        refine vt (q1.trans (by rw [e]; exact q2.symm)) ?_
        refine ev_X11_copy [91, 97] 100 ?_
        refine ⟨trivial, _, m_hrun (Or.inr (Or.inr (Or.inl rfl))) hp i n, fun z σ1 _ ⟨k1, k2⟩ => ?_⟩
        have k1 := k1.symm
        subst k1
        cases k2
        cases r1 : hrun i n y1.2.1 with
        | false =>
          refine vt (by show nI (hrun i n y1.2.1).toNat = 0; rw [r1]; rfl) ?_
          rw [if_neg (by simp)]
          refine ev_X11_copy [] 100 ?_
          refine ⟨trivial, _, m_find (d := 2), fun z σ1 ⟨k1, k2⟩ => ?_⟩
          cases k2
          rw [k1]
          exact ⟨KC_fd h (by decide), rfl⟩
        | true =>
          refine vf (by show ¬ nI (hrun i n y1.2.1).toNat = 0; rw [r1]; exact n10) ?_
          refine ⟨trivial, _, m_hrun (Or.inr (Or.inr (Or.inl rfl))) hp2 j n, fun z σ1 _ ⟨k1, k2⟩ => ?_⟩
          have k1 := k1.symm
          subst k1
          cases k2
          cases r2 : hrun j n y1.2.1 with
          | false =>
            refine vnf (by show nI (hrun j n y1.2.1).toNat = 0; rw [r2]; rfl) ?_
            rw [if_neg (by simp)]
            refine ev_X11_copy [] 100 ?_
            refine ⟨trivial, _, m_find (d := 2), fun z σ1 ⟨k1, k2⟩ => ?_⟩
            cases k2
            rw [k1]
            exact ⟨KC_fd h (by decide), rfl⟩
          | true =>
            refine vnt (by show ¬ nI (hrun j n y1.2.1).toNat = 0; rw [r2]; exact n10) ?_
            rw [if_pos ⟨rfl, rfl⟩]
            obtain ⟨a, m, ea, em, a60, m60, am⟩ := hrun_t r1
            obtain ⟨b, m', eb, em', b60, m60', bm⟩ := hrun_t r2
            have : m = m' := nI_i (by omega) (by omega) (em.symm.trans em')
            subst this
            subst ea
            subst em
            subst eb
            refine ev_X11_copy [] 100 ?_
            refine And.intro ⟨nnlt a 0 (Nat.zero_le _) (by omega), nnlt b 0 (Nat.zero_le _) (by omega), nnlt m 0 (Nat.zero_le _) (by omega), ?_, ?_⟩ (And.intro (by decide) ?_)
            · rw [nI_clamp (n := a) (by omega), nI_clamp (n := m) (by omega)]
              show a + m ≤ 60
              omega
            · rw [nI_clamp (n := b) (by omega), nI_clamp (n := m) (by omega)]
              show b + m ≤ 60
              omega
            · rw [nI_clamp (n := a) (by omega), nI_clamp (n := m) (by omega), nI_clamp (n := b) (by omega)]
              exact ⟨KC_pg h bt_ (fr_pc (by simp)) (pg_cpy hp hp2 am (by decide)), rfl⟩
      · rw [if_neg e]
        refine vf (fun z => e (nI_i (by omega) (by omega) (q1.symm.trans (z.trans q2)))) ?_
        refine ⟨trivial, _, m_find (d := 4), fun z σ1 ⟨k1, k2⟩ => ?_⟩
        cases k2
        rw [k1]
        exact ⟨KC_fd h (by decide), rfl⟩
theorem copy_23 {σ : qw_M} {A : AS} (h : KC σ A) (i j n : Int32) : E_X11_copy (post (do_copy A (nI 2) i (nI 3) j n)) 27 [(0, .ref 0), (1, .int (nI 2)), (2, .int i), (3, .int (nI 3)), (4, .int j), (5, .int n), (6, .ref 45), (7, .ref 46)] [] σ := by
  have bs : 2 < 4 := by decide
  have bt_ : 3 < 4 := by decide
  have hp := h.2.2.2.2.1 2 bs
  have hp2 := h.2.2.2.2.1 3 bt_
  unfold do_copy
  rw [show nn (nI 2) 4 = some 2 from by decide, show nn (nI 3) 4 = some 3 from by decide]
  dsimp only
  refine ev_X11_copy [43, 49, 68, 91, 97] 100 ?_
  refine ⟨trivial, _, m_isLost (Or.inr (Or.inr (Or.inl rfl))) hp, fun z σ1 _ ⟨k1, k2⟩ => ?_⟩
  have k1 := k1.symm
  subst k1
  cases k2
  cases hg : aG A 2 with
  | none =>
    refine vnt n10 ?_
    refine ev_X11_copy [] 100 ?_
    refine ⟨trivial, _, m_find (d := 1), fun z σ1 ⟨k1, k2⟩ => ?_⟩
    cases k2
    rw [k1]
    exact ⟨KC_fd h (by decide), rfl⟩
  | some y1 =>
    refine vnf rfl ?_
    rw [hg] at hp
    refine ⟨trivial, _, m_isLost (Or.inr (Or.inr (Or.inr rfl))) hp2, fun z σ1 _ ⟨k1, k2⟩ => ?_⟩
    have k1 := k1.symm
    subst k1
    cases k2
    cases hg2 : aG A 3 with
    | none =>
      refine vf n10 ?_
      refine ev_X11_copy [] 100 ?_
      refine ⟨trivial, _, m_find (d := 1), fun z σ1 ⟨k1, k2⟩ => ?_⟩
      cases k2
      rw [k1]
      exact ⟨KC_fd h (by decide), rfl⟩
    | some y2 =>
      refine vt rfl ?_
      rw [hg2] at hp2
      dsimp only
      refine ev_X11_copy [68, 91, 97] 100 ?_
      have q1 : (σ 45).1 1 = nI y1.1 := hp.2.1
      have q2 : (σ 46).1 1 = nI y2.1 := hp2.2.1
      have q3 : y1.1 < 3 ∧ y1.2.1 ≤ 60 := hp.1
      have q4 : y2.1 < 3 ∧ y2.2.1 ≤ 60 := hp2.1
      by_cases e : y1.1 = y2.1
      · rw [if_pos e]
        refine vt (q1.trans (by rw [e]; exact q2.symm)) ?_
        refine ev_X11_copy [91, 97] 100 ?_
        refine ⟨trivial, _, m_hrun (Or.inr (Or.inr (Or.inl rfl))) hp i n, fun z σ1 _ ⟨k1, k2⟩ => ?_⟩
        have k1 := k1.symm
        subst k1
        cases k2
        cases r1 : hrun i n y1.2.1 with
        | false =>
          refine vt (by show nI (hrun i n y1.2.1).toNat = 0; rw [r1]; rfl) ?_
          rw [if_neg (by simp)]
          refine ev_X11_copy [] 100 ?_
          refine ⟨trivial, _, m_find (d := 2), fun z σ1 ⟨k1, k2⟩ => ?_⟩
          cases k2
          rw [k1]
          exact ⟨KC_fd h (by decide), rfl⟩
        | true =>
          refine vf (by show ¬ nI (hrun i n y1.2.1).toNat = 0; rw [r1]; exact n10) ?_
          refine ⟨trivial, _, m_hrun (Or.inr (Or.inr (Or.inr rfl))) hp2 j n, fun z σ1 _ ⟨k1, k2⟩ => ?_⟩
          have k1 := k1.symm
          subst k1
          cases k2
          cases r2 : hrun j n y2.2.1 with
          | false =>
            refine vnf (by show nI (hrun j n y2.2.1).toNat = 0; rw [r2]; rfl) ?_
            rw [if_neg (by simp)]
            refine ev_X11_copy [] 100 ?_
            refine ⟨trivial, _, m_find (d := 2), fun z σ1 ⟨k1, k2⟩ => ?_⟩
            cases k2
            rw [k1]
            exact ⟨KC_fd h (by decide), rfl⟩
          | true =>
            refine vnt (by show ¬ nI (hrun j n y2.2.1).toNat = 0; rw [r2]; exact n10) ?_
            rw [if_pos ⟨rfl, rfl⟩]
            obtain ⟨a, m, ea, em, a60, m60, am⟩ := hrun_t r1
            obtain ⟨b, m', eb, em', b60, m60', bm⟩ := hrun_t r2
            have : m = m' := nI_i (by omega) (by omega) (em.symm.trans em')
            subst this
            subst ea
            subst em
            subst eb
            refine ev_X11_copy [] 100 ?_
            refine And.intro ⟨nnlt a 0 (Nat.zero_le _) (by omega), nnlt b 0 (Nat.zero_le _) (by omega), nnlt m 0 (Nat.zero_le _) (by omega), ?_, ?_⟩ (And.intro (by decide) ?_)
            · rw [nI_clamp (n := a) (by omega), nI_clamp (n := m) (by omega)]
              show a + m ≤ 60
              omega
            · rw [nI_clamp (n := b) (by omega), nI_clamp (n := m) (by omega)]
              show b + m ≤ 60
              omega
            · rw [nI_clamp (n := a) (by omega), nI_clamp (n := m) (by omega), nI_clamp (n := b) (by omega)]
              exact ⟨KC_pg h bt_ (fr_pc (by simp)) (pg_cpy hp hp2 am (by decide)), rfl⟩
      · rw [if_neg e]
        refine vf (fun z => e (nI_i (by omega) (by omega) (q1.symm.trans (z.trans q2)))) ?_
        refine ⟨trivial, _, m_find (d := 4), fun z σ1 ⟨k1, k2⟩ => ?_⟩
        cases k2
        rw [k1]
        exact ⟨KC_fd h (by decide), rfl⟩
theorem copy_30 {σ : qw_M} {A : AS} (h : KC σ A) (i j n : Int32) : E_X11_copy (post (do_copy A (nI 3) i (nI 0) j n)) 27 [(0, .ref 0), (1, .int (nI 3)), (2, .int i), (3, .int (nI 0)), (4, .int j), (5, .int n), (6, .ref 46), (7, .ref 43)] [] σ := by
  have bs : 3 < 4 := by decide
  have bt_ : 0 < 4 := by decide
  have hp := h.2.2.2.2.1 3 bs
  have hp2 := h.2.2.2.2.1 0 bt_
  unfold do_copy
  rw [show nn (nI 3) 4 = some 3 from by decide, show nn (nI 0) 4 = some 0 from by decide]
  dsimp only
  refine ev_X11_copy [43, 49, 68, 91, 97] 100 ?_
  refine ⟨trivial, _, m_isLost (Or.inr (Or.inr (Or.inr rfl))) hp, fun z σ1 _ ⟨k1, k2⟩ => ?_⟩
  have k1 := k1.symm
  subst k1
  cases k2
  cases hg : aG A 3 with
  | none =>
    refine vnt n10 ?_
    refine ev_X11_copy [] 100 ?_
    refine ⟨trivial, _, m_find (d := 1), fun z σ1 ⟨k1, k2⟩ => ?_⟩
    cases k2
    rw [k1]
    exact ⟨KC_fd h (by decide), rfl⟩
  | some y1 =>
    refine vnf rfl ?_
    rw [hg] at hp
    refine ⟨trivial, _, m_isLost (Or.inl rfl) hp2, fun z σ1 _ ⟨k1, k2⟩ => ?_⟩
    have k1 := k1.symm
    subst k1
    cases k2
    cases hg2 : aG A 0 with
    | none =>
      refine vf n10 ?_
      refine ev_X11_copy [] 100 ?_
      refine ⟨trivial, _, m_find (d := 1), fun z σ1 ⟨k1, k2⟩ => ?_⟩
      cases k2
      rw [k1]
      exact ⟨KC_fd h (by decide), rfl⟩
    | some y2 =>
      refine vt rfl ?_
      rw [hg2] at hp2
      dsimp only
      refine ev_X11_copy [68, 91, 97] 100 ?_
      have q1 : (σ 46).1 1 = nI y1.1 := hp.2.1
      have q2 : (σ 43).1 1 = nI y2.1 := hp2.2.1
      have q3 : y1.1 < 3 ∧ y1.2.1 ≤ 60 := hp.1
      have q4 : y2.1 < 3 ∧ y2.2.1 ≤ 60 := hp2.1
      by_cases e : y1.1 = y2.1
      · rw [if_pos e]
        refine vt (q1.trans (by rw [e]; exact q2.symm)) ?_
        refine ev_X11_copy [91, 97] 100 ?_
        refine ⟨trivial, _, m_hrun (Or.inr (Or.inr (Or.inr rfl))) hp i n, fun z σ1 _ ⟨k1, k2⟩ => ?_⟩
        have k1 := k1.symm
        subst k1
        cases k2
        cases r1 : hrun i n y1.2.1 with
        | false =>
          refine vt (by show nI (hrun i n y1.2.1).toNat = 0; rw [r1]; rfl) ?_
          rw [if_neg (by simp)]
          refine ev_X11_copy [] 100 ?_
          refine ⟨trivial, _, m_find (d := 2), fun z σ1 ⟨k1, k2⟩ => ?_⟩
          cases k2
          rw [k1]
          exact ⟨KC_fd h (by decide), rfl⟩
        | true =>
          refine vf (by show ¬ nI (hrun i n y1.2.1).toNat = 0; rw [r1]; exact n10) ?_
          refine ⟨trivial, _, m_hrun (Or.inl rfl) hp2 j n, fun z σ1 _ ⟨k1, k2⟩ => ?_⟩
          have k1 := k1.symm
          subst k1
          cases k2
          cases r2 : hrun j n y2.2.1 with
          | false =>
            refine vnf (by show nI (hrun j n y2.2.1).toNat = 0; rw [r2]; rfl) ?_
            rw [if_neg (by simp)]
            refine ev_X11_copy [] 100 ?_
            refine ⟨trivial, _, m_find (d := 2), fun z σ1 ⟨k1, k2⟩ => ?_⟩
            cases k2
            rw [k1]
            exact ⟨KC_fd h (by decide), rfl⟩
          | true =>
            refine vnt (by show ¬ nI (hrun j n y2.2.1).toNat = 0; rw [r2]; exact n10) ?_
            rw [if_pos ⟨rfl, rfl⟩]
            obtain ⟨a, m, ea, em, a60, m60, am⟩ := hrun_t r1
            obtain ⟨b, m', eb, em', b60, m60', bm⟩ := hrun_t r2
            have : m = m' := nI_i (by omega) (by omega) (em.symm.trans em')
            subst this
            subst ea
            subst em
            subst eb
            refine ev_X11_copy [] 100 ?_
            refine And.intro ⟨nnlt a 0 (Nat.zero_le _) (by omega), nnlt b 0 (Nat.zero_le _) (by omega), nnlt m 0 (Nat.zero_le _) (by omega), ?_, ?_⟩ (And.intro (by decide) ?_)
            · rw [nI_clamp (n := a) (by omega), nI_clamp (n := m) (by omega)]
              show a + m ≤ 60
              omega
            · rw [nI_clamp (n := b) (by omega), nI_clamp (n := m) (by omega)]
              show b + m ≤ 60
              omega
            · rw [nI_clamp (n := a) (by omega), nI_clamp (n := m) (by omega), nI_clamp (n := b) (by omega)]
              exact ⟨KC_pg h bt_ (fr_pc (by simp)) (pg_cpy hp hp2 am (by decide)), rfl⟩
      · rw [if_neg e]
        refine vf (fun z => e (nI_i (by omega) (by omega) (q1.symm.trans (z.trans q2)))) ?_
        refine ⟨trivial, _, m_find (d := 4), fun z σ1 ⟨k1, k2⟩ => ?_⟩
        cases k2
        rw [k1]
        exact ⟨KC_fd h (by decide), rfl⟩
theorem copy_31 {σ : qw_M} {A : AS} (h : KC σ A) (i j n : Int32) : E_X11_copy (post (do_copy A (nI 3) i (nI 1) j n)) 27 [(0, .ref 0), (1, .int (nI 3)), (2, .int i), (3, .int (nI 1)), (4, .int j), (5, .int n), (6, .ref 46), (7, .ref 44)] [] σ := by
  have bs : 3 < 4 := by decide
  have bt_ : 1 < 4 := by decide
  have hp := h.2.2.2.2.1 3 bs
  have hp2 := h.2.2.2.2.1 1 bt_
  unfold do_copy
  rw [show nn (nI 3) 4 = some 3 from by decide, show nn (nI 1) 4 = some 1 from by decide]
  dsimp only
  refine ev_X11_copy [43, 49, 68, 91, 97] 100 ?_
  refine ⟨trivial, _, m_isLost (Or.inr (Or.inr (Or.inr rfl))) hp, fun z σ1 _ ⟨k1, k2⟩ => ?_⟩
  have k1 := k1.symm
  subst k1
  cases k2
  cases hg : aG A 3 with
  | none =>
    refine vnt n10 ?_
    refine ev_X11_copy [] 100 ?_
    refine ⟨trivial, _, m_find (d := 1), fun z σ1 ⟨k1, k2⟩ => ?_⟩
    cases k2
    rw [k1]
    exact ⟨KC_fd h (by decide), rfl⟩
  | some y1 =>
    refine vnf rfl ?_
    rw [hg] at hp
    refine ⟨trivial, _, m_isLost (Or.inr (Or.inl rfl)) hp2, fun z σ1 _ ⟨k1, k2⟩ => ?_⟩
    have k1 := k1.symm
    subst k1
    cases k2
    cases hg2 : aG A 1 with
    | none =>
      refine vf n10 ?_
      refine ev_X11_copy [] 100 ?_
      refine ⟨trivial, _, m_find (d := 1), fun z σ1 ⟨k1, k2⟩ => ?_⟩
      cases k2
      rw [k1]
      exact ⟨KC_fd h (by decide), rfl⟩
    | some y2 =>
      refine vt rfl ?_
      rw [hg2] at hp2
      dsimp only
      refine ev_X11_copy [68, 91, 97] 100 ?_
      have q1 : (σ 46).1 1 = nI y1.1 := hp.2.1
      have q2 : (σ 44).1 1 = nI y2.1 := hp2.2.1
      have q3 : y1.1 < 3 ∧ y1.2.1 ≤ 60 := hp.1
      have q4 : y2.1 < 3 ∧ y2.2.1 ≤ 60 := hp2.1
      by_cases e : y1.1 = y2.1
      · rw [if_pos e]
        refine vt (q1.trans (by rw [e]; exact q2.symm)) ?_
        refine ev_X11_copy [91, 97] 100 ?_
        refine ⟨trivial, _, m_hrun (Or.inr (Or.inr (Or.inr rfl))) hp i n, fun z σ1 _ ⟨k1, k2⟩ => ?_⟩
        have k1 := k1.symm
        subst k1
        cases k2
        cases r1 : hrun i n y1.2.1 with
        | false =>
          refine vt (by show nI (hrun i n y1.2.1).toNat = 0; rw [r1]; rfl) ?_
          rw [if_neg (by simp)]
          refine ev_X11_copy [] 100 ?_
          refine ⟨trivial, _, m_find (d := 2), fun z σ1 ⟨k1, k2⟩ => ?_⟩
          cases k2
          rw [k1]
          exact ⟨KC_fd h (by decide), rfl⟩
        | true =>
          refine vf (by show ¬ nI (hrun i n y1.2.1).toNat = 0; rw [r1]; exact n10) ?_
          refine ⟨trivial, _, m_hrun (Or.inr (Or.inl rfl)) hp2 j n, fun z σ1 _ ⟨k1, k2⟩ => ?_⟩
          have k1 := k1.symm
          subst k1
          cases k2
          cases r2 : hrun j n y2.2.1 with
          | false =>
            refine vnf (by show nI (hrun j n y2.2.1).toNat = 0; rw [r2]; rfl) ?_
            rw [if_neg (by simp)]
            refine ev_X11_copy [] 100 ?_
            refine ⟨trivial, _, m_find (d := 2), fun z σ1 ⟨k1, k2⟩ => ?_⟩
            cases k2
            rw [k1]
            exact ⟨KC_fd h (by decide), rfl⟩
          | true =>
            refine vnt (by show ¬ nI (hrun j n y2.2.1).toNat = 0; rw [r2]; exact n10) ?_
            rw [if_pos ⟨rfl, rfl⟩]
            obtain ⟨a, m, ea, em, a60, m60, am⟩ := hrun_t r1
            obtain ⟨b, m', eb, em', b60, m60', bm⟩ := hrun_t r2
            have : m = m' := nI_i (by omega) (by omega) (em.symm.trans em')
            subst this
            subst ea
            subst em
            subst eb
            refine ev_X11_copy [] 100 ?_
            refine And.intro ⟨nnlt a 0 (Nat.zero_le _) (by omega), nnlt b 0 (Nat.zero_le _) (by omega), nnlt m 0 (Nat.zero_le _) (by omega), ?_, ?_⟩ (And.intro (by decide) ?_)
            · rw [nI_clamp (n := a) (by omega), nI_clamp (n := m) (by omega)]
              show a + m ≤ 60
              omega
            · rw [nI_clamp (n := b) (by omega), nI_clamp (n := m) (by omega)]
              show b + m ≤ 60
              omega
            · rw [nI_clamp (n := a) (by omega), nI_clamp (n := m) (by omega), nI_clamp (n := b) (by omega)]
              exact ⟨KC_pg h bt_ (fr_pc (by simp)) (pg_cpy hp hp2 am (by decide)), rfl⟩
      · rw [if_neg e]
        refine vf (fun z => e (nI_i (by omega) (by omega) (q1.symm.trans (z.trans q2)))) ?_
        refine ⟨trivial, _, m_find (d := 4), fun z σ1 ⟨k1, k2⟩ => ?_⟩
        cases k2
        rw [k1]
        exact ⟨KC_fd h (by decide), rfl⟩
theorem copy_32 {σ : qw_M} {A : AS} (h : KC σ A) (i j n : Int32) : E_X11_copy (post (do_copy A (nI 3) i (nI 2) j n)) 27 [(0, .ref 0), (1, .int (nI 3)), (2, .int i), (3, .int (nI 2)), (4, .int j), (5, .int n), (6, .ref 46), (7, .ref 45)] [] σ := by
  have bs : 3 < 4 := by decide
  have bt_ : 2 < 4 := by decide
  have hp := h.2.2.2.2.1 3 bs
  have hp2 := h.2.2.2.2.1 2 bt_
  unfold do_copy
  rw [show nn (nI 3) 4 = some 3 from by decide, show nn (nI 2) 4 = some 2 from by decide]
  dsimp only
  refine ev_X11_copy [43, 49, 68, 91, 97] 100 ?_
  refine ⟨trivial, _, m_isLost (Or.inr (Or.inr (Or.inr rfl))) hp, fun z σ1 _ ⟨k1, k2⟩ => ?_⟩
  have k1 := k1.symm
  subst k1
  cases k2
  cases hg : aG A 3 with
  | none =>
    refine vnt n10 ?_
    refine ev_X11_copy [] 100 ?_
    refine ⟨trivial, _, m_find (d := 1), fun z σ1 ⟨k1, k2⟩ => ?_⟩
    cases k2
    rw [k1]
    exact ⟨KC_fd h (by decide), rfl⟩
  | some y1 =>
    refine vnf rfl ?_
    rw [hg] at hp
    refine ⟨trivial, _, m_isLost (Or.inr (Or.inr (Or.inl rfl))) hp2, fun z σ1 _ ⟨k1, k2⟩ => ?_⟩
    have k1 := k1.symm
    subst k1
    cases k2
    cases hg2 : aG A 2 with
    | none =>
      refine vf n10 ?_
      refine ev_X11_copy [] 100 ?_
      refine ⟨trivial, _, m_find (d := 1), fun z σ1 ⟨k1, k2⟩ => ?_⟩
      cases k2
      rw [k1]
      exact ⟨KC_fd h (by decide), rfl⟩
    | some y2 =>
      refine vt rfl ?_
      rw [hg2] at hp2
      dsimp only
      refine ev_X11_copy [68, 91, 97] 100 ?_
      have q1 : (σ 46).1 1 = nI y1.1 := hp.2.1
      have q2 : (σ 45).1 1 = nI y2.1 := hp2.2.1
      have q3 : y1.1 < 3 ∧ y1.2.1 ≤ 60 := hp.1
      have q4 : y2.1 < 3 ∧ y2.2.1 ≤ 60 := hp2.1
      by_cases e : y1.1 = y2.1
      · rw [if_pos e]
        refine vt (q1.trans (by rw [e]; exact q2.symm)) ?_
        refine ev_X11_copy [91, 97] 100 ?_
        refine ⟨trivial, _, m_hrun (Or.inr (Or.inr (Or.inr rfl))) hp i n, fun z σ1 _ ⟨k1, k2⟩ => ?_⟩
        have k1 := k1.symm
        subst k1
        cases k2
        cases r1 : hrun i n y1.2.1 with
        | false =>
          refine vt (by show nI (hrun i n y1.2.1).toNat = 0; rw [r1]; rfl) ?_
          rw [if_neg (by simp)]
          refine ev_X11_copy [] 100 ?_
          refine ⟨trivial, _, m_find (d := 2), fun z σ1 ⟨k1, k2⟩ => ?_⟩
          cases k2
          rw [k1]
          exact ⟨KC_fd h (by decide), rfl⟩
        | true =>
          refine vf (by show ¬ nI (hrun i n y1.2.1).toNat = 0; rw [r1]; exact n10) ?_
          refine ⟨trivial, _, m_hrun (Or.inr (Or.inr (Or.inl rfl))) hp2 j n, fun z σ1 _ ⟨k1, k2⟩ => ?_⟩
          have k1 := k1.symm
          subst k1
          cases k2
          cases r2 : hrun j n y2.2.1 with
          | false =>
            refine vnf (by show nI (hrun j n y2.2.1).toNat = 0; rw [r2]; rfl) ?_
            rw [if_neg (by simp)]
            refine ev_X11_copy [] 100 ?_
            refine ⟨trivial, _, m_find (d := 2), fun z σ1 ⟨k1, k2⟩ => ?_⟩
            cases k2
            rw [k1]
            exact ⟨KC_fd h (by decide), rfl⟩
          | true =>
            refine vnt (by show ¬ nI (hrun j n y2.2.1).toNat = 0; rw [r2]; exact n10) ?_
            rw [if_pos ⟨rfl, rfl⟩]
            obtain ⟨a, m, ea, em, a60, m60, am⟩ := hrun_t r1
            obtain ⟨b, m', eb, em', b60, m60', bm⟩ := hrun_t r2
            have : m = m' := nI_i (by omega) (by omega) (em.symm.trans em')
            subst this
            subst ea
            subst em
            subst eb
            refine ev_X11_copy [] 100 ?_
            refine And.intro ⟨nnlt a 0 (Nat.zero_le _) (by omega), nnlt b 0 (Nat.zero_le _) (by omega), nnlt m 0 (Nat.zero_le _) (by omega), ?_, ?_⟩ (And.intro (by decide) ?_)
            · rw [nI_clamp (n := a) (by omega), nI_clamp (n := m) (by omega)]
              show a + m ≤ 60
              omega
            · rw [nI_clamp (n := b) (by omega), nI_clamp (n := m) (by omega)]
              show b + m ≤ 60
              omega
            · rw [nI_clamp (n := a) (by omega), nI_clamp (n := m) (by omega), nI_clamp (n := b) (by omega)]
              exact ⟨KC_pg h bt_ (fr_pc (by simp)) (pg_cpy hp hp2 am (by decide)), rfl⟩
      · rw [if_neg e]
        refine vf (fun z => e (nI_i (by omega) (by omega) (q1.symm.trans (z.trans q2)))) ?_
        refine ⟨trivial, _, m_find (d := 4), fun z σ1 ⟨k1, k2⟩ => ?_⟩
        cases k2
        rw [k1]
        exact ⟨KC_fd h (by decide), rfl⟩
theorem copy_33 {σ : qw_M} {A : AS} (h : KC σ A) (i j n : Int32) : E_X11_copy (post (do_copy A (nI 3) i (nI 3) j n)) 27 [(0, .ref 0), (1, .int (nI 3)), (2, .int i), (3, .int (nI 3)), (4, .int j), (5, .int n), (6, .ref 46), (7, .ref 46)] [] σ := by
  have bs : 3 < 4 := by decide
  have bt_ : 3 < 4 := by decide
  have hp := h.2.2.2.2.1 3 bs
  have hp2 := h.2.2.2.2.1 3 bt_
  unfold do_copy
  rw [show nn (nI 3) 4 = some 3 from by decide]
  dsimp only
  refine ev_X11_copy [43, 49, 68, 91, 97] 100 ?_
  refine ⟨trivial, _, m_isLost (Or.inr (Or.inr (Or.inr rfl))) hp, fun z σ1 _ ⟨k1, k2⟩ => ?_⟩
  have k1 := k1.symm
  subst k1
  cases k2
  cases hg : aG A 3 with
  | none =>
    refine vnt n10 ?_
    refine ev_X11_copy [] 100 ?_
    refine ⟨trivial, _, m_find (d := 1), fun z σ1 ⟨k1, k2⟩ => ?_⟩
    cases k2
    rw [k1]
    exact ⟨KC_fd h (by decide), rfl⟩
  | some y1 =>
    refine vnf rfl ?_
    rw [hg] at hp
    refine ⟨trivial, _, m_isLost (Or.inr (Or.inr (Or.inr rfl))) hp2, fun z σ1 _ ⟨k1, k2⟩ => ?_⟩
    have k1 := k1.symm
    subst k1
    cases k2
    cases hg2 : aG A 3 with
    | none =>
      have q := hg.symm.trans hg2
      cases q
    | some y2 =>
      have q := hg.symm.trans hg2
      cases q
      refine vt rfl ?_
      rw [hg] at hp2
      dsimp only
      refine ev_X11_copy [68, 91, 97] 100 ?_
      have q1 : (σ 46).1 1 = nI y1.1 := hp.2.1
      have q2 : (σ 46).1 1 = nI y1.1 := hp2.2.1
      have q3 : y1.1 < 3 ∧ y1.2.1 ≤ 60 := hp.1
      have q4 : y1.1 < 3 ∧ y1.2.1 ≤ 60 := hp2.1
      by_cases e : y1.1 = y1.1
      · rw [if_pos e]
        refine vt (q1.trans (by rw [e]; exact q2.symm)) ?_
        refine ev_X11_copy [91, 97] 100 ?_
        refine ⟨trivial, _, m_hrun (Or.inr (Or.inr (Or.inr rfl))) hp i n, fun z σ1 _ ⟨k1, k2⟩ => ?_⟩
        have k1 := k1.symm
        subst k1
        cases k2
        cases r1 : hrun i n y1.2.1 with
        | false =>
          refine vt (by show nI (hrun i n y1.2.1).toNat = 0; rw [r1]; rfl) ?_
          rw [if_neg (by simp)]
          refine ev_X11_copy [] 100 ?_
          refine ⟨trivial, _, m_find (d := 2), fun z σ1 ⟨k1, k2⟩ => ?_⟩
          cases k2
          rw [k1]
          exact ⟨KC_fd h (by decide), rfl⟩
        | true =>
          refine vf (by show ¬ nI (hrun i n y1.2.1).toNat = 0; rw [r1]; exact n10) ?_
          refine ⟨trivial, _, m_hrun (Or.inr (Or.inr (Or.inr rfl))) hp2 j n, fun z σ1 _ ⟨k1, k2⟩ => ?_⟩
          have k1 := k1.symm
          subst k1
          cases k2
          cases r2 : hrun j n y1.2.1 with
          | false =>
            refine vnf (by show nI (hrun j n y1.2.1).toNat = 0; rw [r2]; rfl) ?_
            rw [if_neg (by simp)]
            refine ev_X11_copy [] 100 ?_
            refine ⟨trivial, _, m_find (d := 2), fun z σ1 ⟨k1, k2⟩ => ?_⟩
            cases k2
            rw [k1]
            exact ⟨KC_fd h (by decide), rfl⟩
          | true =>
            refine vnt (by show ¬ nI (hrun j n y1.2.1).toNat = 0; rw [r2]; exact n10) ?_
            rw [if_pos ⟨rfl, rfl⟩]
            obtain ⟨a, m, ea, em, a60, m60, am⟩ := hrun_t r1
            obtain ⟨b, m', eb, em', b60, m60', bm⟩ := hrun_t r2
            have : m = m' := nI_i (by omega) (by omega) (em.symm.trans em')
            subst this
            subst ea
            subst em
            subst eb
            refine ev_X11_copy [] 100 ?_
            refine And.intro ⟨nnlt a 0 (Nat.zero_le _) (by omega), nnlt b 0 (Nat.zero_le _) (by omega), nnlt m 0 (Nat.zero_le _) (by omega), ?_, ?_⟩ (And.intro (by decide) ?_)
            · rw [nI_clamp (n := a) (by omega), nI_clamp (n := m) (by omega)]
              show a + m ≤ 60
              omega
            · rw [nI_clamp (n := b) (by omega), nI_clamp (n := m) (by omega)]
              show b + m ≤ 60
              omega
            · rw [nI_clamp (n := a) (by omega), nI_clamp (n := m) (by omega), nI_clamp (n := b) (by omega)]
              exact ⟨KC_pg h bt_ (fr_pc (by simp)) (pg_cpy hp hp2 am (by decide)), rfl⟩
      · rw [if_neg e]
        refine vf (fun z => e (nI_i (by omega) (by omega) (q1.symm.trans (z.trans q2)))) ?_
        refine ⟨trivial, _, m_find (d := 4), fun z σ1 ⟨k1, k2⟩ => ?_⟩
        cases k2
        rw [k1]
        exact ⟨KC_fd h (by decide), rfl⟩

theorem c_copy {σ : qw_M} {A : AS} (h : KC σ A) (x i y j n : Int32) : qw_Mt qw_tw wC my_X11_copy [.ref 0, .int x, .int i, .int y, .int j, .int n] σ (post (do_copy A x i y j n)) := by
  refine mt_X11_copy rfl (ev_X11_copy [27] 100 ?_)
  have b1 : nn y 4 = none → do_copy A x i y j n = (bad, A) := fun z => by
    unfold do_copy
    rw [z]
    cases nn x 4 <;> rfl
  have b2 : nn x 4 = none → do_copy A x i y j n = (bad, A) := fun z => by
    unfold do_copy
    rw [z]
  cases hs : nn x 4 with
  | none =>
    rw [b2 hs]
    refine ⟨trivial, _, m_sheetOf0 hs, And.intro (fun σ1 k12 => ?_) (fun k σ1 k12 => nomatch k12.2)⟩
    obtain ⟨k1, k2⟩ := k12
    have k1 := k1.symm
    subst k1
    cases ht : nn y 4 with
    | none =>
      refine ⟨trivial, _, m_sheetOf0 ht, And.intro (fun σ1 k12 => ?_) (fun k σ1 k12 => nomatch k12.2)⟩
      obtain ⟨k1, k2⟩ := k12
      have k1 := k1.symm
      subst k1
      exact ⟨h, rfl⟩
    | some t =>
      obtain ⟨bt_, rfl⟩ := nn_some (by decide) ht
      have bt4 : t = 0 ∨ t = 1 ∨ t = 2 ∨ t = 3 := by omega
      rcases bt4 with rfl | rfl | rfl | rfl
      · refine ⟨trivial, _, m_sheetOf (s := 0) bt_, And.intro (fun σ1 k12 => nomatch k12.2) (fun k σ1 k12 => ?_)⟩
        obtain ⟨k1, k2⟩ := k12
        have k1 := k1.symm
        subst k1
        cases k2
        exact ⟨h, rfl⟩
      · refine ⟨trivial, _, m_sheetOf (s := 1) bt_, And.intro (fun σ1 k12 => nomatch k12.2) (fun k σ1 k12 => ?_)⟩
        obtain ⟨k1, k2⟩ := k12
        have k1 := k1.symm
        subst k1
        cases k2
        exact ⟨h, rfl⟩
      · refine ⟨trivial, _, m_sheetOf (s := 2) bt_, And.intro (fun σ1 k12 => nomatch k12.2) (fun k σ1 k12 => ?_)⟩
        obtain ⟨k1, k2⟩ := k12
        have k1 := k1.symm
        subst k1
        cases k2
        exact ⟨h, rfl⟩
      · refine ⟨trivial, _, m_sheetOf (s := 3) bt_, And.intro (fun σ1 k12 => nomatch k12.2) (fun k σ1 k12 => ?_)⟩
        obtain ⟨k1, k2⟩ := k12
        have k1 := k1.symm
        subst k1
        cases k2
        exact ⟨h, rfl⟩
  | some s =>
    obtain ⟨bs, rfl⟩ := nn_some (by decide) hs
    have bs4 : s = 0 ∨ s = 1 ∨ s = 2 ∨ s = 3 := by omega
    rcases bs4 with rfl | rfl | rfl | rfl
    · refine ⟨trivial, _, m_sheetOf (s := 0) bs, And.intro (fun σ1 k12 => nomatch k12.2) (fun k σ1 k12 => ?_)⟩
      obtain ⟨k1, k2⟩ := k12
      have k1 := k1.symm
      subst k1
      cases k2
      cases ht : nn y 4 with
      | none =>
        rw [b1 ht]
        refine ⟨trivial, _, m_sheetOf0 ht, And.intro (fun σ1 k12 => ?_) (fun k σ1 k12 => nomatch k12.2)⟩
        obtain ⟨k1, k2⟩ := k12
        have k1 := k1.symm
        subst k1
        exact ⟨h, rfl⟩
      | some t =>
        obtain ⟨bt_, rfl⟩ := nn_some (by decide) ht
        have bt4 : t = 0 ∨ t = 1 ∨ t = 2 ∨ t = 3 := by omega
        rcases bt4 with rfl | rfl | rfl | rfl
        · refine ⟨trivial, _, m_sheetOf (s := 0) bt_, And.intro (fun σ1 k12 => nomatch k12.2) (fun k σ1 k12 => ?_)⟩
          obtain ⟨k1, k2⟩ := k12
          have k1 := k1.symm
          subst k1
          cases k2
          exact copy_00 h i j n
        · refine ⟨trivial, _, m_sheetOf (s := 1) bt_, And.intro (fun σ1 k12 => nomatch k12.2) (fun k σ1 k12 => ?_)⟩
          obtain ⟨k1, k2⟩ := k12
          have k1 := k1.symm
          subst k1
          cases k2
          exact copy_01 h i j n
        · refine ⟨trivial, _, m_sheetOf (s := 2) bt_, And.intro (fun σ1 k12 => nomatch k12.2) (fun k σ1 k12 => ?_)⟩
          obtain ⟨k1, k2⟩ := k12
          have k1 := k1.symm
          subst k1
          cases k2
          exact copy_02 h i j n
        · refine ⟨trivial, _, m_sheetOf (s := 3) bt_, And.intro (fun σ1 k12 => nomatch k12.2) (fun k σ1 k12 => ?_)⟩
          obtain ⟨k1, k2⟩ := k12
          have k1 := k1.symm
          subst k1
          cases k2
          exact copy_03 h i j n
    · refine ⟨trivial, _, m_sheetOf (s := 1) bs, And.intro (fun σ1 k12 => nomatch k12.2) (fun k σ1 k12 => ?_)⟩
      obtain ⟨k1, k2⟩ := k12
      have k1 := k1.symm
      subst k1
      cases k2
      cases ht : nn y 4 with
      | none =>
        rw [b1 ht]
        refine ⟨trivial, _, m_sheetOf0 ht, And.intro (fun σ1 k12 => ?_) (fun k σ1 k12 => nomatch k12.2)⟩
        obtain ⟨k1, k2⟩ := k12
        have k1 := k1.symm
        subst k1
        exact ⟨h, rfl⟩
      | some t =>
        obtain ⟨bt_, rfl⟩ := nn_some (by decide) ht
        have bt4 : t = 0 ∨ t = 1 ∨ t = 2 ∨ t = 3 := by omega
        rcases bt4 with rfl | rfl | rfl | rfl
        · refine ⟨trivial, _, m_sheetOf (s := 0) bt_, And.intro (fun σ1 k12 => nomatch k12.2) (fun k σ1 k12 => ?_)⟩
          obtain ⟨k1, k2⟩ := k12
          have k1 := k1.symm
          subst k1
          cases k2
          exact copy_10 h i j n
        · refine ⟨trivial, _, m_sheetOf (s := 1) bt_, And.intro (fun σ1 k12 => nomatch k12.2) (fun k σ1 k12 => ?_)⟩
          obtain ⟨k1, k2⟩ := k12
          have k1 := k1.symm
          subst k1
          cases k2
          exact copy_11 h i j n
        · refine ⟨trivial, _, m_sheetOf (s := 2) bt_, And.intro (fun σ1 k12 => nomatch k12.2) (fun k σ1 k12 => ?_)⟩
          obtain ⟨k1, k2⟩ := k12
          have k1 := k1.symm
          subst k1
          cases k2
          exact copy_12 h i j n
        · refine ⟨trivial, _, m_sheetOf (s := 3) bt_, And.intro (fun σ1 k12 => nomatch k12.2) (fun k σ1 k12 => ?_)⟩
          obtain ⟨k1, k2⟩ := k12
          have k1 := k1.symm
          subst k1
          cases k2
          exact copy_13 h i j n
    · refine ⟨trivial, _, m_sheetOf (s := 2) bs, And.intro (fun σ1 k12 => nomatch k12.2) (fun k σ1 k12 => ?_)⟩
      obtain ⟨k1, k2⟩ := k12
      have k1 := k1.symm
      subst k1
      cases k2
      cases ht : nn y 4 with
      | none =>
        rw [b1 ht]
        refine ⟨trivial, _, m_sheetOf0 ht, And.intro (fun σ1 k12 => ?_) (fun k σ1 k12 => nomatch k12.2)⟩
        obtain ⟨k1, k2⟩ := k12
        have k1 := k1.symm
        subst k1
        exact ⟨h, rfl⟩
      | some t =>
        obtain ⟨bt_, rfl⟩ := nn_some (by decide) ht
        have bt4 : t = 0 ∨ t = 1 ∨ t = 2 ∨ t = 3 := by omega
        rcases bt4 with rfl | rfl | rfl | rfl
        · refine ⟨trivial, _, m_sheetOf (s := 0) bt_, And.intro (fun σ1 k12 => nomatch k12.2) (fun k σ1 k12 => ?_)⟩
          obtain ⟨k1, k2⟩ := k12
          have k1 := k1.symm
          subst k1
          cases k2
          exact copy_20 h i j n
        · refine ⟨trivial, _, m_sheetOf (s := 1) bt_, And.intro (fun σ1 k12 => nomatch k12.2) (fun k σ1 k12 => ?_)⟩
          obtain ⟨k1, k2⟩ := k12
          have k1 := k1.symm
          subst k1
          cases k2
          exact copy_21 h i j n
        · refine ⟨trivial, _, m_sheetOf (s := 2) bt_, And.intro (fun σ1 k12 => nomatch k12.2) (fun k σ1 k12 => ?_)⟩
          obtain ⟨k1, k2⟩ := k12
          have k1 := k1.symm
          subst k1
          cases k2
          exact copy_22 h i j n
        · refine ⟨trivial, _, m_sheetOf (s := 3) bt_, And.intro (fun σ1 k12 => nomatch k12.2) (fun k σ1 k12 => ?_)⟩
          obtain ⟨k1, k2⟩ := k12
          have k1 := k1.symm
          subst k1
          cases k2
          exact copy_23 h i j n
    · refine ⟨trivial, _, m_sheetOf (s := 3) bs, And.intro (fun σ1 k12 => nomatch k12.2) (fun k σ1 k12 => ?_)⟩
      obtain ⟨k1, k2⟩ := k12
      have k1 := k1.symm
      subst k1
      cases k2
      cases ht : nn y 4 with
      | none =>
        rw [b1 ht]
        refine ⟨trivial, _, m_sheetOf0 ht, And.intro (fun σ1 k12 => ?_) (fun k σ1 k12 => nomatch k12.2)⟩
        obtain ⟨k1, k2⟩ := k12
        have k1 := k1.symm
        subst k1
        exact ⟨h, rfl⟩
      | some t =>
        obtain ⟨bt_, rfl⟩ := nn_some (by decide) ht
        have bt4 : t = 0 ∨ t = 1 ∨ t = 2 ∨ t = 3 := by omega
        rcases bt4 with rfl | rfl | rfl | rfl
        · refine ⟨trivial, _, m_sheetOf (s := 0) bt_, And.intro (fun σ1 k12 => nomatch k12.2) (fun k σ1 k12 => ?_)⟩
          obtain ⟨k1, k2⟩ := k12
          have k1 := k1.symm
          subst k1
          cases k2
          exact copy_30 h i j n
        · refine ⟨trivial, _, m_sheetOf (s := 1) bt_, And.intro (fun σ1 k12 => nomatch k12.2) (fun k σ1 k12 => ?_)⟩
          obtain ⟨k1, k2⟩ := k12
          have k1 := k1.symm
          subst k1
          cases k2
          exact copy_31 h i j n
        · refine ⟨trivial, _, m_sheetOf (s := 2) bt_, And.intro (fun σ1 k12 => nomatch k12.2) (fun k σ1 k12 => ?_)⟩
          obtain ⟨k1, k2⟩ := k12
          have k1 := k1.symm
          subst k1
          cases k2
          exact copy_32 h i j n
        · refine ⟨trivial, _, m_sheetOf (s := 3) bt_, And.intro (fun σ1 k12 => nomatch k12.2) (fun k σ1 k12 => ?_)⟩
          obtain ⟨k1, k2⟩ := k12
          have k1 := k1.symm
          subst k1
          cases k2
          exact copy_33 h i j n
