/-! read, write, count, copy -/
/-- one by one onto the flickers -/
def rdg (p : PG) : Nat → Nat → AS → Nat × AS
  | 0, c, A => (c, A)
  | k + 1, c, A => if aKn A = 8 then (c, A) else match nn (pit p c) 20 with
    | none => (c, A)
    | some s => rdg p k (c + 1) (sfl A (aKn A + 1) (fun i => if i = aKn A then s else aKa A i))
def do_read (A : AS) (x : Int32) : Int32 × AS := match nn x 4 with
  | none => (bad, A)
  | some s => match aG A s with
    | none => (fnd 1, sfd A 1)
    | some y => (nI (rdg (some y) (psz (some y)) 0 A).1, (rdg (some y) (psz (some y)) 0 A).2)
theorem c_read {σ : qw_M} {A : AS} (h : KC σ A) (x : Int32) : qw_Mt qw_tw wC my_X11_read [.ref 0, .int x] σ (post (do_read A x)) := by
  refine mt_X11_read rfl (ev_X11_read [26] 100 ?_)
  unfold do_read
  cases hs : nn x 4 with
  | none =>
    refine ⟨trivial, _, m_sheetOf0 hs, And.intro (fun σ1 k12 => ?_) (fun k σ1 k12 => nomatch k12.2)⟩
    obtain ⟨k1, k2⟩ := k12
    have k1 := k1.symm
    subst k1
    exact ⟨h, rfl⟩
  | some s =>
    obtain ⟨bs, rfl⟩ := nn_some (by decide) hs
    have bs4 : s = 0 ∨ s = 1 ∨ s = 2 ∨ s = 3 := by omega
    rcases bs4 with rfl | rfl | rfl | rfl
    · refine ⟨trivial, _, m_sheetOf (s := 0) bs, And.intro (fun σ1 k12 => nomatch k12.2) (fun k σ1 k12 => ?_)⟩
      obtain ⟨k1, k2⟩ := k12
      have k1 := k1.symm
      subst k1
      cases k2
      have hp := h.2.2.2.2.1 0 bs
      refine ⟨trivial, _, m_isLost (Or.inl rfl) hp, fun z σ1 _ ⟨k1, k2⟩ => ?_⟩
      have k1 := k1.symm
      subst k1
      cases k2
      dsimp only
      cases hg : aG A 0 with
      | none =>
        refine vf n10 ?_
        refine ⟨trivial, _, m_find (d := 1), fun z σ1 ⟨k1, k2⟩ => ?_⟩
        cases k2
        rw [k1]
        exact ⟨KC_fd h (by decide), rfl⟩
      | some y =>
        refine vt rfl ?_
        have hN := psz_le hp.1
        rw [hg] at hp hN
        have loop : ∀ (m j : Nat) (c : Int32) (A2 : AS) (σ2 : qw_M), j + m = psz (some y) → c = nI j → KC σ2 A2 → pg σ2 43 (some y) → E_X11_read (post (nI (rdg (some y) m j A2).1, (rdg (some y) m j A2).2)) 28 [(0, .ref 0), (1, .int (nI 0)), (2, .ref 43), (3, .int c)] [] σ2 := by
          intro m
          induction m with
          | zero =>
            intro j c A2 σ2 hj hc h2 hp2
            subst hc
            refine ev_X11_read [28, 84] 100 ?_
            refine vt (by rw [hp2.2.2.1]; exact nle _ _ (by omega) (by omega)) ?_
            refine ev_X11_read [] 100 ?_
            exact ⟨h2, rfl⟩
          | succ m ih =>
            intro j c A2 σ2 hj hc h2 hp2
            subst hc
            refine ev_X11_read [28, 84] 100 ?_
            refine vf (by rw [hp2.2.2.1]; exact nnle _ _ (by omega) (by omega)) ?_
            obtain ⟨q1, q2, q3⟩ := h2.2.2.1.2.2.2.1
            refine ⟨trivial, _, m_isFull (k := 19) (N := 8) (by unfold qr_row; omega) q2 q1, fun z σ1 _ ⟨k1, k2⟩ => ?_⟩
            have k1 := k1.symm
            subst k1
            rcases k2 with ⟨c1, k2⟩ | ⟨c1, k2⟩
            · cases k2
              refine vnf rfl ?_
              refine ⟨trivial, _, m_pitem (Or.inl rfl) hp2 (j := j) (by omega), fun z σ1 ⟨k1, k2⟩ => ?_⟩
              have k1 := k1.symm
              subst k1
              cases k2
              refine ⟨trivial, _, m_isBelow _ (n := 20) (by decide), fun z σ1 _ ⟨k1, k2⟩ => ?_⟩
              have k1 := k1.symm
              subst k1
              cases k2
              cases hx : nn (pit (some y) j) 20 with
              | none =>
                refine vt rfl ?_
                refine ev_X11_read [] 100 ?_
                have e : rdg (some y) (m + 1) j A2 = (j, A2) := by
                  show (if aKn A2 = 8 then (j, A2) else match nn (pit (some y) j) 20 with | none => (j, A2) | some s => _) = _
                  rw [if_neg (by omega), hx]
                rw [e]
                exact ⟨h2, rfl⟩
              | some v =>
                obtain ⟨bv, ev⟩ := nn_some (by decide) hx
                refine vf n10 ?_
                refine ⟨trivial, _, m_pitem (Or.inl rfl) hp2 (j := j) (by omega), fun z σ1 ⟨k1, k2⟩ => ?_⟩
                have k1 := k1.symm
                subst k1
                cases k2
                refine ⟨trivial, _, m_add (k := 19) (N := 8) (by unfold qr_row; omega) q2 c1 _, fun z σ1 ⟨k1, k2⟩ => ?_⟩
                cases k2
                rw [ev] at k1
                have e : rdg (some y) (m + 1) j A2 = rdg (some y) m (j + 1) (sfl A2 (aKn A2 + 1) (fun i => if i = aKn A2 then v else aKa A2 i)) := by
                  show (if aKn A2 = 8 then (j, A2) else match nn (pit (some y) j) 20 with | none => (j, A2) | some s => _) = _
                  rw [if_neg (by omega), hx]
                rw [e]
                refine ih (j + 1) _ _ _ (by omega) (nI_add j 1) ?_ ?_
                · rw [k1]
                  exact KC_fl h2 ((fr.pi (by decide)).tr (fr.pi (by decide))) (fk_add h2.2.2.1.2.2.2.1 c1 bv)
                · rw [k1]
                  exact hp2.fr (l := [19, 20]) ((fr.pi (by decide)).tr (fr.pi (by decide))) (by decide) (by decide)
            · cases k2
              refine vnt n10 ?_
              refine ev_X11_read [] 100 ?_
              have e : rdg (some y) (m + 1) j A2 = (j, A2) := if_pos c1
              rw [e]
              exact ⟨h2, rfl⟩
        refine ev_X11_read [28] 100 ?_
        exact loop (psz (some y)) 0 _ A σ (by omega) rfl h hp
    · refine ⟨trivial, _, m_sheetOf (s := 1) bs, And.intro (fun σ1 k12 => nomatch k12.2) (fun k σ1 k12 => ?_)⟩
      obtain ⟨k1, k2⟩ := k12
      have k1 := k1.symm
      subst k1
      cases k2
      have hp := h.2.2.2.2.1 1 bs
      refine ⟨trivial, _, m_isLost (Or.inr (Or.inl rfl)) hp, fun z σ1 _ ⟨k1, k2⟩ => ?_⟩
      have k1 := k1.symm
      subst k1
      cases k2
      dsimp only
      cases hg : aG A 1 with
      | none =>
        refine vf n10 ?_
        refine ⟨trivial, _, m_find (d := 1), fun z σ1 ⟨k1, k2⟩ => ?_⟩
        cases k2
        rw [k1]
        exact ⟨KC_fd h (by decide), rfl⟩
      | some y =>
        refine vt rfl ?_
        have hN := psz_le hp.1
        rw [hg] at hp hN
        have loop : ∀ (m j : Nat) (c : Int32) (A2 : AS) (σ2 : qw_M), j + m = psz (some y) → c = nI j → KC σ2 A2 → pg σ2 44 (some y) → E_X11_read (post (nI (rdg (some y) m j A2).1, (rdg (some y) m j A2).2)) 28 [(0, .ref 0), (1, .int (nI 1)), (2, .ref 44), (3, .int c)] [] σ2 := by
          intro m
          induction m with
          | zero =>
            intro j c A2 σ2 hj hc h2 hp2
            subst hc
            refine ev_X11_read [28, 84] 100 ?_
            refine vt (by rw [hp2.2.2.1]; exact nle _ _ (by omega) (by omega)) ?_
            refine ev_X11_read [] 100 ?_
            exact ⟨h2, rfl⟩
          | succ m ih =>
            intro j c A2 σ2 hj hc h2 hp2
            subst hc
            refine ev_X11_read [28, 84] 100 ?_
            refine vf (by rw [hp2.2.2.1]; exact nnle _ _ (by omega) (by omega)) ?_
            obtain ⟨q1, q2, q3⟩ := h2.2.2.1.2.2.2.1
            refine ⟨trivial, _, m_isFull (k := 19) (N := 8) (by unfold qr_row; omega) q2 q1, fun z σ1 _ ⟨k1, k2⟩ => ?_⟩
            have k1 := k1.symm
            subst k1
            rcases k2 with ⟨c1, k2⟩ | ⟨c1, k2⟩
            · cases k2
              refine vnf rfl ?_
              refine ⟨trivial, _, m_pitem (Or.inr (Or.inl rfl)) hp2 (j := j) (by omega), fun z σ1 ⟨k1, k2⟩ => ?_⟩
              have k1 := k1.symm
              subst k1
              cases k2
              refine ⟨trivial, _, m_isBelow _ (n := 20) (by decide), fun z σ1 _ ⟨k1, k2⟩ => ?_⟩
              have k1 := k1.symm
              subst k1
              cases k2
              cases hx : nn (pit (some y) j) 20 with
              | none =>
                refine vt rfl ?_
                refine ev_X11_read [] 100 ?_
                have e : rdg (some y) (m + 1) j A2 = (j, A2) := by
                  show (if aKn A2 = 8 then (j, A2) else match nn (pit (some y) j) 20 with | none => (j, A2) | some s => _) = _
                  rw [if_neg (by omega), hx]
                rw [e]
                exact ⟨h2, rfl⟩
              | some v =>
                obtain ⟨bv, ev⟩ := nn_some (by decide) hx
                refine vf n10 ?_
                refine ⟨trivial, _, m_pitem (Or.inr (Or.inl rfl)) hp2 (j := j) (by omega), fun z σ1 ⟨k1, k2⟩ => ?_⟩
                have k1 := k1.symm
                subst k1
                cases k2
                refine ⟨trivial, _, m_add (k := 19) (N := 8) (by unfold qr_row; omega) q2 c1 _, fun z σ1 ⟨k1, k2⟩ => ?_⟩
                cases k2
                rw [ev] at k1
                have e : rdg (some y) (m + 1) j A2 = rdg (some y) m (j + 1) (sfl A2 (aKn A2 + 1) (fun i => if i = aKn A2 then v else aKa A2 i)) := by
                  show (if aKn A2 = 8 then (j, A2) else match nn (pit (some y) j) 20 with | none => (j, A2) | some s => _) = _
                  rw [if_neg (by omega), hx]
                rw [e]
                refine ih (j + 1) _ _ _ (by omega) (nI_add j 1) ?_ ?_
                · rw [k1]
                  exact KC_fl h2 ((fr.pi (by decide)).tr (fr.pi (by decide))) (fk_add h2.2.2.1.2.2.2.1 c1 bv)
                · rw [k1]
                  exact hp2.fr (l := [19, 20]) ((fr.pi (by decide)).tr (fr.pi (by decide))) (by decide) (by decide)
            · cases k2
              refine vnt n10 ?_
              refine ev_X11_read [] 100 ?_
              have e : rdg (some y) (m + 1) j A2 = (j, A2) := if_pos c1
              rw [e]
              exact ⟨h2, rfl⟩
        refine ev_X11_read [28] 100 ?_
        exact loop (psz (some y)) 0 _ A σ (by omega) rfl h hp
    · refine ⟨trivial, _, m_sheetOf (s := 2) bs, And.intro (fun σ1 k12 => nomatch k12.2) (fun k σ1 k12 => ?_)⟩
      obtain ⟨k1, k2⟩ := k12
      have k1 := k1.symm
      subst k1
      cases k2
      have hp := h.2.2.2.2.1 2 bs
      refine ⟨trivial, _, m_isLost (Or.inr (Or.inr (Or.inl rfl))) hp, fun z σ1 _ ⟨k1, k2⟩ => ?_⟩
      have k1 := k1.symm
      subst k1
      cases k2
      dsimp only
      cases hg : aG A 2 with
      | none =>
        refine vf n10 ?_
        refine ⟨trivial, _, m_find (d := 1), fun z σ1 ⟨k1, k2⟩ => ?_⟩
        cases k2
        rw [k1]
        exact ⟨KC_fd h (by decide), rfl⟩
      | some y =>
        refine vt rfl ?_
        have hN := psz_le hp.1
        rw [hg] at hp hN
        have loop : ∀ (m j : Nat) (c : Int32) (A2 : AS) (σ2 : qw_M), j + m = psz (some y) → c = nI j → KC σ2 A2 → pg σ2 45 (some y) → E_X11_read (post (nI (rdg (some y) m j A2).1, (rdg (some y) m j A2).2)) 28 [(0, .ref 0), (1, .int (nI 2)), (2, .ref 45), (3, .int c)] [] σ2 := by
          intro m
          induction m with
          | zero =>
            intro j c A2 σ2 hj hc h2 hp2
            subst hc
            refine ev_X11_read [28, 84] 100 ?_
            refine vt (by rw [hp2.2.2.1]; exact nle _ _ (by omega) (by omega)) ?_
            refine ev_X11_read [] 100 ?_
            exact ⟨h2, rfl⟩
          | succ m ih =>
            intro j c A2 σ2 hj hc h2 hp2
            subst hc
            refine ev_X11_read [28, 84] 100 ?_
            refine vf (by rw [hp2.2.2.1]; exact nnle _ _ (by omega) (by omega)) ?_
            obtain ⟨q1, q2, q3⟩ := h2.2.2.1.2.2.2.1
            refine ⟨trivial, _, m_isFull (k := 19) (N := 8) (by unfold qr_row; omega) q2 q1, fun z σ1 _ ⟨k1, k2⟩ => ?_⟩
            have k1 := k1.symm
            subst k1
            rcases k2 with ⟨c1, k2⟩ | ⟨c1, k2⟩
            · cases k2
              refine vnf rfl ?_
              refine ⟨trivial, _, m_pitem (Or.inr (Or.inr (Or.inl rfl))) hp2 (j := j) (by omega), fun z σ1 ⟨k1, k2⟩ => ?_⟩
              have k1 := k1.symm
              subst k1
              cases k2
              refine ⟨trivial, _, m_isBelow _ (n := 20) (by decide), fun z σ1 _ ⟨k1, k2⟩ => ?_⟩
              have k1 := k1.symm
              subst k1
              cases k2
              cases hx : nn (pit (some y) j) 20 with
              | none =>
                refine vt rfl ?_
                refine ev_X11_read [] 100 ?_
                have e : rdg (some y) (m + 1) j A2 = (j, A2) := by
                  show (if aKn A2 = 8 then (j, A2) else match nn (pit (some y) j) 20 with | none => (j, A2) | some s => _) = _
                  rw [if_neg (by omega), hx]
                rw [e]
                exact ⟨h2, rfl⟩
              | some v =>
                obtain ⟨bv, ev⟩ := nn_some (by decide) hx
                refine vf n10 ?_
                refine ⟨trivial, _, m_pitem (Or.inr (Or.inr (Or.inl rfl))) hp2 (j := j) (by omega), fun z σ1 ⟨k1, k2⟩ => ?_⟩
                have k1 := k1.symm
                subst k1
                cases k2
                refine ⟨trivial, _, m_add (k := 19) (N := 8) (by unfold qr_row; omega) q2 c1 _, fun z σ1 ⟨k1, k2⟩ => ?_⟩
                cases k2
                rw [ev] at k1
                have e : rdg (some y) (m + 1) j A2 = rdg (some y) m (j + 1) (sfl A2 (aKn A2 + 1) (fun i => if i = aKn A2 then v else aKa A2 i)) := by
                  show (if aKn A2 = 8 then (j, A2) else match nn (pit (some y) j) 20 with | none => (j, A2) | some s => _) = _
                  rw [if_neg (by omega), hx]
                rw [e]
                refine ih (j + 1) _ _ _ (by omega) (nI_add j 1) ?_ ?_
                · rw [k1]
                  exact KC_fl h2 ((fr.pi (by decide)).tr (fr.pi (by decide))) (fk_add h2.2.2.1.2.2.2.1 c1 bv)
                · rw [k1]
                  exact hp2.fr (l := [19, 20]) ((fr.pi (by decide)).tr (fr.pi (by decide))) (by decide) (by decide)
            · cases k2
              refine vnt n10 ?_
              refine ev_X11_read [] 100 ?_
              have e : rdg (some y) (m + 1) j A2 = (j, A2) := if_pos c1
              rw [e]
              exact ⟨h2, rfl⟩
        refine ev_X11_read [28] 100 ?_
        exact loop (psz (some y)) 0 _ A σ (by omega) rfl h hp
    · refine ⟨trivial, _, m_sheetOf (s := 3) bs, And.intro (fun σ1 k12 => nomatch k12.2) (fun k σ1 k12 => ?_)⟩
      obtain ⟨k1, k2⟩ := k12
      have k1 := k1.symm
      subst k1
      cases k2
      have hp := h.2.2.2.2.1 3 bs
      refine ⟨trivial, _, m_isLost (Or.inr (Or.inr (Or.inr rfl))) hp, fun z σ1 _ ⟨k1, k2⟩ => ?_⟩
      have k1 := k1.symm
      subst k1
      cases k2
      dsimp only
      cases hg : aG A 3 with
      | none =>
        refine vf n10 ?_
        refine ⟨trivial, _, m_find (d := 1), fun z σ1 ⟨k1, k2⟩ => ?_⟩
        cases k2
        rw [k1]
        exact ⟨KC_fd h (by decide), rfl⟩
      | some y =>
        refine vt rfl ?_
        have hN := psz_le hp.1
        rw [hg] at hp hN
        have loop : ∀ (m j : Nat) (c : Int32) (A2 : AS) (σ2 : qw_M), j + m = psz (some y) → c = nI j → KC σ2 A2 → pg σ2 46 (some y) → E_X11_read (post (nI (rdg (some y) m j A2).1, (rdg (some y) m j A2).2)) 28 [(0, .ref 0), (1, .int (nI 3)), (2, .ref 46), (3, .int c)] [] σ2 := by
          intro m
          induction m with
          | zero =>
            intro j c A2 σ2 hj hc h2 hp2
            subst hc
            refine ev_X11_read [28, 84] 100 ?_
            refine vt (by rw [hp2.2.2.1]; exact nle _ _ (by omega) (by omega)) ?_
            refine ev_X11_read [] 100 ?_
            exact ⟨h2, rfl⟩
          | succ m ih =>
            intro j c A2 σ2 hj hc h2 hp2
            subst hc
            refine ev_X11_read [28, 84] 100 ?_
            refine vf (by rw [hp2.2.2.1]; exact nnle _ _ (by omega) (by omega)) ?_
            obtain ⟨q1, q2, q3⟩ := h2.2.2.1.2.2.2.1
            refine ⟨trivial, _, m_isFull (k := 19) (N := 8) (by unfold qr_row; omega) q2 q1, fun z σ1 _ ⟨k1, k2⟩ => ?_⟩
            have k1 := k1.symm
            subst k1
            rcases k2 with ⟨c1, k2⟩ | ⟨c1, k2⟩
            · cases k2
              refine vnf rfl ?_
              refine ⟨trivial, _, m_pitem (Or.inr (Or.inr (Or.inr rfl))) hp2 (j := j) (by omega), fun z σ1 ⟨k1, k2⟩ => ?_⟩
              have k1 := k1.symm
              subst k1
              cases k2
              refine ⟨trivial, _, m_isBelow _ (n := 20) (by decide), fun z σ1 _ ⟨k1, k2⟩ => ?_⟩
              have k1 := k1.symm
              subst k1
              cases k2
              cases hx : nn (pit (some y) j) 20 with
              | none =>
                refine vt rfl ?_
                refine ev_X11_read [] 100 ?_
                have e : rdg (some y) (m + 1) j A2 = (j, A2) := by
                  show (if aKn A2 = 8 then (j, A2) else match nn (pit (some y) j) 20 with | none => (j, A2) | some s => _) = _
                  rw [if_neg (by omega), hx]
                rw [e]
                exact ⟨h2, rfl⟩
              | some v =>
                obtain ⟨bv, ev⟩ := nn_some (by decide) hx
                refine vf n10 ?_
                refine ⟨trivial, _, m_pitem (Or.inr (Or.inr (Or.inr rfl))) hp2 (j := j) (by omega), fun z σ1 ⟨k1, k2⟩ => ?_⟩
                have k1 := k1.symm
                subst k1
                cases k2
                refine ⟨trivial, _, m_add (k := 19) (N := 8) (by unfold qr_row; omega) q2 c1 _, fun z σ1 ⟨k1, k2⟩ => ?_⟩
                cases k2
                rw [ev] at k1
                have e : rdg (some y) (m + 1) j A2 = rdg (some y) m (j + 1) (sfl A2 (aKn A2 + 1) (fun i => if i = aKn A2 then v else aKa A2 i)) := by
                  show (if aKn A2 = 8 then (j, A2) else match nn (pit (some y) j) 20 with | none => (j, A2) | some s => _) = _
                  rw [if_neg (by omega), hx]
                rw [e]
                refine ih (j + 1) _ _ _ (by omega) (nI_add j 1) ?_ ?_
                · rw [k1]
                  exact KC_fl h2 ((fr.pi (by decide)).tr (fr.pi (by decide))) (fk_add h2.2.2.1.2.2.2.1 c1 bv)
                · rw [k1]
                  exact hp2.fr (l := [19, 20]) ((fr.pi (by decide)).tr (fr.pi (by decide))) (by decide) (by decide)
            · cases k2
              refine vnt n10 ?_
              refine ev_X11_read [] 100 ?_
              have e : rdg (some y) (m + 1) j A2 = (j, A2) := if_pos c1
              rw [e]
              exact ⟨h2, rfl⟩
        refine ev_X11_read [28] 100 ?_
        exact loop (psz (some y)) 0 _ A σ (by omega) rfl h hp
/-- the first cells put onto the page -/
def wrp (x : PG) (g : Nat → Nat) : Nat → PG
  | 0 => x
  | k + 1 => pput (wrp x g k) k (nI (g k))
theorem psz_put {x : PG} {j : Nat} {v : Int32} : psz (pput x j v) = psz x := by
  cases x <;> rfl
theorem psz_wrp {x : PG} {g : Nat → Nat} : ∀ k, psz (wrp x g k) = psz x
  | 0 => rfl
  | k + 1 => psz_put.trans (psz_wrp k)
theorem spg2 {A : AS} {s : Nat} {x y : PG} : spg (spg A s x) s y = spg A s y := by
  unfold spg aG
  dsimp only
  congr 6
  funext u
  by_cases e : u = s
  · rw [if_pos e, if_pos e]
  · rw [if_neg e, if_neg e, if_neg e]
theorem spg_id {A : AS} {s : Nat} : spg A s (aG A s) = A := by
  unfold spg
  have : (fun u => if u = s then aG A s else aG A u) = aG A := by
    funext u
    by_cases e : u = s
    · rw [if_pos e, e]
    · rw [if_neg e]
  rw [this]
  rfl
def do_write (A : AS) (x w : Int32) : Int32 × AS := match nn w 4 with
  | none => (bad, A)
  | some s => match nn x 20 with
    | none => (bad, A)
    | some t => match aG A s with
      | none => (fnd 1, sfd A 1)
      | some y => (nI (min (psz (some y)) 32), spg A s (wrp (some y) (lgS (aT A) (aC A) (aKn A) (aKa A) (aL A) t) (min (psz (some y)) 32)))
theorem c_write {σ : qw_M} {A : AS} (h : KC σ A) (x w : Int32) : qw_Mt qw_tw wC my_X11_write [.ref 0, .int x, .int w] σ (post (do_write A x w)) := by
  refine mt_X11_write rfl (ev_X11_write [22] 100 ?_)
  unfold do_write
  cases hs : nn w 4 with
  | none =>
    refine ⟨trivial, _, m_sheetOf0 hs, And.intro (fun σ1 k12 => ?_) (fun k σ1 k12 => nomatch k12.2)⟩
    obtain ⟨k1, k2⟩ := k12
    have k1 := k1.symm
    subst k1
    refine ⟨trivial, _, m_isBelow x (n := 20) (by decide), fun z σ1 _ ⟨k1, k2⟩ => ?_⟩
    have k1 := k1.symm
    subst k1
    cases k2
    cases hx : nn x 20 with
    | none =>
      refine vt rfl ?_
      exact ⟨h, rfl⟩
    | some t =>
      refine vf n10 ?_
      exact ⟨h, rfl⟩
  | some s =>
    obtain ⟨bs, rfl⟩ := nn_some (by decide) hs
    have bs4 : s = 0 ∨ s = 1 ∨ s = 2 ∨ s = 3 := by omega
    rcases bs4 with rfl | rfl | rfl | rfl
    · refine ⟨trivial, _, m_sheetOf (s := 0) bs, And.intro (fun σ1 k12 => nomatch k12.2) (fun k σ1 k12 => ?_)⟩
      obtain ⟨k1, k2⟩ := k12
      have k1 := k1.symm
      subst k1
      cases k2
      have hp := h.2.2.2.2.1 0 bs
      refine ⟨trivial, _, m_isBelow x (n := 20) (by decide), fun z σ1 _ ⟨k1, k2⟩ => ?_⟩
      have k1 := k1.symm
      subst k1
      cases k2
      cases hx : nn x 20 with
      | none =>
        refine vt rfl ?_
        exact ⟨h, rfl⟩
      | some t =>
        obtain ⟨bt_, rfl⟩ := nn_some (by decide) hx
        refine vf n10 ?_
        refine ev_X11_write [35] 100 ?_
        refine ⟨trivial, _, m_isLost (Or.inl rfl) hp, fun z σ1 _ ⟨k1, k2⟩ => ?_⟩
        have k1 := k1.symm
        subst k1
        cases k2
        dsimp only
        cases hg : aG A 0 with
        | none =>
          refine vf n10 ?_
          refine ⟨trivial, _, m_find (d := 1), fun z σ1 ⟨k1, k2⟩ => ?_⟩
          cases k2
          rw [k1]
          exact ⟨KC_fd h (by decide), rfl⟩
        | some y =>
          dsimp only
          refine vt rfl ?_
          have hN := psz_le hp.1
          rw [hg] at hp hN
          refine ev_X11_write [57] 100 ?_
          refine ⟨trivial, _, m_lightUp h.2.2.1 bt_, fun σ1 ⟨f1, h1, _, _, g1⟩ => ?_⟩
          have hp1 : pg σ1 43 (some y) := hp.fr f1 (by unfold scr; decide) (by unfold scr; decide)
          have hK1 := KCfrs h f1 h1
          refine ⟨trivial, _, m_min _ _, fun z σ2 ⟨k1, k2⟩ => ?_⟩
          have k1 := k1.symm
          subst k1
          have k2 : z = nI (min (psz (some y)) 32) := by
            have k2 := Value.int.inj (Option.some.inj k2)
            rw [k2, hp1.2.2.1]
            by_cases q : 32 < psz (some y)
            · rw [if_pos (nlt 32 _ q (by omega))]
              exact congrArg nI (show (32 : Nat) = min (psz (some y)) 32 by omega)
            · rw [if_neg (nnlt 32 _ (by omega) (by omega))]
              exact congrArg nI (by omega)
          subst k2
          generalize hm : min (psz (some y)) 32 = m
          have hm32 : m ≤ 32 ∧ m ≤ psz (some y) := by omega
          have loop : ∀ (k j : Nat) (c : Int32) (σ2 : qw_M), j + k = m → c = nI j → KC σ2 (spg A 0 (wrp (some y) (lgS (aT A) (aC A) (aKn A) (aKa A) (aL A) t) j)) → gl σ2 28 (lgS (aT A) (aC A) (aKn A) (aKa A) (aL A) t) → E_X11_write (post (nI m, spg A 0 (wrp (some y) (lgS (aT A) (aC A) (aKn A) (aKa A) (aL A) t) m))) 57 [(0, .ref 0), (1, .int (nI t)), (2, .int (nI 0)), (3, .ref 43), (4, .int (nI m)), (5, .int c)] [] σ2 := by
            intro k
            induction k with
            | zero =>
              intro j c σ2 hj hc h2 hG
              subst hc
              have : j = m := by omega
              subst this
              refine ev_X11_write [57] 100 ?_
              refine vt (Int32.le_refl _) ?_
              exact ⟨h2, rfl⟩
            | succ k ih =>
              intro j c σ2 hj hc h2 hG
              subst hc
              have hp2 : pg σ2 43 (wrp (some y) (lgS (aT A) (aC A) (aKn A) (aKa A) (aL A) t) j) := by
                have := h2.2.2.2.2.1 0 bs
                exact this
              refine ev_X11_write [57] 100 ?_
              refine vf (nnle m j (by omega) (by omega)) ?_
              refine ⟨trivial, _, m_lightOf (Or.inr (Or.inl rfl)) hG (c := j) (by omega), fun z σ3 ⟨k1, k2⟩ => ?_⟩
              have k1 := k1.symm
              subst k1
              cases k2
              refine ⟨trivial, _, m_pput (Or.inl rfl) hp2 (j := j) (by rw [psz_wrp]; omega) _, fun σ3 ⟨f3, g3⟩ => ?_⟩
              refine ih (j + 1) _ _ (by omega) (nI_add j 1) ?_ (hG.fr f3 (by decide))
              have := KC_pg h2 bs (f3.mo (by simp)) g3
              rw [spg2] at this
              exact this
          exact loop m 0 _ _ (by omega) rfl (by rw [show wrp (some y) (lgS (aT A) (aC A) (aKn A) (aKa A) (aL A) t) 0 = aG A 0 from hg.symm, spg_id]; exact hK1) g1
    · refine ⟨trivial, _, m_sheetOf (s := 1) bs, And.intro (fun σ1 k12 => nomatch k12.2) (fun k σ1 k12 => ?_)⟩
      obtain ⟨k1, k2⟩ := k12
      have k1 := k1.symm
      subst k1
      cases k2
      have hp := h.2.2.2.2.1 1 bs
      refine ⟨trivial, _, m_isBelow x (n := 20) (by decide), fun z σ1 _ ⟨k1, k2⟩ => ?_⟩
      have k1 := k1.symm
      subst k1
      cases k2
      cases hx : nn x 20 with
      | none =>
        refine vt rfl ?_
        exact ⟨h, rfl⟩
      | some t =>
        obtain ⟨bt_, rfl⟩ := nn_some (by decide) hx
        refine vf n10 ?_
        refine ev_X11_write [35] 100 ?_
        refine ⟨trivial, _, m_isLost (Or.inr (Or.inl rfl)) hp, fun z σ1 _ ⟨k1, k2⟩ => ?_⟩
        have k1 := k1.symm
        subst k1
        cases k2
        dsimp only
        cases hg : aG A 1 with
        | none =>
          refine vf n10 ?_
          refine ⟨trivial, _, m_find (d := 1), fun z σ1 ⟨k1, k2⟩ => ?_⟩
          cases k2
          rw [k1]
          exact ⟨KC_fd h (by decide), rfl⟩
        | some y =>
          dsimp only
          refine vt rfl ?_
          have hN := psz_le hp.1
          rw [hg] at hp hN
          refine ev_X11_write [57] 100 ?_
          refine ⟨trivial, _, m_lightUp h.2.2.1 bt_, fun σ1 ⟨f1, h1, _, _, g1⟩ => ?_⟩
          have hp1 : pg σ1 44 (some y) := hp.fr f1 (by unfold scr; decide) (by unfold scr; decide)
          have hK1 := KCfrs h f1 h1
          refine ⟨trivial, _, m_min _ _, fun z σ2 ⟨k1, k2⟩ => ?_⟩
          have k1 := k1.symm
          subst k1
          have k2 : z = nI (min (psz (some y)) 32) := by
            have k2 := Value.int.inj (Option.some.inj k2)
            rw [k2, hp1.2.2.1]
            by_cases q : 32 < psz (some y)
            · rw [if_pos (nlt 32 _ q (by omega))]
              exact congrArg nI (show (32 : Nat) = min (psz (some y)) 32 by omega)
            · rw [if_neg (nnlt 32 _ (by omega) (by omega))]
              exact congrArg nI (by omega)
          subst k2
          generalize hm : min (psz (some y)) 32 = m
          have hm32 : m ≤ 32 ∧ m ≤ psz (some y) := by omega
          have loop : ∀ (k j : Nat) (c : Int32) (σ2 : qw_M), j + k = m → c = nI j → KC σ2 (spg A 1 (wrp (some y) (lgS (aT A) (aC A) (aKn A) (aKa A) (aL A) t) j)) → gl σ2 28 (lgS (aT A) (aC A) (aKn A) (aKa A) (aL A) t) → E_X11_write (post (nI m, spg A 1 (wrp (some y) (lgS (aT A) (aC A) (aKn A) (aKa A) (aL A) t) m))) 57 [(0, .ref 0), (1, .int (nI t)), (2, .int (nI 1)), (3, .ref 44), (4, .int (nI m)), (5, .int c)] [] σ2 := by
            intro k
            induction k with
            | zero =>
              intro j c σ2 hj hc h2 hG
              subst hc
              have : j = m := by omega
              subst this
              refine ev_X11_write [57] 100 ?_
              refine vt (Int32.le_refl _) ?_
              exact ⟨h2, rfl⟩
            | succ k ih =>
              intro j c σ2 hj hc h2 hG
              subst hc
              have hp2 : pg σ2 44 (wrp (some y) (lgS (aT A) (aC A) (aKn A) (aKa A) (aL A) t) j) := by
                have := h2.2.2.2.2.1 1 bs
                exact this
              refine ev_X11_write [57] 100 ?_
              refine vf (nnle m j (by omega) (by omega)) ?_
              refine ⟨trivial, _, m_lightOf (Or.inr (Or.inl rfl)) hG (c := j) (by omega), fun z σ3 ⟨k1, k2⟩ => ?_⟩
              have k1 := k1.symm
              subst k1
              cases k2
              refine ⟨trivial, _, m_pput (Or.inr (Or.inl rfl)) hp2 (j := j) (by rw [psz_wrp]; omega) _, fun σ3 ⟨f3, g3⟩ => ?_⟩
              refine ih (j + 1) _ _ (by omega) (nI_add j 1) ?_ (hG.fr f3 (by decide))
              have := KC_pg h2 bs (f3.mo (by simp)) g3
              rw [spg2] at this
              exact this
          exact loop m 0 _ _ (by omega) rfl (by rw [show wrp (some y) (lgS (aT A) (aC A) (aKn A) (aKa A) (aL A) t) 0 = aG A 1 from hg.symm, spg_id]; exact hK1) g1
    · refine ⟨trivial, _, m_sheetOf (s := 2) bs, And.intro (fun σ1 k12 => nomatch k12.2) (fun k σ1 k12 => ?_)⟩
      obtain ⟨k1, k2⟩ := k12
      have k1 := k1.symm
      subst k1
      cases k2
      have hp := h.2.2.2.2.1 2 bs
      refine ⟨trivial, _, m_isBelow x (n := 20) (by decide), fun z σ1 _ ⟨k1, k2⟩ => ?_⟩
      have k1 := k1.symm
      subst k1
      cases k2
      cases hx : nn x 20 with
      | none =>
        refine vt rfl ?_
        exact ⟨h, rfl⟩
      | some t =>
        obtain ⟨bt_, rfl⟩ := nn_some (by decide) hx
        refine vf n10 ?_
        refine ev_X11_write [35] 100 ?_
        refine ⟨trivial, _, m_isLost (Or.inr (Or.inr (Or.inl rfl))) hp, fun z σ1 _ ⟨k1, k2⟩ => ?_⟩
        have k1 := k1.symm
        subst k1
        cases k2
        dsimp only
        cases hg : aG A 2 with
        | none =>
          refine vf n10 ?_
          refine ⟨trivial, _, m_find (d := 1), fun z σ1 ⟨k1, k2⟩ => ?_⟩
          cases k2
          rw [k1]
          exact ⟨KC_fd h (by decide), rfl⟩
        | some y =>
          dsimp only
          refine vt rfl ?_
          have hN := psz_le hp.1
          rw [hg] at hp hN
          refine ev_X11_write [57] 100 ?_
          refine ⟨trivial, _, m_lightUp h.2.2.1 bt_, fun σ1 ⟨f1, h1, _, _, g1⟩ => ?_⟩
          have hp1 : pg σ1 45 (some y) := hp.fr f1 (by unfold scr; decide) (by unfold scr; decide)
          have hK1 := KCfrs h f1 h1
          refine ⟨trivial, _, m_min _ _, fun z σ2 ⟨k1, k2⟩ => ?_⟩
          have k1 := k1.symm
          subst k1
          have k2 : z = nI (min (psz (some y)) 32) := by
            have k2 := Value.int.inj (Option.some.inj k2)
            rw [k2, hp1.2.2.1]
            by_cases q : 32 < psz (some y)
            · rw [if_pos (nlt 32 _ q (by omega))]
              exact congrArg nI (show (32 : Nat) = min (psz (some y)) 32 by omega)
            · rw [if_neg (nnlt 32 _ (by omega) (by omega))]
              exact congrArg nI (by omega)
          subst k2
          generalize hm : min (psz (some y)) 32 = m
          have hm32 : m ≤ 32 ∧ m ≤ psz (some y) := by omega
          have loop : ∀ (k j : Nat) (c : Int32) (σ2 : qw_M), j + k = m → c = nI j → KC σ2 (spg A 2 (wrp (some y) (lgS (aT A) (aC A) (aKn A) (aKa A) (aL A) t) j)) → gl σ2 28 (lgS (aT A) (aC A) (aKn A) (aKa A) (aL A) t) → E_X11_write (post (nI m, spg A 2 (wrp (some y) (lgS (aT A) (aC A) (aKn A) (aKa A) (aL A) t) m))) 57 [(0, .ref 0), (1, .int (nI t)), (2, .int (nI 2)), (3, .ref 45), (4, .int (nI m)), (5, .int c)] [] σ2 := by
            intro k
            induction k with
            | zero =>
              intro j c σ2 hj hc h2 hG
              subst hc
              have : j = m := by omega
              subst this
              refine ev_X11_write [57] 100 ?_
              refine vt (Int32.le_refl _) ?_
              exact ⟨h2, rfl⟩
            | succ k ih =>
              intro j c σ2 hj hc h2 hG
              subst hc
              have hp2 : pg σ2 45 (wrp (some y) (lgS (aT A) (aC A) (aKn A) (aKa A) (aL A) t) j) := by
                have := h2.2.2.2.2.1 2 bs
                exact this
              refine ev_X11_write [57] 100 ?_
              refine vf (nnle m j (by omega) (by omega)) ?_
              refine ⟨trivial, _, m_lightOf (Or.inr (Or.inl rfl)) hG (c := j) (by omega), fun z σ3 ⟨k1, k2⟩ => ?_⟩
              have k1 := k1.symm
              subst k1
              cases k2
              refine ⟨trivial, _, m_pput (Or.inr (Or.inr (Or.inl rfl))) hp2 (j := j) (by rw [psz_wrp]; omega) _, fun σ3 ⟨f3, g3⟩ => ?_⟩
              refine ih (j + 1) _ _ (by omega) (nI_add j 1) ?_ (hG.fr f3 (by decide))
              have := KC_pg h2 bs (f3.mo (by simp)) g3
              rw [spg2] at this
              exact this
          exact loop m 0 _ _ (by omega) rfl (by rw [show wrp (some y) (lgS (aT A) (aC A) (aKn A) (aKa A) (aL A) t) 0 = aG A 2 from hg.symm, spg_id]; exact hK1) g1
    · refine ⟨trivial, _, m_sheetOf (s := 3) bs, And.intro (fun σ1 k12 => nomatch k12.2) (fun k σ1 k12 => ?_)⟩
      obtain ⟨k1, k2⟩ := k12
      have k1 := k1.symm
      subst k1
      cases k2
      have hp := h.2.2.2.2.1 3 bs
      refine ⟨trivial, _, m_isBelow x (n := 20) (by decide), fun z σ1 _ ⟨k1, k2⟩ => ?_⟩
      have k1 := k1.symm
      subst k1
      cases k2
      cases hx : nn x 20 with
      | none =>
        refine vt rfl ?_
        exact ⟨h, rfl⟩
      | some t =>
        obtain ⟨bt_, rfl⟩ := nn_some (by decide) hx
        refine vf n10 ?_
        refine ev_X11_write [35] 100 ?_
        refine ⟨trivial, _, m_isLost (Or.inr (Or.inr (Or.inr rfl))) hp, fun z σ1 _ ⟨k1, k2⟩ => ?_⟩
        have k1 := k1.symm
        subst k1
        cases k2
        dsimp only
        cases hg : aG A 3 with
        | none =>
          refine vf n10 ?_
          refine ⟨trivial, _, m_find (d := 1), fun z σ1 ⟨k1, k2⟩ => ?_⟩
          cases k2
          rw [k1]
          exact ⟨KC_fd h (by decide), rfl⟩
        | some y =>
          dsimp only
          refine vt rfl ?_
          have hN := psz_le hp.1
          rw [hg] at hp hN
          refine ev_X11_write [57] 100 ?_
          refine ⟨trivial, _, m_lightUp h.2.2.1 bt_, fun σ1 ⟨f1, h1, _, _, g1⟩ => ?_⟩
          have hp1 : pg σ1 46 (some y) := hp.fr f1 (by unfold scr; decide) (by unfold scr; decide)
          have hK1 := KCfrs h f1 h1
          refine ⟨trivial, _, m_min _ _, fun z σ2 ⟨k1, k2⟩ => ?_⟩
          have k1 := k1.symm
          subst k1
          have k2 : z = nI (min (psz (some y)) 32) := by
            have k2 := Value.int.inj (Option.some.inj k2)
            rw [k2, hp1.2.2.1]
            by_cases q : 32 < psz (some y)
            · rw [if_pos (nlt 32 _ q (by omega))]
              exact congrArg nI (show (32 : Nat) = min (psz (some y)) 32 by omega)
            · rw [if_neg (nnlt 32 _ (by omega) (by omega))]
              exact congrArg nI (by omega)
          subst k2
          generalize hm : min (psz (some y)) 32 = m
          have hm32 : m ≤ 32 ∧ m ≤ psz (some y) := by omega
          have loop : ∀ (k j : Nat) (c : Int32) (σ2 : qw_M), j + k = m → c = nI j → KC σ2 (spg A 3 (wrp (some y) (lgS (aT A) (aC A) (aKn A) (aKa A) (aL A) t) j)) → gl σ2 28 (lgS (aT A) (aC A) (aKn A) (aKa A) (aL A) t) → E_X11_write (post (nI m, spg A 3 (wrp (some y) (lgS (aT A) (aC A) (aKn A) (aKa A) (aL A) t) m))) 57 [(0, .ref 0), (1, .int (nI t)), (2, .int (nI 3)), (3, .ref 46), (4, .int (nI m)), (5, .int c)] [] σ2 := by
            intro k
            induction k with
            | zero =>
              intro j c σ2 hj hc h2 hG
              subst hc
              have : j = m := by omega
              subst this
              refine ev_X11_write [57] 100 ?_
              refine vt (Int32.le_refl _) ?_
              exact ⟨h2, rfl⟩
            | succ k ih =>
              intro j c σ2 hj hc h2 hG
              subst hc
              have hp2 : pg σ2 46 (wrp (some y) (lgS (aT A) (aC A) (aKn A) (aKa A) (aL A) t) j) := by
                have := h2.2.2.2.2.1 3 bs
                exact this
              refine ev_X11_write [57] 100 ?_
              refine vf (nnle m j (by omega) (by omega)) ?_
              refine ⟨trivial, _, m_lightOf (Or.inr (Or.inl rfl)) hG (c := j) (by omega), fun z σ3 ⟨k1, k2⟩ => ?_⟩
              have k1 := k1.symm
              subst k1
              cases k2
              refine ⟨trivial, _, m_pput (Or.inr (Or.inr (Or.inr rfl))) hp2 (j := j) (by rw [psz_wrp]; omega) _, fun σ3 ⟨f3, g3⟩ => ?_⟩
              refine ih (j + 1) _ _ (by omega) (nI_add j 1) ?_ (hG.fr f3 (by decide))
              have := KC_pg h2 bs (f3.mo (by simp)) g3
              rw [spg2] at this
              exact this
          exact loop m 0 _ _ (by omega) rfl (by rw [show wrp (some y) (lgS (aT A) (aC A) (aKn A) (aKa A) (aL A) t) 0 = aG A 3 from hg.symm, spg_id]; exact hK1) g1
def do_count (A : AS) (x : Int32) : Int32 := match nn x 9 with
  | none => bad
  | some t => match t with
    | 0 => nI (tF (aT A))
    | 1 => nI (cnt (fun s => (aC A s).isSome) 32)
    | 2 => nI (cnt (fun c => (aP A c).isSome) 32)
    | 3 => nI (aN A 0)
    | 4 => nI (aN A 1)
    | 5 => nI (aN A 2)
    | 6 => nI (aKn A)
    | 7 => nI (aSn A)
    | _ => nI (aFd A)
theorem c_count {σ : qw_M} {A : AS} (h : KC σ A) (x : Int32) : qw_Mt qw_tw wC my_X11_count [.ref 0, .int x] σ (post (do_count A x, A)) := by
  refine mt_X11_count rfl (ev_X11_count [] 100 ?_)
  unfold do_count
  cases hx : nn x 9 with
  | none =>
    have hno := nn_none (by decide) hx
    refine And.intro (fun _ => ⟨h, rfl⟩) (And.intro (by decide) (And.intro (fun e => absurd (ti_eq (j := 0) (by decide) e) (hno 0 (by decide))) (And.intro (fun e => absurd (ti_eq (j := 1) (by decide) e) (hno 1 (by decide))) (And.intro (fun e => absurd (ti_eq (j := 2) (by decide) e) (hno 2 (by decide))) (And.intro (fun e => absurd (ti_eq (j := 3) (by decide) e) (hno 3 (by decide))) (And.intro (fun e => absurd (ti_eq (j := 4) (by decide) e) (hno 4 (by decide))) (And.intro (fun e => absurd (ti_eq (j := 5) (by decide) e) (hno 5 (by decide))) (And.intro (fun e => absurd (ti_eq (j := 6) (by decide) e) (hno 6 (by decide))) (And.intro (fun e => absurd (ti_eq (j := 7) (by decide) e) (hno 7 (by decide))) (And.intro (fun e => absurd (ti_eq (j := 8) (by decide) e) (hno 8 (by decide))) trivial))))))))))
  | some t =>
    obtain ⟨bt_, rfl⟩ := nn_some (by decide) hx
    have bt9 : t = 0 ∨ t = 1 ∨ t = 2 ∨ t = 3 ∨ t = 4 ∨ t = 5 ∨ t = 6 ∨ t = 7 ∨ t = 8 := by omega
    rcases bt9 with rfl | rfl | rfl | rfl | rfl | rfl | rfl | rfl | rfl
    · refine And.intro (fun e => absurd e (by decide)) (And.intro (by decide) (And.intro (fun e => ?_) (And.intro (fun e => absurd e (by decide)) (And.intro (fun e => absurd e (by decide)) (And.intro (fun e => absurd e (by decide)) (And.intro (fun e => absurd e (by decide)) (And.intro (fun e => absurd e (by decide)) (And.intro (fun e => absurd e (by decide)) (And.intro (fun e => absurd e (by decide)) (And.intro (fun e => absurd e (by decide)) trivial))))))))))
      exact ⟨h, congrArg (fun z => some (Value.int z)) h.2.2.1.1.2.1⟩
    · refine And.intro (fun e => absurd e (by decide)) (And.intro (by decide) (And.intro (fun e => absurd e (by decide)) (And.intro (fun e => ?_) (And.intro (fun e => absurd e (by decide)) (And.intro (fun e => absurd e (by decide)) (And.intro (fun e => absurd e (by decide)) (And.intro (fun e => absurd e (by decide)) (And.intro (fun e => absurd e (by decide)) (And.intro (fun e => absurd e (by decide)) (And.intro (fun e => absurd e (by decide)) trivial))))))))))
      refine ⟨trivial, _, m_steps h.2.2.1.2.1, fun z σ1 ⟨k1, y, k2, hy⟩ => ?_⟩
      have k1 := k1.symm
      subst k1
      cases k2
      refine ⟨trivial, _, m_bitCount _, fun z σ1 ⟨k1, k2⟩ => ?_⟩
      have k1 := k1.symm
      subst k1
      cases k2
      rw [cnt_congr hy]
      exact ⟨h, rfl⟩
    · refine And.intro (fun e => absurd e (by decide)) (And.intro (by decide) (And.intro (fun e => absurd e (by decide)) (And.intro (fun e => absurd e (by decide)) (And.intro (fun e => ?_) (And.intro (fun e => absurd e (by decide)) (And.intro (fun e => absurd e (by decide)) (And.intro (fun e => absurd e (by decide)) (And.intro (fun e => absurd e (by decide)) (And.intro (fun e => absurd e (by decide)) (And.intro (fun e => absurd e (by decide)) trivial))))))))))
      obtain ⟨W, g1, g2⟩ := h.2.2.1.2.2.1
      refine ⟨trivial, _, m_bitCount _, fun z σ1 ⟨k1, k2⟩ => ?_⟩
      have k1 := k1.symm
      subst k1
      cases k2
      rw [cnt_congr (fun c hc => (g2 c hc).1)]
      exact ⟨h, rfl⟩
    · refine And.intro (fun e => absurd e (by decide)) (And.intro (by decide) (And.intro (fun e => absurd e (by decide)) (And.intro (fun e => absurd e (by decide)) (And.intro (fun e => absurd e (by decide)) (And.intro (fun e => ?_) (And.intro (fun e => absurd e (by decide)) (And.intro (fun e => absurd e (by decide)) (And.intro (fun e => absurd e (by decide)) (And.intro (fun e => absurd e (by decide)) (And.intro (fun e => absurd e (by decide)) trivial))))))))))
      exact ⟨h, congrArg (fun z => some (Value.int z)) (h.1 0 (by decide)).2.1⟩
    · refine And.intro (fun e => absurd e (by decide)) (And.intro (by decide) (And.intro (fun e => absurd e (by decide)) (And.intro (fun e => absurd e (by decide)) (And.intro (fun e => absurd e (by decide)) (And.intro (fun e => absurd e (by decide)) (And.intro (fun e => ?_) (And.intro (fun e => absurd e (by decide)) (And.intro (fun e => absurd e (by decide)) (And.intro (fun e => absurd e (by decide)) (And.intro (fun e => absurd e (by decide)) trivial))))))))))
      exact ⟨h, congrArg (fun z => some (Value.int z)) (h.1 1 (by decide)).2.1⟩
    · refine And.intro (fun e => absurd e (by decide)) (And.intro (by decide) (And.intro (fun e => absurd e (by decide)) (And.intro (fun e => absurd e (by decide)) (And.intro (fun e => absurd e (by decide)) (And.intro (fun e => absurd e (by decide)) (And.intro (fun e => absurd e (by decide)) (And.intro (fun e => ?_) (And.intro (fun e => absurd e (by decide)) (And.intro (fun e => absurd e (by decide)) (And.intro (fun e => absurd e (by decide)) trivial))))))))))
      exact ⟨h, congrArg (fun z => some (Value.int z)) (h.1 2 (by decide)).2.1⟩
    · refine And.intro (fun e => absurd e (by decide)) (And.intro (by decide) (And.intro (fun e => absurd e (by decide)) (And.intro (fun e => absurd e (by decide)) (And.intro (fun e => absurd e (by decide)) (And.intro (fun e => absurd e (by decide)) (And.intro (fun e => absurd e (by decide)) (And.intro (fun e => absurd e (by decide)) (And.intro (fun e => ?_) (And.intro (fun e => absurd e (by decide)) (And.intro (fun e => absurd e (by decide)) trivial))))))))))
      exact ⟨h, congrArg (fun z => some (Value.int z)) h.2.2.1.2.2.2.1.2.1⟩
    · refine And.intro (fun e => absurd e (by decide)) (And.intro (by decide) (And.intro (fun e => absurd e (by decide)) (And.intro (fun e => absurd e (by decide)) (And.intro (fun e => absurd e (by decide)) (And.intro (fun e => absurd e (by decide)) (And.intro (fun e => absurd e (by decide)) (And.intro (fun e => absurd e (by decide)) (And.intro (fun e => absurd e (by decide)) (And.intro (fun e => ?_) (And.intro (fun e => absurd e (by decide)) trivial))))))))))
      exact ⟨h, congrArg (fun z => some (Value.int z)) h.2.2.2.1.2.1⟩
    · refine And.intro (fun e => absurd e (by decide)) (And.intro (by decide) (And.intro (fun e => absurd e (by decide)) (And.intro (fun e => absurd e (by decide)) (And.intro (fun e => absurd e (by decide)) (And.intro (fun e => absurd e (by decide)) (And.intro (fun e => absurd e (by decide)) (And.intro (fun e => absurd e (by decide)) (And.intro (fun e => absurd e (by decide)) (And.intro (fun e => absurd e (by decide)) (And.intro (fun e => ?_) trivial))))))))))
      exact ⟨h, congrArg (fun z => some (Value.int z)) h.2.2.2.2.2.1⟩
