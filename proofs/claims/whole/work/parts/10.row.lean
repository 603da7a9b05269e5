/-! helpers: branches, calls, what a method leaves as it was -/
theorem vt {c a b : Prop} (h : c) (k : a) : qw_br c a b := ⟨fun _ => k, fun n => absurd h n⟩
theorem vf {c a b : Prop} (h : ¬ c) (k : b) : qw_br c a b := ⟨fun n => absurd n h, fun _ => k⟩
theorem vb {c a b : Prop} (k : c → a) (j : ¬ c → b) : qw_br c a b := ⟨k, j⟩
theorem vnt {c a b : Prop} (h : ¬ c) (k : a) : qw_nb c a b := ⟨fun _ => k, fun n => absurd n h⟩
theorem vnf {c a b : Prop} (h : c) (k : b) : qw_nb c a b := ⟨fun n => absurd h n, fun _ => k⟩
theorem vnb {c a b : Prop} (k : ¬ c → a) (j : c → b) : qw_nb c a b := ⟨k, j⟩
theorem nle (a b : Nat) (h : a ≤ b) (hb : b < 2 ^ 31) : nI a ≤ nI b := nI_le h hb
theorem nnle (a b : Nat) (h : b < a) (ha : a < 2 ^ 31) : ¬ nI a ≤ nI b := nI_ge h ha
theorem nlt (a b : Nat) (h : a < b) (hb : b < 2 ^ 31) : nI a < nI b := nI_lt h hb
theorem nnlt (a b : Nat) (h : b ≤ a) (ha : a < 2 ^ 31) : ¬ nI a < nI b := nI_nlt h ha
theorem neq (a b : Nat) (h : a = b) : nI a = nI b := by rw [h]
theorem nne (a b : Nat) (h : a ≠ b) (ha : a < 2 ^ 31) (hb : b < 2 ^ 31) : ¬ nI a = nI b := fun e => h ((nI_eq ha hb).mp e)
theorem nin (a N : Nat) (h : a < N) (hN : N < 2 ^ 31) : vp_in (nI a) N := vp_in_nI h hN
/-- cells that stay -/
def fr (l : List Nat) (σ σ' : qw_M) : Prop := ∀ k, k ∉ l → σ' k = σ k
theorem fr.rf {l : List Nat} {σ : qw_M} : fr l σ σ := fun _ _ => rfl
theorem fr.tr {l : List Nat} {σ σ' σ2 : qw_M} (h : fr l σ σ') (h2 : fr l σ' σ2) : fr l σ σ2 := fun k hk => (h2 k hk).trans (h k hk)
theorem fr.mo {l l2 : List Nat} {σ σ' : qw_M} (h : fr l σ σ') (hs : ∀ k ∈ l, k ∈ l2) : fr l2 σ σ' := fun k hk => h k (fun z => hk (hs k z))
theorem fr.pi {l : List Nat} {σ : qw_M} {k j : Nat} {x : Int32} (hk : k ∈ l) : fr l σ (qw_pi σ k j x) := fun q hq => by
  unfold qw_pi qw_up
  exact if_neg (fun e : q = k => hq (by rw [e]; exact hk))
theorem fr.pl {l : List Nat} {σ : qw_M} {k j : Nat} {x : Int64} (hk : k ∈ l) : fr l σ (qw_pl σ k j x) := fun q hq => by
  unfold qw_pl qw_up
  exact if_neg (fun e : q = k => hq (by rw [e]; exact hk))
theorem pi_eq {σ : qw_M} {k j : Nat} {x : Int32} : (qw_pi σ k j x k).1 j = x := by simp [qw_pi, qw_up, upd]
theorem pi_ne {σ : qw_M} {k j q : Nat} {x : Int32} (h : q ≠ j) : (qw_pi σ k j x k).1 q = (σ k).1 q := by simp [qw_pi, qw_up, upd, h]
theorem pi_off {σ : qw_M} {k j c : Nat} {x : Int32} (h : c ≠ k) : qw_pi σ k j x c = σ c := by simp [qw_pi, qw_up, h]
theorem pi_at {σ : qw_M} {k j q : Nat} {x : Int32} : (qw_pi σ k j x k).1 q = if q = j then x else (σ k).1 q := by simp [qw_pi, qw_up, upd]
/-- a judgement may say less -/
theorem mt_mono {tw : List Cond} {w : qw_Wd} {Y : qw_Y} {av : List Value} {σ : qw_M} {Q Q2 : Option Value → qw_M → Prop} (h : qw_Mt tw w Y av σ Q) (hq : ∀ r σ', Q r σ' → Q2 r σ') : qw_Mt tw w Y av σ Q2 := by
  intro l g hI p e ha hc hk s m args below hf happ hP hK
  obtain ⟨k, o, h1, h2, h3, hQ⟩ := h l g hI p e ha hc hk s m args below hf happ hP hK
  exact ⟨k, o, h1, h2, h3, qw_Z.mono hq hQ.1, hQ.2⟩
/-! Row: five of them, each with its array behind it -/
def qr_row (k N : Nat) : Prop := (k = 1 ∧ N = 87) ∨ (k = 3 ∧ N = 40) ∨ (k = 5 ∧ N = 32) ∨ (k = 19 ∧ N = 8) ∨ (k = 35 ∧ N = 8)
theorem qr_cap {k N : Nat} (h : qr_row k N) : 8 ≤ N ∧ N ≤ 87 := by unfold qr_row at h; omega
/-- item: what lies there, -1 elsewhere -/
theorem m_item {k N n : Nat} (hk : qr_row k N) {σ : qw_M} (hn : (σ k).1 1 = nI n) (hN : n ≤ N) (i : Int32) : qw_Mt qw_tw wC my_X5_item [.ref k, .int i] σ (fun r σ' => σ' = σ ∧ ((∃ j, j < n ∧ i = nI j ∧ r = some (.int ((σ (k + 1)).1 j))) ∨ ((∀ j, j < n → i ≠ nI j) ∧ r = some (.int (-1))))) := by
  have hc := qr_cap hk
  rcases hk with ⟨rfl, rfl⟩ | ⟨rfl, rfl⟩ | ⟨rfl, rfl⟩ | ⟨rfl, rfl⟩ | ⟨rfl, rfl⟩
  all_goals
    refine mt_X5_item rfl (ev_X5_item [] 100 ?_)
    refine vb (fun a => ?_) (fun a => ?_)
    · exact ⟨rfl, Or.inr ⟨fun j hj e => by subst e; exact nI_pos (by omega) a, rfl⟩⟩
    · refine vb (fun b => ?_) (fun b => ?_)
      · rw [hn] at b
        exact ⟨rfl, Or.inr ⟨fun j hj e => by subst e; exact nI_ge hj (by omega) b, rfl⟩⟩
      · rw [hn] at b
        obtain ⟨j, hj, rfl⟩ := nI_of a
        have hjn : j < n := by
          rcases Nat.lt_or_ge j n with q | q
          · exact q
          · exact absurd (nI_le q hj) b
        refine vf (nI_ge (a := j) (by omega) (by decide)) ?_
        refine And.intro (vp_in_nI (by omega) (by decide)) ?_
        refine ⟨rfl, Or.inl ⟨j, hjn, rfl, ?_⟩⟩
        rw [nI_clamp (by omega)]
theorem m_isFull {k N n : Nat} (hk : qr_row k N) {σ : qw_M} (hn : (σ k).1 1 = nI n) (hN : n ≤ N) : qw_Mt qw_tw wC my_X5_isFull [.ref k] σ (fun r σ' => σ' = σ ∧ ((n < N ∧ r = some (.int 0)) ∨ (n = N ∧ r = some (.int 1)))) := by
  have hc := qr_cap hk
  rcases hk with ⟨rfl, rfl⟩ | ⟨rfl, rfl⟩ | ⟨rfl, rfl⟩ | ⟨rfl, rfl⟩ | ⟨rfl, rfl⟩
  all_goals
    refine mt_X5_isFull rfl (ev_X5_isFull [] 100 ?_)
    refine vb (fun a => ?_) (fun a => ?_)
    · rw [hn, nI_ltI (by omega) (by omega)] at a
      exact ⟨Or.inl rfl, rfl, Or.inl ⟨a, rfl⟩⟩
    · rw [hn, nI_ltI (by omega) (by omega)] at a
      exact ⟨Or.inr rfl, rfl, Or.inr ⟨by omega, rfl⟩⟩
theorem m_add {k N n : Nat} (hk : qr_row k N) {σ : qw_M} (hn : (σ k).1 1 = nI n) (hN : n < N) (x : Int32) : qw_Mt qw_tw wC my_X5_add [.ref k, .int x] σ (fun r σ' => σ' = qw_pi (qw_pi σ (k + 1) n x) k 1 (nI (n + 1)) ∧ r = some (.int (nI (n + 1)))) := by
  have hc := qr_cap hk
  rcases hk with ⟨rfl, rfl⟩ | ⟨rfl, rfl⟩ | ⟨rfl, rfl⟩ | ⟨rfl, rfl⟩ | ⟨rfl, rfl⟩
  all_goals
    refine mt_X5_add rfl (ev_X5_add [] 100 ?_)
    refine vf (by rw [hn]; exact nI_pos (by omega)) ?_
    refine vf (by rw [hn]; exact nI_ge hN (by decide)) ?_
    refine And.intro (by rw [hn]; exact vp_in_nI hN (by decide)) ?_
    have e : nI n + nI 1 = nI (n + 1) := nI_add n 1
    rw [← hn] at e
    refine ⟨?_, ?_⟩
    · show qw_pi (qw_pi σ _ ((σ _).1 1).toNatClampNeg x) _ 1 ((σ _).1 1 + nI 1) = _
      rw [e, hn, nI_clamp (by omega)]
    · show some (Value.int ((σ _).1 1 + nI 1)) = _
      rw [e]
theorem m_drop {k N n : Nat} (hk : qr_row k N) {σ : qw_M} (hn : (σ k).1 1 = nI n) (hN : n ≤ N) : qw_Mt qw_tw wC my_X5_drop [.ref k] σ (fun r σ' => (n = 0 ∧ σ' = σ ∧ r = some (.int (nI 0))) ∨ (∃ j, n = j + 1 ∧ σ' = qw_pi σ k 1 (nI j) ∧ r = some (.int (nI j)))) := by
  have hc := qr_cap hk
  rcases hk with ⟨rfl, rfl⟩ | ⟨rfl, rfl⟩ | ⟨rfl, rfl⟩ | ⟨rfl, rfl⟩ | ⟨rfl, rfl⟩
  all_goals
    refine mt_X5_drop rfl (ev_X5_drop [] 100 ?_)
    cases n with
    | zero =>
      refine vt (by rw [hn]; exact Int32.le_refl _) ?_
      refine Or.inl ⟨rfl, rfl, ?_⟩
      rw [hn]
    | succ j =>
      refine vf (by rw [hn]; exact nI_nle (by omega) (by omega)) ?_
      have e : nI (j + 1) - nI 1 = nI j := nI_pred j
      rw [← hn] at e
      refine Or.inr ⟨j, rfl, ?_, ?_⟩
      · show qw_pi σ _ 1 ((σ _).1 1 - nI 1) = _
        rw [e]
      · show some (Value.int ((σ _).1 1 - nI 1)) = _
        rw [e]
theorem m_clear {k N n : Nat} (hk : qr_row k N) {σ : qw_M} (hn : (σ k).1 1 = nI n) : qw_Mt qw_tw wC my_X5_clear [.ref k] σ (fun r σ' => σ' = qw_pi σ k 1 (nI 0) ∧ r = some (.int (nI n))) := by
  rcases hk with ⟨rfl, rfl⟩ | ⟨rfl, rfl⟩ | ⟨rfl, rfl⟩ | ⟨rfl, rfl⟩ | ⟨rfl, rfl⟩
  all_goals
    refine mt_X5_clear rfl (ev_X5_clear [] 100 ?_)
    refine ⟨rfl, ?_⟩
    rw [← hn]
