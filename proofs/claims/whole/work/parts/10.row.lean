/-! Row: five of them, each with its array behind it -/
def qr_row (k N : Nat) : Prop := (k = 1 ∧ N = 87) ∨ (k = 3 ∧ N = 40) ∨ (k = 5 ∧ N = 32) ∨ (k = 19 ∧ N = 8) ∨ (k = 35 ∧ N = 8)
theorem qr_cap {k N : Nat} (h : qr_row k N) : N ≤ 87 := by unfold qr_row at h; omega
/-- item: what lies there, -1 elsewhere -/
theorem m_item {k N n : Nat} (hk : qr_row k N) {σ : qw_M} (hn : (σ k).1 1 = nI n) (hN : n ≤ N) (i : Int32) : qw_Mt qw_tw wC my_X5_item [.ref k, .int i] σ (fun r σ' => σ' = σ ∧ ((∃ j, j < n ∧ i = nI j ∧ r = some (.int ((σ (k + 1)).1 j))) ∨ ((∀ j, j < n → i ≠ nI j) ∧ r = some (.int (-1))))) := by
  have hc := qr_cap hk
  rcases hk with ⟨rfl, rfl⟩ | ⟨rfl, rfl⟩ | ⟨rfl, rfl⟩ | ⟨rfl, rfl⟩ | ⟨rfl, rfl⟩
  all_goals
    refine mt_X5_item rfl (ev_X5_item [] 100 ?_)
    refine And.intro (fun a => ?_) (fun a => ?_)
    · exact ⟨rfl, Or.inr ⟨fun j hj e => by subst e; exact nI_pos (by omega) a, rfl⟩⟩
    · refine And.intro (fun b => ?_) (fun b => ?_)
      · rw [hn] at b
        exact ⟨rfl, Or.inr ⟨fun j hj e => by subst e; exact nI_ge hj (by omega) b, rfl⟩⟩
      · rw [hn] at b
        obtain ⟨j, hj, rfl⟩ := nI_of a
        have hjn : j < n := by
          rcases Nat.lt_or_ge j n with q | q
          · exact q
          · exact absurd (nI_le q hj) b
        refine And.intro (fun c => ?_) (fun c => ?_)
        · exact absurd c (nI_ge (a := j) (by omega) (by decide))
        · refine And.intro (vp_in_nI (by omega) (by decide)) ?_
          refine ⟨rfl, Or.inl ⟨j, hjn, rfl, ?_⟩⟩
          rw [nI_clamp (by omega)]
          rfl
