/-! the component's writers: rooms begun, cores -/
abbrev SRm (k r : Int) : Nat → Int → Int → Prop := fun t k' q => (t = 17 ∨ t = 18 ∨ t = 19) ∧ k' = k ∧ q = r
abbrev SRa (k r : Int) : Nat → Int → Int → Prop := fun t k' q => (t = 18 ∨ t = 19) ∧ k' = k ∧ q = r
abbrev SCo (k c : Int) : Nat → Int → Int → Prop := fun t k' q => t = 21 ∧ k' = k ∧ q = c
theorem L_R_begin (k r : Int) (o1 o2 : Option AV) {F : ST → Prop} : ∀ (n : Nat) (i : Int) (σ : ST), i + n = 8 → 0 ≤ i → (∀ σ', Off (SRa k r) σ σ' → (∀ s, i ≤ s → s < 8 → σ' 18 k r s = 0 ∧ σ' 19 k r s = -1) → (∀ s, s < i → σ' 18 k r s = σ 18 k r s ∧ σ' 19 k r s = σ 19 k r s) → F σ') → wp m_Room_begin (40, [some (rr k r), o1, o2, some (.inl i)], [], σ) (asV F)
  | 0, i, σ, h, hi, K => by
    refine T_Room_begin_40 _ _ _ _ _ _ _ ?_
    refine And.intro (fun _ => ?_) (fun q => absurd (show (8 : Int) ≤ i by omega) q)
    exact K σ (Off_refl _ _) (fun s a b => absurd a (by omega)) (fun _ _ => ⟨rfl, rfl⟩)
  | n + 1, i, σ, h, hi, K => by
    refine T_Room_begin_40 _ _ _ _ _ _ _ ?_
    refine And.intro (fun q => absurd q (by omega)) (fun _ => And.intro ⟨by omega, by omega⟩ (And.intro ⟨by omega, by omega⟩ ?_))
    rw [wr_id (by omega)]
    refine L_R_begin k r o1 o2 n (i + 1) _ (by omega) (by omega) (fun σ' h1 h2 h3 => K σ' (Off_trans (Off_up (Off_up (Off_refl _ _) ⟨Or.inl rfl, rfl, rfl⟩) ⟨Or.inr rfl, rfl, rfl⟩) h1 (fun _ _ _ z => z)) (fun s a b => ?_) (fun s a => ?_))
    · rcases (show s = i ∨ i + 1 ≤ s by omega) with e | e
      · rw [(h3 s (by omega)).1, (h3 s (by omega)).2, up_o (by decide), up_s, if_pos e, up_s, if_pos e]
        exact ⟨rfl, rfl⟩
      · exact h2 s e b
    · rw [(h3 s (by omega)).1, (h3 s (by omega)).2, up_o (by decide), up_s, if_neg (by omega), up_s, if_neg (by omega), up_o (by decide)]
      exact ⟨rfl, rfl⟩
theorem C_C_out (k c : Int) (σ : ST) {F : ST → Prop} (K : ∀ σ', Off (SCo k c) σ σ' → σ' 21 k c 0 = σ 21 k c 0 → σ' 21 k c 1 = -1 → σ' 21 k c 2 = -1 → σ' 21 k c 3 = -1 → σ' 21 k c 4 = 0 → F σ') : wpM m_Core_goOutside [kk k c] σ (asV F) := by
  refine T_Core_goOutside _ _ _ _ ?_
  refine K _ ?_ ?_ ?_ ?_ ?_ ?_
  · repeat' (first | exact Off_refl _ _ | refine Off_up ?_ ⟨rfl, rfl, rfl⟩)
  all_goals (simp (decide := true) only [up_s, if_true, if_false, ite_true, ite_false])
theorem C_C_in (k c r e s : Int) (σ : ST) {F : ST → Prop} (K : ∀ σ', Off (SCo k c) σ σ' → σ' 21 k c 0 = σ 21 k c 0 → σ' 21 k c 1 = r → σ' 21 k c 2 = e → σ' 21 k c 3 = s → σ' 21 k c 4 = 0 → F σ') : wpM m_Core_goInside [kk k c, .inl r, .inl e, .inl s] σ (asV F) := by
  refine T_Core_goInside _ _ _ _ _ _ _ ?_
  refine K _ ?_ ?_ ?_ ?_ ?_ ?_
  · repeat' (first | exact Off_refl _ _ | refine Off_up ?_ ⟨rfl, rfl, rfl⟩)
  all_goals (simp (decide := true) only [up_s, if_true, if_false, ite_true, ite_false])
