/-! the component's writers: a page begun -/
def Off (S : Nat → Int → Int → Prop) (σ0 σ : ST) : Prop := ∀ t k i s, ¬ S t k i → σ t k i s = σ0 t k i s
theorem Off_refl (S : Nat → Int → Int → Prop) (σ : ST) : Off S σ σ := fun _ _ _ _ _ => rfl
theorem Off_up {S : Nat → Int → Int → Prop} {σ0 σ : ST} {t : Nat} {k i s v : Int} (h : Off S σ0 σ) (hs : S t k i) : Off S σ0 (up σ t k i s v) := by
  intro t' k' i' s' hn
  rw [up_ne (fun e => hn (by obtain ⟨e1, e2, e3⟩ := e; rw [e1, e2, e3]; exact hs))]
  exact h t' k' i' s' hn
theorem Off_trans {S T : Nat → Int → Int → Prop} {σ0 σ1 σ2 : ST} (h : Off S σ0 σ1) (h2 : Off T σ1 σ2) (hT : ∀ t k i, T t k i → S t k i) : Off S σ0 σ2 := fun t k i s hn => (h2 t k i s (fun z => hn (hT t k i z))).trans (h t k i s hn)
abbrev SVer (k p : Int) : Nat → Int → Int → Prop := fun t k' q => t = 15 ∧ k' = k ∧ q = p
abbrev SPg (k p : Int) : Nat → Int → Int → Prop := fun t k' q => (t = 14 ∨ t = 15) ∧ k' = k ∧ q = p
theorem L_P_begin (k p : Int) (o1 o2 : Option AV) {F : ST → Prop} : ∀ (n : Nat) (i : Int) (σ : ST), i + n = 4 → 0 ≤ i → (∀ σ', Off (SVer k p) σ σ' → (∀ s, i ≤ s → s < 4 → σ' 15 k p s = 0) → (∀ s, s < i → σ' 15 k p s = σ 15 k p s) → F σ') → wp m_Page_begin (42, [some (pp k p), o1, o2, some (.inl i)], [], σ) (asV F)
  | 0, i, σ, h, hi, K => by
    refine T_Page_begin_42 _ _ _ _ _ _ _ ?_
    refine And.intro (fun _ => ?_) (fun q => absurd (show (4 : Int) ≤ i by omega) q)
    exact K σ (Off_refl _ _) (fun s a b => absurd a (by omega)) (fun _ _ => rfl)
  | n + 1, i, σ, h, hi, K => by
    refine T_Page_begin_42 _ _ _ _ _ _ _ ?_
    refine And.intro (fun q => absurd q (by omega)) (fun _ => And.intro ⟨by omega, by omega⟩ ?_)
    rw [wr_id (by omega)]
    refine L_P_begin k p o1 o2 n (i + 1) _ (by omega) (by omega) (fun σ' h1 h2 h3 => K σ' (Off_trans (Off_up (Off_refl _ _) ⟨rfl, rfl, rfl⟩) h1 (fun _ _ _ z => z)) (fun s a b => ?_) (fun s a => ?_))
    · rcases (show s = i ∨ i + 1 ≤ s by omega) with e | e
      · rw [h3 s (by omega), up_s, if_pos e]
      · exact h2 s e b
    · rw [h3 s (by omega), up_s, if_neg (by omega)]
theorem C_P_begin (k p kd0 own : Int) (σ : ST) {F : ST → Prop} (K : ∀ σ', Off (SPg k p) σ σ' → σ' 14 k p 0 = kd0 → σ' 14 k p 1 = own → σ' 14 k p 2 = -1 → σ' 14 k p 3 = 0 → σ' 14 k p 4 = 0 → σ' 14 k p 5 = 0 → σ' 14 k p 7 = 0 → (∀ s, 0 ≤ s → s < 4 → σ' 15 k p s = 0) → F σ') : wpM m_Page_begin [pp k p, .inl kd0, .inl own] σ (asV F) := by
  refine T_Page_begin _ _ _ _ _ _ ?_
  refine And.intro (Or.inl rfl) ?_
  refine L_P_begin k p _ _ 4 0 _ (by omega) (by omega) (fun σ' h1 h2 _ => K σ' (Off_trans (S := SPg k p) ?_ h1 (fun _ _ _ z => ⟨Or.inr z.1, z.2⟩)) ?_ ?_ ?_ ?_ ?_ ?_ ?_ h2)
  · repeat' (first | exact Off_refl _ _ | refine Off_up ?_ ⟨Or.inl rfl, rfl, rfl⟩)
  all_goals (rw [h1 14 k p _ (fun z => absurd z.1 (by decide))]; simp (decide := true) only [up_s, if_true, if_false, ite_true, ite_false])
