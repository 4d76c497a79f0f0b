/-! the component's writers: a room begun, settled, placed -/
section RWR
variable {σ : ST} {k : Int} {g : Int → Int}
theorem C_R_begin (k r ser size : Int) (σ : ST) {F : ST → Prop} (K : ∀ σ', Off (SRm k r) σ σ' → σ' 17 k r 0 = 1 → σ' 17 k r 1 = ser → σ' 17 k r 2 = size → σ' 17 k r 3 = 0 → σ' 17 k r 4 = wr (7 + size) → σ' 17 k r 5 = 0 → σ' 17 k r 6 = 0 → (∀ s, 0 ≤ s → s < 8 → σ' 18 k r s = 0 ∧ σ' 19 k r s = -1) → F σ') : wpM m_Room_begin [rr k r, .inl ser, .inl size] σ (asV F) := by
  refine T_Room_begin _ _ _ _ _ _ ?_
  refine And.intro (Or.inr rfl) (And.intro (Or.inl rfl) (And.intro (Or.inl rfl) ?_))
  refine L_R_begin k r _ _ 8 0 _ (by omega) (by omega) (fun σ' h1 h2 _ => K σ' (Off_trans (S := SRm k r) ?_ h1 (fun _ _ _ z => ⟨z.1.elim (fun q => Or.inr (Or.inl q)) (fun q => Or.inr (Or.inr q)), z.2⟩)) ?_ ?_ ?_ ?_ ?_ ?_ ?_ h2)
  · repeat' (first | exact Off_refl _ _ | refine Off_up ?_ ⟨Or.inl rfl, rfl, rfl⟩)
  all_goals (rw [h1 17 k r _ (fun z => absurd z.1 (by decide))]; simp (decide := true) only [up_s, if_true, if_false, ite_true, ite_false])
theorem C_R_settle {r : Int} (hr : RRy σ k r g) (hs : rm g r 2 ≤ 8) {a p : Int} (h0 : 0 ≤ a) (h1 : a < rm g r 2) {F : ST → Prop} (K : F (up (up σ 18 k r a 1) 19 k r a p)) : wpM m_Room_settle [rr k r, .inl a, .inl p] σ (asV F) := by
  refine T_Room_settle _ _ _ _ _ _ ?_
  (repeat' (first | (refine And.intro ?_ ?_) | (intro hzq; simp only [b2_e0, b2_e1, Classical.not_not, ne_eq] at hzq) | (intro hzq) | exact Or.inl rfl | exact Or.inr rfl | refine PU.I (P_R_hasAddress hr hs _) ?_)) <;> try omega
  exact K
theorem C_R_place {r : Int} (hr : RRy σ k r g) (hs : rm g r 2 ≤ 8) {a w : Int} (h0 : 0 ≤ a) (h1 : a < rm g r 2) {F : ST → Prop} (K : F (up σ 18 k r a w)) : wpM m_Room_place [rr k r, .inl a, .inl w] σ (asV F) := by
  refine T_Room_place _ _ _ _ _ _ ?_
  (repeat' (first | (refine And.intro ?_ ?_) | (intro hzq; simp only [b2_e0, b2_e1, Classical.not_not, ne_eq] at hzq) | (intro hzq) | exact Or.inl rfl | exact Or.inr rfl | refine PU.I (P_R_hasAddress hr hs _) ?_)) <;> try omega
  exact K
end RWR
