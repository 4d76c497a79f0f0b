/-! the reference's log -/
def note3 (g : Int → Int) (s f a : Int) : Int → Int := put (put (put (put g (346 + 3 * g 345) s) (346 + 3 * g 345 + 1) f) (346 + 3 * g 345 + 2) a) 345 (g 345 + 1)
def shL : Nat → Int → (Int → Int) → Int → Int
  | 0, _, g => g
  | n + 1, i, g => shL n (i + 1) (put g (346 + i - 3) (g (346 + i)))
def noteG (g : Int → Int) (s f a : Int) : Int → Int := if g 345 = 60 then note3 (put (shL 177 3 g) 345 59) s f a else note3 g s f a
theorem shL_345 : ∀ (n : Nat) (i : Int) (g : Int → Int), 3 ≤ i → shL n i g 345 = g 345
  | 0, _, _, _ => rfl
  | n + 1, i, g, h => by
    show shL n (i + 1) _ 345 = _
    rw [shL_345 n (i + 1) _ (by omega)]
    unfold put
    exact if_neg (by omega)
section ZE
variable {σ0 σ : ST} {P : MP} {g : Int → Int}
theorem L_Z_note3 (hz : ZT σ0 σ P g) (h0 : 0 ≤ g 345) (h1 : g 345 < 60) {s f a : Int} (o : Option AV) {Q : Option AV → ST → Prop} (K : ∀ t, ZT σ0 t P (note3 g s f a) → Q none t) : wp m_Z_note (66, [some zz, some (.inl s), some (.inl f), some (.inl a), o], [], σ) Q := by
  refine T_Z_note_66 _ _ _ _ _ _ _ _ ?_
  rw [hz.1.now 345 (by omega) (by omega), wr_id (x := 3 * g 345) (by omega), wr_id (x := 346 + 3 * g 345) (by omega), wr_id (x := 346 + 3 * g 345 + 1) (by omega), wr_id (x := 346 + 3 * g 345 + 2) (by omega)]
  have e : up (up (up σ 46 0 0 (346 + 3 * g 345) s) 46 0 0 (346 + 3 * g 345 + 1) f) 46 0 0 (346 + 3 * g 345 + 2) a 46 0 0 345 = g 345 := by
    rw [up_s, if_neg (by omega), up_s, if_neg (by omega), up_s, if_neg (by omega), hz.1.now 345 (by omega) (by omega)]
  rw [e, wr_id (x := g 345 + 1) (by omega)]
  have hz := ZT_put (ZT_put (ZT_put (ZT_put hz (j := 346 + 3 * g 345) (v := s) (by omega) (by omega)) (j := 346 + 3 * g 345 + 1) (v := f) (by omega) (by omega)) (j := 346 + 3 * g 345 + 2) (v := a) (by omega) (by omega)) (j := 345) (v := g 345 + 1) (by omega) (by omega)
  exact ⟨⟨by omega, by omega⟩, ⟨by omega, by omega⟩, ⟨by omega, by omega⟩, ⟨by omega, by omega⟩, ⟨by omega, by omega⟩, ⟨by omega, by omega⟩, K _ hz⟩
theorem L_Z_note {s f a : Int} {Q : Option AV → ST → Prop} : ∀ (n : Nat) (i : Int) (g : Int → Int) (σ : ST), i + n = 180 → 3 ≤ i → ZT σ0 σ P g → g 345 = 60 → (∀ t, ZT σ0 t P (note3 (put (shL n i g) 345 59) s f a) → Q none t) → wp m_Z_note (16, [some zz, some (.inl s), some (.inl f), some (.inl a), some (.inl i)], [], σ) Q
  | 0, i, g, σ, h, hi, hz, h6, K => by
    refine T_Z_note_16 _ _ _ _ _ _ _ _ ?_
    rw [hz.1.now 345 (by omega) (by omega), h6, wr_id (x := 60 - 1) (by omega)]
    refine And.intro (fun _ => And.intro (by omega) (And.intro (by omega) ?_)) (fun q => absurd q (by omega))
    have hz := ZT_put hz (j := 345) (v := 60 - 1) (by omega) (by omega)
    have e : put g 345 (60 - 1) 345 = 59 := if_pos rfl
    exact L_Z_note3 hz (by omega) (by omega) _ K
  | n + 1, i, g, σ, h, hi, hz, h6, K => by
    refine T_Z_note_16 _ _ _ _ _ _ _ _ ?_
    rw [wr_id (x := 346 + i) (by omega), wr_id (x := 346 + i - 3) (by omega), wr_id (x := i + 1) (by omega), hz.1.now (346 + i) (by omega) (by omega)]
    refine And.intro (fun q => absurd q (by omega)) (fun _ => And.intro ⟨by omega, by omega⟩ (And.intro ⟨by omega, by omega⟩ ?_))
    have hz := ZT_put hz (j := 346 + i - 3) (v := g (346 + i)) (by omega) (by omega)
    have e : put g (346 + i - 3) (g (346 + i)) 345 = 60 := by
      unfold put
      rw [if_neg (by omega), h6]
    exact L_Z_note n (i + 1) _ _ (by omega) (by omega) hz e K
theorem A_Z_note (hz : ZT σ0 σ P g) (h0 : 0 ≤ g 345) (h1 : g 345 ≤ 60) {s f a : Int} {F : ST → Prop} (K : ∀ t, ZT σ0 t P (noteG g s f a) → F t) : wpM m_Z_note [zz, .inl s, .inl f, .inl a] σ (asV F) := by
  refine T_Z_note _ _ _ _ _ _ _ ?_
  rw [hz.1.now 345 (by omega) (by omega)]
  refine And.intro (by omega) ?_
  unfold noteG at K
  by_cases h6 : g 345 = 60
  · rw [if_pos h6] at K
    refine And.intro (fun q => absurd h6 q) (fun _ => ?_)
    exact L_Z_note 177 3 g σ (by omega) (by omega) hz h6 K
  · rw [if_neg h6] at K
    refine And.intro (fun _ => ?_) (fun q => absurd h6 q)
    exact L_Z_note3 hz h0 (by omega) _ K
end ZE
