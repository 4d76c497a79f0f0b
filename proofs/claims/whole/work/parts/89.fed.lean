/-! feed on both -/
def TR (p q : (Int → Int) × Int) : Prop := p.2 = q.2 ∧ 0 ≤ q.2 ∧ ∀ i, 0 ≤ i → i < q.2 → p.1 i = q.1 i ∧ 1 ≤ q.1 i ∧ q.1 i ≤ 255
theorem apF_rel {B : Int → Int} (hB : ∀ j, 0 ≤ B j ∧ B j ≤ 255) : ∀ (d : Nat) (j : Int) (p q : (Int → Int) × Int), TR p q → TR (apF B d j p) (apF B d j q)
  | 0, _, _, _, h => h
  | d + 1, j, p, q, h => by
    have hb := hB j
    unfold apF
    refine apF_rel hB d (j + 1) _ _ ?_
    by_cases h0 : B j = 0
    · rw [if_pos h0, if_pos h0]; exact h
    · rw [if_neg h0, if_neg h0]
      obtain ⟨h1, h2, h3⟩ := h
      refine ⟨by show p.2 + 1 = q.2 + 1; omega, by show 0 ≤ q.2 + 1; omega, fun i a b => ?_⟩
      have b' : i < q.2 + 1 := b
      show put p.1 p.2 (B j) i = put q.1 q.2 (B j) i ∧ 1 ≤ put q.1 q.2 (B j) i ∧ put q.1 q.2 (B j) i ≤ 255
      unfold put
      rw [h1]
      by_cases hi : i = q.2
      · rw [if_pos hi, if_pos hi]; exact ⟨rfl, by omega, by omega⟩
      · rw [if_neg hi, if_neg hi]; exact h3 i a (by omega)
theorem byG_1 {x1 x2 x3 x4 x5 i : Int} (h0 : 0 ≤ i) (h1 : i < 4) : byG x1 x2 x3 x4 x5 i = byF x1 i := by
  unfold byG
  rw [if_neg (by omega), show i % 4 = i by omega]
theorem byG_2 {x1 x2 x3 x4 x5 i : Int} (h0 : 0 ≤ i) (h1 : i < 4) : byG x1 x2 x3 x4 x5 (i + 4) = byF x2 i := by
  unfold byG
  rw [if_pos (by omega), if_neg (by omega), show (i + 4) % 4 = i by omega]
theorem byG_3 {x1 x2 x3 x4 x5 i : Int} (h0 : 0 ≤ i) (h1 : i < 4) : byG x1 x2 x3 x4 x5 (i + 8) = byF x3 i := by
  unfold byG
  rw [if_pos (by omega), if_pos (by omega), if_neg (by omega), show (i + 8) % 4 = i by omega]
theorem byG_4 {x1 x2 x3 x4 x5 i : Int} (h0 : 0 ≤ i) (h1 : i < 4) : byG x1 x2 x3 x4 x5 (i + 12) = byF x4 i := by
  unfold byG
  rw [if_pos (by omega), if_pos (by omega), if_pos (by omega), if_neg (by omega), show (i + 12) % 4 = i by omega]
theorem byG_5 {x1 x2 x3 x4 x5 i : Int} (h0 : 0 ≤ i) (h1 : i < 4) : byG x1 x2 x3 x4 x5 (i + 16) = byF x5 i := by
  unfold byG
  rw [if_pos (by omega), if_pos (by omega), if_pos (by omega), if_pos (by omega), show (i + 16) % 4 = i by omega]
theorem ap5 (x1 x2 x3 x4 x5 : Int) (p : (Int → Int) × Int) : apF (byG x1 x2 x3 x4 x5) 20 0 p = apF (byF x5) 4 0 (apF (byF x4) 4 0 (apF (byF x3) 4 0 (apF (byF x2) 4 0 (apF (byF x1) 4 0 p)))) := by
  have a1 : ∀ p, apF (byG x1 x2 x3 x4 x5) 20 0 p = apF (byG x1 x2 x3 x4 x5) 16 4 (apF (byG x1 x2 x3 x4 x5) 4 0 p) := fun p => apF_add 16 4 0 p
  have a2 : ∀ p, apF (byG x1 x2 x3 x4 x5) 16 4 p = apF (byG x1 x2 x3 x4 x5) 12 8 (apF (byG x1 x2 x3 x4 x5) 4 4 p) := fun p => apF_add 12 4 4 p
  have a3 : ∀ p, apF (byG x1 x2 x3 x4 x5) 12 8 p = apF (byG x1 x2 x3 x4 x5) 8 12 (apF (byG x1 x2 x3 x4 x5) 4 8 p) := fun p => apF_add 8 4 8 p
  have a4 : ∀ p, apF (byG x1 x2 x3 x4 x5) 8 12 p = apF (byG x1 x2 x3 x4 x5) 4 16 (apF (byG x1 x2 x3 x4 x5) 4 12 p) := fun p => apF_add 4 4 12 p
  have b1 : ∀ p, apF (byG x1 x2 x3 x4 x5) 4 0 p = apF (byF x1) 4 0 p := fun p => apF_ext 0 4 0 p (fun i a b => by rw [Int.add_zero]; exact byG_1 a (by omega))
  have b2 : ∀ p, apF (byG x1 x2 x3 x4 x5) 4 4 p = apF (byF x2) 4 0 p := fun p => apF_ext 4 4 0 p (fun i a b => byG_2 a (by omega))
  have b3 : ∀ p, apF (byG x1 x2 x3 x4 x5) 4 8 p = apF (byF x3) 4 0 p := fun p => apF_ext 8 4 0 p (fun i a b => byG_3 a (by omega))
  have b4 : ∀ p, apF (byG x1 x2 x3 x4 x5) 4 12 p = apF (byF x4) 4 0 p := fun p => apF_ext 12 4 0 p (fun i a b => byG_4 a (by omega))
  have b5 : ∀ p, apF (byG x1 x2 x3 x4 x5) 4 16 p = apF (byF x5) 4 0 p := fun p => apF_ext 16 4 0 p (fun i a b => byG_5 a (by omega))
  rw [a1, a2, a3, a4, b1, b2, b3, b4, b5]
section FED
variable {σ s : ST}
def TX (s : ST) (p : (Int → Int) × Int) : Prop := s 1 0 0 0 = p.2 ∧ ∀ x, s 2 0 0 x = p.1 x
def TZ (s : ST) (p : (Int → Int) × Int) : Prop := s 40 0 0 2 = p.2 ∧ ∀ x, s 41 0 0 x = p.1 x
abbrev FXt (σ s : ST) : Prop := ∀ (t : Nat) (k i x : Int), ¬ (t = 1 ∨ t = 2) → s t k i x = σ t k i x
abbrev FZt (σ s : ST) : Prop := ∀ (t : Nat) (k i x : Int), ¬ (t = 41 ∨ (t = 40 ∧ x = 2)) → s t k i x = σ t k i x
theorem L_append {x : Int} {Q : Option AV → ST → Prop} : ∀ (d : Nat) (k : Int) (s : ST) (p : (Int → Int) × Int) (o3 : Option AV), k + d = 4 → 0 ≤ k → 0 ≤ p.2 → p.2 + cB (byF x) d k ≤ 320 → TX s p → FXt σ s → (∀ s', FXt σ s' → TX s' (apF (byF x) d k p) → Q none s') → wp m_Tape_append (3, [some (.inr (.inr (1, 0, 0))), some (.inl x), some (.inl (24 - 8 * k)), o3], [], s) Q
  | d, k, s, p, o3, hd, k0, hp, hb, ht, o, K => by
    refine T_Tape_append_3 _ _ _ _ _ _ _ ?_
    match d, hd, hb, K with
    | 0, hd, hb, K => exact And.intro (fun _ => K s o ht) (fun q => absurd (show 24 - 8 * k < 0 by omega) q)
    | d + 1, hd, hb, K =>
      have ci := cB_in (B := byF x) d (k + 1)
      unfold apF at K
      unfold cB at hb
      refine And.intro (fun q => absurd q (by omega)) (fun _ => ?_)
      rw [sh_same (by omega), wr_id (x := 24 - 8 * k + -8) (by omega), show 24 - 8 * k + -8 = 24 - 8 * (k + 1) by omega, ht.1]
      have e : i_and (i_shr x (24 - 8 * k)) 255 = byF x k := rfl
      rw [e]
      refine And.intro (fun q => ?_) (fun q => ?_)
      · rw [if_pos q] at K hb
        exact L_append d (k + 1) s p _ (by omega) (by omega) hp (by omega) ht o K
      · rw [if_neg q] at K hb
        refine And.intro (fun q2 => absurd q2 (by omega)) (fun _ => And.intro (fun q2 => absurd q2 (by omega)) (fun _ => And.intro ⟨hp, by omega⟩ ?_))
        rw [show up s 2 0 0 p.2 (byF x k) 1 0 0 0 = p.2 from (up_o (by decide)).trans ht.1, wr_id (by omega)]
        refine L_append d (k + 1) _ (put p.1 p.2 (byF x k), p.2 + 1) _ (by omega) (by omega) (show 0 ≤ p.2 + 1 by omega) (show p.2 + 1 + cB (byF x) d (k + 1) ≤ 320 by omega) ⟨by rw [up_s, if_pos rfl], fun y => ?_⟩ (fun t k i y hn => by rw [up_o (by omega), up_o (by omega)]; exact o t k i y hn) K
        show _ = put p.1 p.2 (byF x k) y
        rw [up_o (by decide), up_s, ht.2]
        rfl
theorem P_append {x : Int} {p : (Int → Int) × Int} (hp : 0 ≤ p.2) (hb : p.2 + cB (byF x) 4 0 ≤ 320) (ht : TX s p) (o : FXt σ s) {F : ST → Prop} (K : ∀ s', FXt σ s' → TX s' (apF (byF x) 4 0 p) → F s') : wpM m_Tape_append [.inr (.inr (1, 0, 0)), .inl x] s (asV F) := by
  refine T_Tape_append _ _ _ _ _ ?_
  exact L_append 4 0 s p none (by omega) (by omega) hp hb ht o (fun s' a b => K s' a b)
theorem L_feed2 {x1 x2 x3 x4 x5 : Int} {o6 : Option AV} {Q : Option AV → ST → Prop} : ∀ (d : Nat) (j : Int) (s : ST) (p : (Int → Int) × Int) (o8 : Option AV), j + d = 20 → 0 ≤ j → 0 ≤ p.2 → p.2 + cB (byG x1 x2 x3 x4 x5) d j ≤ 320 → TZ s p → FZt σ s → (∀ s', FZt σ s' → TZ s' (apF (byG x1 x2 x3 x4 x5) d j p) → Q (some (.inl (s' 40 0 0 2))) s') → wp m_Z_feed (62, [some zz, some (.inl x1), some (.inl x2), some (.inl x3), some (.inl x4), some (.inl x5), o6, some (.inl j), o8], [], s) Q
  | d, j, s, p, o8, hd, j0, hp, hb, ht, o, K => by
    refine T_Z_feed_62 _ _ _ _ _ _ _ _ _ _ _ _ ?_
    match d, hd, hb, K with
    | 0, hd, hb, K => exact And.intro (fun _ => K s o ht) (fun q => absurd (show 20 ≤ j by omega) q)
    | d + 1, hd, hb, K =>
      have ci := cB_in (B := byG x1 x2 x3 x4 x5) d (j + 1)
      unfold apF at K
      unfold cB at hb
      refine And.intro (fun q => absurd q (by omega)) (fun _ => ?_)
      refine PU.I (P_byteOf x1 x2 x3 x4 x5 j0 (by omega) s) ?_
      rw [ht.1, wr_id (x := j + 1) (by omega)]
      refine And.intro (fun q => ?_) (fun q => ?_)
      · rw [if_pos q] at K hb
        exact L_feed2 d (j + 1) s p _ (by omega) (by omega) hp (by omega) ht o K
      · rw [if_neg q] at K hb
        refine And.intro ⟨hp, by omega⟩ ?_
        rw [show up s 41 0 0 p.2 (byG x1 x2 x3 x4 x5 j) 40 0 0 2 = p.2 from (up_o (by decide)).trans ht.1, wr_id (by omega)]
        refine L_feed2 d (j + 1) _ (put p.1 p.2 (byG x1 x2 x3 x4 x5 j), p.2 + 1) _ (by omega) (by omega) (show 0 ≤ p.2 + 1 by omega) (show p.2 + 1 + cB (byG x1 x2 x3 x4 x5) d (j + 1) ≤ 320 by omega) ⟨by rw [up_s, if_pos rfl], fun y => ?_⟩ (fun t k i y hn => ?_) K
        · show _ = put p.1 p.2 (byG x1 x2 x3 x4 x5 j) y
          rw [up_o (by decide), up_s, ht.2]
          rfl
        · unfold up
          rw [if_neg (by omega), if_neg (by omega)]
          exact o t k i y hn
theorem L_feed1 {x1 x2 x3 x4 x5 : Int} {Q : Option AV → ST → Prop} (h0 : 0 ≤ s 40 0 0 2 ∧ s 40 0 0 2 ≤ 320) : ∀ (d : Nat) (j w : Int) (o8 : Option AV), j + d = 20 → 0 ≤ j → 0 ≤ w ∧ w ≤ j → (s 40 0 0 2 + (w + cB (byG x1 x2 x3 x4 x5) d j) ≤ 320 → ∀ o6, wp m_Z_feed (62, [some zz, some (.inl x1), some (.inl x2), some (.inl x3), some (.inl x4), some (.inl x5), o6, some (.inl 0), o8], [], s) Q) → (¬ (s 40 0 0 2 + (w + cB (byG x1 x2 x3 x4 x5) d j) ≤ 320) → Q (some (.inl (-1))) s) → wp m_Z_feed (6, [some zz, some (.inl x1), some (.inl x2), some (.inl x3), some (.inl x4), some (.inl x5), some (.inl w), some (.inl j), o8], [], s) Q
  | d, j, w, o8, hd, j0, hw, K, N => by
    refine T_Z_feed_6 _ _ _ _ _ _ _ _ _ _ _ _ ?_
    match d, hd, K, N with
    | 0, hd, K, N =>
      rw [show w + cB (byG x1 x2 x3 x4 x5) 0 j = w from Int.add_zero w] at K N
      rw [wr_id (x := s 40 0 0 2 + w) (by omega)]
      exact And.intro (fun _ => And.intro (fun q => K q _) (fun q => N q)) (fun q => absurd (show 20 ≤ j by omega) q)
    | d + 1, hd, K, N =>
      unfold cB at K N
      refine And.intro (fun q => absurd q (by omega)) (fun _ => ?_)
      refine PU.I (P_byteOf x1 x2 x3 x4 x5 j0 (by omega) s) ?_
      rw [wr_id (x := j + 1) (by omega), wr_id (x := w + 0) (by omega), wr_id (x := w + 1) (by omega)]
      refine And.intro (fun q => ?_) (fun q => ?_)
      · rw [if_pos q] at K N
        exact L_feed1 h0 d (j + 1) (w + 0) o8 (by omega) (by omega) (by omega) (fun z => K (by omega)) (fun z => N (by omega))
      · rw [if_neg q] at K N
        exact L_feed1 h0 d (j + 1) (w + 1) o8 (by omega) (by omega) (by omega) (fun z => K (by omega)) (fun z => N (by omega))
end FED
