/-! image, back, on both -/
section IMG
variable {σ s : ST} {P : MP} {g : Int → Int} {n : Int}
theorem L_Z_image (Q : Option AV → ST → Prop) : ∀ (n : Nat) (i : Int) (σ : ST), i + n = 526 → 0 ≤ i → (∀ s, (∀ (t : Nat) (k i x : Int), t ≠ 51 → s t k i x = σ t k i x) → (∀ x, s 51 0 0 x = if i ≤ x ∧ x < 526 then σ 46 0 0 x else σ 51 0 0 x) → wpM m_Z_freeSet [zz] (up s 40 0 0 23 1) (asI fun r101 s101 => wpM m_Z_bits [.inl r101] s101 (asI fun r102 s102 => Q (some (.inl r102)) s102))) → wp m_Z_image (11, [some zz, some (.inl i)], [], σ) Q
  | 0, i, σ, h, h0, K => by
    refine T_Z_image_11 _ _ _ _ _ ?_
    refine And.intro (fun _ => And.intro (Or.inr rfl) (K σ (fun _ _ _ _ _ => rfl) (fun x => (if_neg (by omega)).symm))) (fun q => absurd (show (526 : Int) ≤ i by omega) q)
  | n + 1, i, σ, h, h0, K => by
    refine T_Z_image_11 _ _ _ _ _ ?_
    rw [wr_id (x := i + 1) (by omega)]
    refine And.intro (fun q => absurd q (by omega)) (fun _ => And.intro (by omega) (And.intro (by omega) ?_))
    refine L_Z_image Q n (i + 1) _ (by omega) (by omega) (fun s a1 a2 => K s (fun t k i x ht => (a1 t k i x ht).trans (up_o ht)) (fun x => ?_))
    rw [a2 x, up_o (by decide), up_s]
    by_cases z : x = i
    · rw [if_neg (show ¬ (i + 1 ≤ x ∧ x < 526) by omega), if_pos z, if_pos (show i ≤ x ∧ x < 526 by omega), z]
    · by_cases y : i + 1 ≤ x ∧ x < 526
      · rw [if_pos y, if_pos (show i ≤ x ∧ x < 526 by omega)]
      · rw [if_neg y, if_neg (show ¬ (i ≤ x ∧ x < 526) by omega), if_neg z]
theorem PR_image : PRf m_X_image m_Z_image [] := by
  intro σ n hI hn F K
  obtain ⟨P, g, h⟩ := hI
  have hb := bz_iff h.m.has
  have hz := bz_iff h.z.mac
  have fi := fs_in (g := g) h.z.ok
  have p0 := h.u.p0
  refine T_X_image _ _ _ _ ?_
  refine And.intro (fun hm => ?_) (fun hm => ?_)
  · have np : P.np ≠ 0 := by omega
    refine C_W_take (k := 2) (by omega) (fun s1 o1 r1 => And.intro (Or.inr rfl) ?_)
    have f1 : ∀ (t : Nat) (k i x : Int), ¬ (12 ≤ t ∧ t ≤ 29 ∧ k = 2) → ¬ (t = 0 ∧ x = 9) → up s1 0 0 0 9 1 t k i x = σ t k i x := by
      intro t k i x h1 h2
      rw [← o1 t k i x (fun z => h1 ⟨z.2.1, z.2.2, z.1⟩)]
      unfold up
      rw [if_neg (fun z => h2 ⟨z.1, z.2.2.2⟩)]
    have x0 : RX (up s1 0 0 0 9 1) 0 P g := h.x.keepo (fun t i x a b => f1 _ _ _ _ (by omega) (by omega))
    have x2 : RX (up s1 0 0 0 9 1) 2 P g := (r1 P g h.x).keepo (fun t i x a b => up_o (by omega))
    refine PU.I (P_W_freePages x0.1) (PU.I (P_bitCount fi.1 fi.2 _) ?_)
    show wpM m_Z_image _ _ _
    refine T_Z_image _ _ _ _ ?_
    rw [f1 40 0 0 11 (by omega) (by omega)]
    refine And.intro (fun _ => ?_) (fun q => absurd (show bz (σ 40 0 0 11) ≠ 0 by omega) q)
    refine L_Z_image _ 526 0 _ (by omega) (by omega) (fun s2 a1 a2 => ?_)
    have f2 : ∀ (t : Nat) (k i x : Int), ¬ (12 ≤ t ∧ t ≤ 29 ∧ k = 2) → ¬ (t = 0 ∧ x = 9) → t ≠ 51 → ¬ (t = 40 ∧ x = 23) → up s2 40 0 0 23 1 t k i x = σ t k i x := by
      intro t k i x h1 h2 h3 h4
      rw [← f1 t k i x h1 h2, ← a1 t k i x h3]
      unfold up
      rw [if_neg (fun z => h4 ⟨z.1, z.2.2.2⟩)]
    have z2 : ZS (up s2 40 0 0 23 1) P g := h.z.keepo (fun x => f2 _ _ _ _ (by omega) (by omega) (by omega) (by omega)) (fun x => f2 _ _ _ _ (by omega) (by omega) (by omega) (by omega)) (f2 _ _ _ _ (by omega) (by omega) (by omega) (by omega))
    refine PU.I (P_Z_freeSet z2) (PU.I (P_Z_bits _ _) ?_)
    refine K _ _ ⟨P, g, z2, h.x.keepo (fun t i x a b => f2 _ _ _ _ (by omega) (by omega) (by omega) (by omega)), h.w.mono (by omega) hn, h.m.keep (f2 _ _ _ _ (by omega) (by omega) (by omega) (by omega)) (fun x => f2 _ _ _ _ (by omega) (by omega) (by omega) (by omega)) (fun x => f2 _ _ _ _ (by omega) (by omega) (by omega) (by omega)), fun i i0 i1 => ?_, h.t.keep (f2 _ _ _ _ (by omega) (by omega) (by omega) (by omega)) (f2 _ _ _ _ (by omega) (by omega) (by omega) (by omega)) (fun x => f2 _ _ _ _ (by omega) (by omega) (by omega) (by omega)) (fun x => f2 _ _ _ _ (by omega) (by omega) (by omega) (by omega)), h.s.keep (f2 _ _ _ _ (by omega) (by omega) (by omega) (by omega)) (f2 _ _ _ _ (by omega) (by omega) (by omega) (by omega)) (fun m a b => f2 _ _ _ _ (by omega) (by omega) (by omega) (by omega)) (fun m x a b => f2 _ _ _ _ (by omega) (by omega) (by omega) (by omega)) (fun x a => f2 _ _ _ _ (by omega) (by omega) (by omega) (by omega)) (fun x a => f2 _ _ _ _ (by omega) (by omega) (by omega) (by omega)), h.u.keep (by omega) hn (f2 _ _ _ _ (by omega) (by omega) (by omega) (by omega)) (f2 _ _ _ _ (by omega) (by omega) (by omega) (by omega)) (f2 _ _ _ _ (by omega) (by omega) (by omega) (by omega)) (fun x => f2 _ _ _ _ (by omega) (by omega) (by omega) (by omega)) (fun t k i x a b c d => f2 _ _ _ _ (by omega) (by omega) (by omega) (by omega)), ?_⟩
    · rw [f2 10 0 0 i (by omega) (by omega) (by omega) (by omega), f2 47 0 0 i (by omega) (by omega) (by omega) (by omega)]
      exact h.r.eq i i0 i1
    · unfold IMi
      rw [up_s, if_pos rfl, up_o (by decide), a1 0 0 0 9 (by decide), up_s, if_pos rfl]
      refine ⟨rfl, fun _ => ⟨np, g, fun x y0 y1 => ?_, x2.keepo (fun t i x a b => ?_), h.w.mono (by omega) hn⟩⟩
      · rw [up_o (by decide), a2 x, if_pos ⟨y0, y1⟩, f1 46 0 0 x (by omega) (by omega)]
        exact h.z.now x y0 y1
      · rw [up_o (by omega), a1 t 2 i x (by omega)]
  · show wpM m_Z_image _ _ _
    refine T_Z_image _ _ _ _ ?_
    exact And.intro (fun q => absurd (show bz (σ 40 0 0 11) = 0 by omega) q) (fun _ => K _ _ ⟨P, g, h.mono (by omega) hn⟩)
theorem L_Z_back (Q : Option AV → ST → Prop) : ∀ (n : Nat) (i : Int) (σ : ST), i + n = 526 → 0 ≤ i → (∀ s, (∀ (t : Nat) (k i x : Int), t ≠ 46 → s t k i x = σ t k i x) → (∀ x, s 46 0 0 x = if i ≤ x ∧ x < 526 then σ 51 0 0 x else σ 46 0 0 x) → wpM m_Z_freeSet [zz] (up s 40 0 0 18 0) (asI fun r101 s101 => wpM m_Z_bits [.inl r101] s101 (asI fun r102 s102 => Q (some (.inl r102)) s102))) → wp m_Z_back (11, [some zz, some (.inl i)], [], σ) Q
  | 0, i, σ, h, h0, K => by
    refine T_Z_back_11 _ _ _ _ _ ?_
    refine And.intro (fun _ => K σ (fun _ _ _ _ _ => rfl) (fun x => (if_neg (by omega)).symm)) (fun q => absurd (show (526 : Int) ≤ i by omega) q)
  | n + 1, i, σ, h, h0, K => by
    refine T_Z_back_11 _ _ _ _ _ ?_
    rw [wr_id (x := i + 1) (by omega)]
    refine And.intro (fun q => absurd q (by omega)) (fun _ => And.intro (by omega) (And.intro (by omega) ?_))
    refine L_Z_back Q n (i + 1) _ (by omega) (by omega) (fun s a1 a2 => K s (fun t k i x ht => (a1 t k i x ht).trans (up_o ht)) (fun x => ?_))
    rw [a2 x, up_o (by decide), up_s]
    by_cases z : x = i
    · rw [if_neg (show ¬ (i + 1 ≤ x ∧ x < 526) by omega), if_pos z, if_pos (show i ≤ x ∧ x < 526 by omega), z]
    · by_cases y : i + 1 ≤ x ∧ x < 526
      · rw [if_pos y, if_pos (show i ≤ x ∧ x < 526 by omega)]
      · rw [if_neg y, if_neg (show ¬ (i ≤ x ∧ x < 526) by omega), if_neg z]
theorem PR_back : PRf m_X_back m_Z_back [] := by
  intro σ n hI hn F K
  obtain ⟨P, g, h⟩ := hI
  have p0 := h.u.p0
  have p1 := h.u.p1
  have ei := h.i.eq
  refine T_X_back _ _ _ _ ?_
  refine And.intro (fun hm => ?_) (fun hm => ?_)
  · obtain ⟨np, gi, c, d, e⟩ := h.i.img (by omega)
    have fi := fs_in (g := gi) h.z.ok
    refine C_W_take (k := 0) (by omega) (fun s1 o1 r1 => ?_)
    have f1 : ∀ (t : Nat) (k i x : Int), ¬ (12 ≤ t ∧ t ≤ 29 ∧ k = 0) → ¬ (t = 0 ∧ x = 12) → up s1 0 0 0 12 0 t k i x = σ t k i x := by
      intro t k i x h1 h2
      rw [← o1 t k i x (fun z => h1 ⟨z.2.1, z.2.2, z.1⟩)]
      unfold up
      rw [if_neg (fun z => h2 ⟨z.1, z.2.2.2⟩)]
    have x0 : RX (up s1 0 0 0 12 0) 0 P gi := (r1 P gi d).keepo (fun t i x a b => up_o (by omega))
    refine PU.I (P_W_freePages x0.1) (PU.I (P_bitCount fi.1 fi.2 _) ?_)
    show wpM m_Z_back _ _ _
    refine T_Z_back _ _ _ _ ?_
    rw [f1 40 0 0 23 (by omega) (by omega)]
    refine And.intro (fun _ => ?_) (fun q => absurd (show bz (σ 40 0 0 23) ≠ 0 by omega) q)
    refine L_Z_back _ 526 0 _ (by omega) (by omega) (fun s2 a1 a2 => ?_)
    have f2 : ∀ (t : Nat) (k i x : Int), ¬ (12 ≤ t ∧ t ≤ 29 ∧ k = 0) → ¬ (t = 0 ∧ x = 12) → t ≠ 46 → ¬ (t = 40 ∧ x = 18) → up s2 40 0 0 18 0 t k i x = σ t k i x := by
      intro t k i x h1 h2 h3 h4
      rw [← f1 t k i x h1 h2, ← a1 t k i x h3]
      unfold up
      rw [if_neg (fun z => h4 ⟨z.1, z.2.2.2⟩)]
    have z2 : ZS (up s2 40 0 0 18 0) P gi := h.z.anew np (fun x y0 y1 => by rw [up_o (by decide), a2 x, if_pos ⟨y0, y1⟩, f1 51 0 0 x (by omega) (by omega)]; exact c x y0 y1) (fun x => f2 _ _ _ _ (by omega) (by omega) (by omega) (by omega)) (f2 _ _ _ _ (by omega) (by omega) (by omega) (by omega))
    refine PU.I (P_Z_freeSet z2) (PU.I (P_Z_bits _ _) ?_)
    refine K _ _ ⟨P, gi, z2, x0.keepo (fun t i x a b => ?_), e.mono (by omega) hn, h.m.keep (f2 _ _ _ _ (by omega) (by omega) (by omega) (by omega)) (fun x => f2 _ _ _ _ (by omega) (by omega) (by omega) (by omega)) (fun x => f2 _ _ _ _ (by omega) (by omega) (by omega) (by omega)), fun i i0 i1 => ?_, h.t.keep (f2 _ _ _ _ (by omega) (by omega) (by omega) (by omega)) (f2 _ _ _ _ (by omega) (by omega) (by omega) (by omega)) (fun x => f2 _ _ _ _ (by omega) (by omega) (by omega) (by omega)) (fun x => f2 _ _ _ _ (by omega) (by omega) (by omega) (by omega)), h.s.keep (f2 _ _ _ _ (by omega) (by omega) (by omega) (by omega)) (f2 _ _ _ _ (by omega) (by omega) (by omega) (by omega)) (fun m a b => f2 _ _ _ _ (by omega) (by omega) (by omega) (by omega)) (fun m x a b => f2 _ _ _ _ (by omega) (by omega) (by omega) (by omega)) (fun x a => f2 _ _ _ _ (by omega) (by omega) (by omega) (by omega)) (fun x a => f2 _ _ _ _ (by omega) (by omega) (by omega) (by omega)), ?_, h.i.keep (by omega) hn (f2 _ _ _ _ (by omega) (by omega) (by omega) (by omega)) (f2 _ _ _ _ (by omega) (by omega) (by omega) (by omega)) (fun x => f2 _ _ _ _ (by omega) (by omega) (by omega) (by omega)) (fun t i x a b => f2 _ _ _ _ (by omega) (by omega) (by omega) (by omega))⟩
    · rw [up_o (by omega), a1 t 0 i x (by omega)]
    · rw [f2 10 0 0 i (by omega) (by omega) (by omega) (by omega), f2 47 0 0 i (by omega) (by omega) (by omega) (by omega)]
      exact h.r.eq i i0 i1
    · unfold UNi
      rw [up_s, if_pos rfl, up_o (by decide), up_o (by decide), a1 0 0 0 12 (by decide), up_s, if_pos rfl, a1 0 0 0 11 (by decide), f1 0 0 0 11 (by omega) (by omega)]
      exact ⟨by omega, by omega, rfl, p0, p1, fun _ => rfl, fun j a b => absurd a (by omega)⟩
  · show wpM m_Z_back _ _ _
    refine T_Z_back _ _ _ _ ?_
    exact And.intro (fun q => absurd (show bz (σ 40 0 0 23) = 0 by omega) q) (fun _ => K _ _ ⟨P, g, h.mono (by omega) hn⟩)
end IMG
