/-! the component's steps and scripts -/
abbrev Fs4 (σ s : ST) : Prop := ∀ (t : Nat) (k i x : Int), ¬ ((t = 5 ∨ t = 6) ∧ k = 4) → s t k i x = σ t k i x
theorem many_in {k : Int} (h0 : 0 ≤ k) (h1 : k < 16) : 0 ≤ stv 65 k ∧ stv 65 k ≤ 5 := by
  rcases (show k = 0 ∨ k = 1 ∨ k = 2 ∨ k = 3 ∨ k = 4 ∨ k = 5 ∨ k = 6 ∨ k = 7 ∨ k = 8 ∨ k = 9 ∨ k = 10 ∨ k = 11 ∨ k = 12 ∨ k = 13 ∨ k = 14 ∨ k = 15 by omega) with rfl | rfl | rfl | rfl | rfl | rfl | rfl | rfl | rfl | rfl | rfl | rfl | rfl | rfl | rfl | rfl <;> decide
theorem nuF_s (h : Int → Int) (d : Nat) (x p : Int) (r : Int → Int) : nuF h (d + 1) x p r = if 1 < x ∧ h (sk isBl h p) ≠ 44 then (sk isBl h p, p, r) else if nm h (nuQ h x p) < 0 ∨ 999 < nm h (nuQ h x p) then (nuQ h x p, p, r) else nuF h d (x + 1) (sk isDg h (nuQ h x p)) (put r x (nm h (nuQ h x p))) := rfl
theorem nuQ_in {h : Int → Int} {L x p : Int} (H : HH h L) (p0 : 0 ≤ p) (p1 : p ≤ L) (hc : ¬ (1 < x ∧ h (sk isBl h p) ≠ 44)) : p ≤ nuQ h x p ∧ nuQ h x p ≤ L := by
  have a := sk_b H bl_m1 p0 p1
  unfold nuQ
  by_cases q : 1 < x
  · rw [if_pos q]
    have e : h (sk isBl h p) = 44 := Classical.not_not.1 (fun z => hc ⟨q, z⟩)
    have lt := hh_lt H (i := sk isBl h p) (by rw [e]; decide)
    have b := sk_b H bl_m1 (i := sk isBl h p + 1) (by omega) (by omega)
    omega
  · rw [if_neg q]
    exact a
theorem nuF_in {h : Int → Int} {L : Int} (H : HH h L) : ∀ (d : Nat) (x p : Int) (r : Int → Int), 0 ≤ p → p ≤ L → (nuF h d x p r).1 = -1 → p ≤ (nuF h d x p r).2.1 ∧ (nuF h d x p r).2.1 ≤ L
  | 0, x, p, r, p0, p1, _ => ⟨Int.le_refl _, p1⟩
  | d + 1, x, p, r, p0, p1, e => by
    have a := sk_b H bl_m1 p0 p1
    rw [nuF_s] at e ⊢
    by_cases c1 : 1 < x ∧ h (sk isBl h p) ≠ 44
    · rw [if_pos c1] at e
      exact absurd (show sk isBl h p = -1 from e) (by omega)
    · have b := nuQ_in H p0 p1 c1
      rw [if_neg c1] at e ⊢
      by_cases c2 : nm h (nuQ h x p) < 0 ∨ 999 < nm h (nuQ h x p)
      · rw [if_pos c2] at e
        exact absurd (show nuQ h x p = -1 from e) (by omega)
      · rw [if_neg c2] at e ⊢
        have c := sk_b H dg_m1 (show 0 ≤ nuQ h x p by omega) b.2
        have r := nuF_in H d _ _ _ (by omega) c.2 e
        exact ⟨by omega, r.2⟩
theorem stF_in {h : Int → Int} {L i : Int} (H : HH h L) (i0 : 0 ≤ i) (i1 : i ≤ L) (e : (stF h i).1 = -1) : i ≤ (stF h i).2.1 ∧ (stF h i).2.1 ≤ L ∧ 0 ≤ stK h i ∧ stK h i < 16 := by
  have a := rE_in H i0 i1
  unfold stF at e ⊢
  by_cases q : stK h i < 0
  · rw [if_pos q] at e
    exact absurd (show rA h i = -1 from e) (by omega)
  · rw [if_neg q] at e ⊢
    have r := nuF_in H _ _ _ _ (by omega) a.2.2.2 e
    have z : stK h i = -1 ∨ (0 ≤ stK h i ∧ stK h i < 16) := (stK_in h i).imp id (fun z => ⟨z.1, z.2.1⟩)
    exact ⟨by omega, r.2, by omega, by omega⟩
section CTU
variable {σ s : ST} {h T R : Int → Int} {L i m k : Int}
theorem P_has4 (e : s 5 4 0 0 = m) (x : Int) : PU m_Script_hasStep [sc4, .inl x] s (b2 (0 ≤ x ∧ x < m ∧ x < 12)) := by
  refine PU.mk fun Q hQ => T_Script_hasStep _ _ _ _ _ ?_
  rw [e]
  (repeat' (first | (refine And.intro ?_ ?_) | (intro hzq; simp only [b2_e0, b2_e1, Classical.not_not, ne_eq] at hzq) | (intro hzq) | exact Or.inl rfl | exact Or.inr rfl)) <;> try omega
  all_goals (first | exact hQ _ (b2_l (by omega)) | exact hQ _ (b2_h (by omega)))
theorem C_write {j v : Int} (e : s 5 4 0 0 = m + 1) (m0 : 0 ≤ m) (m1 : m < 12) (j0 : 0 ≤ j) (j1 : j < 6) {F : ST → Prop} (K : F (up s 6 4 0 (6 * m + j) v)) : wpM m_Script_write [sc4, .inl j, .inl v] s (asV F) := by
  refine T_Script_write _ _ _ _ _ _ ?_
  refine PU.I (P_has4 e _) ?_
  rw [e, wr_id (x := m + 1 - 1) (by omega), wr_id (x := (m + 1 - 1) * 6) (by omega), wr_id (x := (m + 1 - 1) * 6 + j) (by omega), show (m + 1 - 1) * 6 + j = 6 * m + j by omega]
  refine And.intro (fun z => ?_) (fun _ => And.intro (fun z => absurd z (by omega)) (fun _ => And.intro (fun _ => And.intro ⟨by omega, by omega⟩ K) (fun z => absurd z (by omega))))
  rw [b2_e0] at z
  exact absurd (show 0 ≤ m + 1 - 1 ∧ m + 1 - 1 < m + 1 ∧ m + 1 - 1 < 12 by omega) z
theorem L_open (m0 : 0 ≤ m) (m1 : m < 12) {Q : Option AV → ST → Prop} (K : ∀ s', Fs4 σ s' → s' 5 4 0 0 = m + 1 → (∀ y, y < 6 * m → s' 6 4 0 y = σ 6 4 0 y) → (∀ j, 0 ≤ j → j < 6 → s' 6 4 0 (6 * m + j) = row0 k j) → Q none s') : ∀ (d : Nat) (x : Int) (s : ST), x + d = 6 → 0 ≤ x → Fs4 σ s → s 5 4 0 0 = m + 1 → (∀ y, y < 6 * m → s 6 4 0 y = σ 6 4 0 y) → (∀ j, 0 ≤ j → j < x → s 6 4 0 (6 * m + j) = -1) → wp m_Script_open (29, [some sc4, some (.inl k), some (.inl x)], [], s) Q
  | d, x, s, hd, x0, f, e, ho, hr => by
    refine T_Script_open_29 _ _ _ _ _ _ ?_
    match d, hd with
    | 0, hd =>
      refine And.intro (fun _ => ?_) (fun q => absurd (show 6 ≤ x by omega) q)
      refine C_write e m0 m1 (by omega) (by omega) (K _ (fun t k i y hn => ?_) ?_ (fun y hy => ?_) (fun j j0 j1 => ?_))
      · unfold up
        rw [if_neg (by omega)]
        exact f t k i y hn
      · rw [up_o (by decide)]; exact e
      · rw [up_s, if_neg (by omega)]; exact ho y hy
      · rw [up_s]
        unfold row0
        by_cases q : j = 0
        · rw [if_pos (by omega), if_pos q]
        · rw [if_neg (by omega), if_neg q]
          exact hr j j0 (by omega)
    | d + 1, hd =>
      refine And.intro (fun q => absurd q (by omega)) (fun _ => ?_)
      rw [wr_id (x := x + 1) (by omega)]
      refine C_write e m0 m1 x0 (by omega) (L_open m0 m1 K d (x + 1) _ (by omega) (by omega) (fun t k i y hn => ?_) ?_ (fun y hy => ?_) (fun j j0 j1 => ?_))
      · unfold up
        rw [if_neg (by omega)]
        exact f t k i y hn
      · rw [up_o (by decide)]; exact e
      · rw [up_s, if_neg (by omega)]; exact ho y hy
      · rw [up_s]
        by_cases q : j = x
        · rw [if_pos (by omega)]
        · rw [if_neg (by omega)]
          exact hr j j0 (by omega)
theorem C_open (e : s 5 4 0 0 = m) (m0 : 0 ≤ m) (m1 : m < 12) {F : ST → Prop} (K : ∀ s', Fs4 s s' → s' 5 4 0 0 = m + 1 → (∀ y, y < 6 * m → s' 6 4 0 y = s 6 4 0 y) → (∀ j, 0 ≤ j → j < 6 → s' 6 4 0 (6 * m + j) = row0 k j) → F s') : wpM m_Script_open [sc4, .inl k] s (asV F) := by
  refine T_Script_open _ _ _ _ _ ?_
  rw [e, wr_id (x := m + 1) (by omega)]
  refine And.intro (fun q => absurd q (by omega)) (fun _ => And.intro (fun _ => ?_) (fun q => absurd q (by omega)))
  refine L_open (σ := s) m0 m1 (fun s' a b c d => K s' a b c d) 6 0 _ (by omega) (by omega) (fun t k i y hn => ?_) (by rw [up_s, if_pos rfl]) (fun y hy => up_o (by decide)) (fun j j0 j1 => absurd j1 (by omega))
  unfold up
  rw [if_neg (by omega)]
theorem Fc_s {s2 : ST} (f : Fc σ s) (f2 : Fs4 s s2) : Fc σ s2 := fun t k i x hn => (f2 t k i x (by omega)).trans (f t k i x hn)
theorem TBx.fs {s2 : ST} (B : TBx s h L i) (f : Fs4 s s2) : TBx s2 h L i := ⟨B.H, (f _ _ _ _ (by omega)).trans B.len, fun x a b => (f _ _ _ _ (by omega)).trans (B.byt x a b), (f _ _ _ _ (by omega)).trans B.pos, B.i0, B.i1⟩
theorem L_nums (k0 : 0 ≤ k) (k1 : k < 16) (m0 : 0 ≤ m) (m1 : m < 12) {Q : Option AV → ST → Prop} : ∀ (d : Nat) (x p : Int) (r : Int → Int) (s : ST) (o1 o4 o5 : Option AV), x + d = stv 65 k + 1 → 1 ≤ x → TBx s h L p → Fc σ s → s 5 4 0 0 = m + 1 → (∀ y, y < 6 * m → s 6 4 0 y = σ 6 4 0 y) → (∀ j, 0 ≤ j → j < 6 → s 6 4 0 (6 * m + j) = r j) → (∀ s', Fc σ s' → (nuF h d x p r).1 ≠ -1 → Q (some (.inl (nuF h d x p r).1)) s') →
    (∀ s', Fc σ s' → (nuF h d x p r).1 = -1 → TBx s' h L (nuF h d x p r).2.1 → s' 5 4 0 0 = m + 1 → (∀ y, y < 6 * m → s' 6 4 0 y = σ 6 4 0 y) → (∀ j, 0 ≤ j → j < 6 → s' 6 4 0 (6 * m + j) = (nuF h d x p r).2.2 j) → Q (some (.inl (-1))) s') → wp m_Tape_readStep (41, [some tp, o1, some (.inl k), some (.inl x), o4, o5], [], s) Q
  | d, x, p, r, s, o1, o4, o5, hd, x1, B, f, e, ho, hr, K0, K1 => by
    have p0 := B.i0
    have p1 := B.i1
    have l1 := B.H.l1
    have mi := many_in k0 k1
    refine T_Tape_readStep_41 _ _ _ _ _ _ _ _ _ ?_
    refine And.intro ⟨k0, k1⟩ ?_
    match d, hd, K0, K1 with
    | 0, hd, K0, K1 => exact And.intro (fun _ => K1 s f rfl B e ho hr) (fun q => absurd (show stv 65 k < x by omega) q)
    | d + 1, hd, K0, K1 =>
      rw [nuF_s] at K0 K1
      refine And.intro (fun q => absurd q (by omega)) (fun _ => ?_)
      have go : ∀ s2 o1 o4 o5, ¬ (1 < x ∧ h (sk isBl h p) ≠ 44) → Fa s s2 → TBx s2 h L (nuQ h x p) → wp m_Tape_readStep (87, [some tp, o1, some (.inl k), some (.inl x), o4, o5], [], s2) Q := by
        intro s2 o1 o4 o5 c1 f2 B2
        rw [if_neg c1] at K0 K1
        refine T_Tape_readStep_87 _ _ _ _ _ _ _ _ _ ?_
        refine C_num B2 (fun s3 y f3 B3 hy => ?_)
        unfold R9 at hy
        have f03 : Fc σ s3 := Fc_a (Fc_a f f2) f3
        have q0 := B2.i0
        have bad : nm h (nuQ h x p) < 0 ∨ 999 < nm h (nuQ h x p) → Q (some (.inl (s2 1 0 0 2))) s3 := by
          intro c2
          rw [if_pos c2] at K0
          rw [B2.pos]
          exact K0 s3 f03 (by show nuQ h x p ≠ -1; omega)
        refine And.intro (fun q => bad (by omega)) (fun q => And.intro (fun q2 => ?_) (fun q2 => bad (by omega)))
        have ey : y = nm h (nuQ h x p) := by omega
        rw [ey] at q q2 ⊢
        rw [if_neg (show ¬ (nm h (nuQ h x p) < 0 ∨ 999 < nm h (nuQ h x p)) by omega)] at K0 K1
        have e3 : s3 5 4 0 0 = m + 1 := (f3 _ _ _ _ (by omega)).trans ((f2 _ _ _ _ (by omega)).trans e)
        have c6 : ∀ y, s3 6 4 0 y = s 6 4 0 y := fun y => (f3 _ _ _ _ (by omega)).trans (f2 _ _ _ _ (by omega))
        refine C_write e3 m0 m1 (by omega) (by omega) ?_
        rw [wr_id (x := x + 1) (by omega)]
        refine L_nums k0 k1 m0 m1 d (x + 1) _ _ _ _ _ _ (by omega) (by omega) (B3.fs (fun t k i y hn => ?_)) (Fc_s f03 (fun t k i y hn => ?_)) (by rw [up_o (by decide)]; exact e3) (fun y hy => ?_) (fun j j0 j1 => ?_) K0 K1
        · unfold up
          rw [if_neg (by omega)]
        · unfold up
          rw [if_neg (by omega)]
        · rw [up_s, if_neg (by omega), c6]; exact ho y hy
        · rw [up_s]
          unfold put
          by_cases z : j = x
          · rw [if_pos (by omega), if_pos z]
          · rw [if_neg (by omega), if_neg z, c6]
            exact hr j j0 j1
      refine C_skB B (fun s1 f1 B1 => ?_)
      refine And.intro (fun q => ?_) (fun q => ?_)
      · refine go s1 _ _ _ (fun z => absurd z.1 (by omega)) f1 ?_
        unfold nuQ
        rw [if_neg (by omega)]
        exact B1
      · refine PU.I (P_stands B1 (by omega)) ?_
        have s0 := B1.i0
        refine And.intro (fun z => ?_) (fun z => ?_)
        · have z2 : h (sk isBl h p) = 44 := by
            by_cases w : h (sk isBl h p) = 44
            · exact w
            · exact absurd (b2_l w).symm z
          have lt := hh_lt B1.H (i := sk isBl h p) (by rw [z2]; decide)
          rw [B1.pos, wr_id (x := sk isBl h p + 1) (by omega)]
          refine C_skB (B1.st lt) (fun s2 f2 B2 => ?_)
          refine go s2 _ _ _ (fun w => w.2 z2) (fun t k i y hn => ?_) ?_
          · rw [f2 t k i y hn]
            exact Fa_up f1 t k i y hn
          · unfold nuQ
            rw [if_pos (by omega)]
            exact B2
        · rw [Classical.not_not, b2_e0] at z
          rw [if_pos ⟨by omega, z⟩] at K0
          rw [B1.pos]
          exact K0 s1 (Fc_a f f1) (by show sk isBl h p ≠ -1; omega)
theorem C_rstep (B : TBx s h L i) (e : s 5 4 0 0 = m) (m0 : 0 ≤ m) (m1 : m < 12) {F : Int → ST → Prop} (K0 : ∀ s', Fc s s' → (stF h i).1 ≠ -1 → F (stF h i).1 s')
    (K1 : ∀ s', Fc s s' → (stF h i).1 = -1 → TBx s' h L (stF h i).2.1 → s' 5 4 0 0 = m + 1 → (∀ y, y < 6 * m → s' 6 4 0 y = s 6 4 0 y) → (∀ j, 0 ≤ j → j < 6 → s' 6 4 0 (6 * m + j) = (stF h i).2.2 j) → F (-1) s') : wpM m_Tape_readStep [tp] s (asI F) := by
  have i0 := B.i0
  have i1 := B.i1
  have rE' := rE_in B.H i0 i1
  refine T_Tape_readStep _ _ _ _ ?_
  refine C_skB B (fun s1 f1 B1 => ?_)
  refine C_skL B1 (fun s2 f2 B2 => ?_)
  have f12 : Fc s s2 := Fc_a (Fc_a (Fc_re s) f1) f2
  rw [B1.pos]
  refine PU.I ((P_sOf B2 (a := rA h i) (by omega) rE'.2.2.1).to (r' := stK h i) rfl) ?_
  have kin : stK h i = -1 ∨ (0 ≤ stK h i ∧ stK h i < 16) := (stK_in h i).imp id (fun z => ⟨z.1, z.2.1⟩)
  unfold stF at K0 K1
  refine And.intro (fun q => ?_) (fun q => And.intro (fun q2 => ?_) (fun q2 => absurd (show stK h i < 16 by omega) q2))
  · rw [if_pos q] at K0
    exact K0 s2 f12 (by show rA h i ≠ -1; omega)
  · rw [if_neg q] at K0 K1
    have mi := many_in (k := stK h i) (by omega) q2
    have e2 : s2 5 4 0 0 = m := (f2 _ _ _ _ (by omega)).trans ((f1 _ _ _ _ (by omega)).trans e)
    refine C_open (k := stK h i) e2 m0 m1 (fun s3 f3 e3 ho hr => ?_)
    refine L_nums (σ := s) (by omega) q2 m0 m1 (stv 65 (stK h i)).toNat 1 (rE h i) _ s3 _ _ _ (by omega) (by omega) (B2.fs f3) (Fc_s f12 f3) e3 (fun y hy => ?_) hr (fun s' a b => K0 s' a b) (fun s' a b c d e f => K1 s' a b c d e f)
    rw [ho y hy, f2 _ _ _ _ (by omega), f1 _ _ _ _ (by omega)]
theorem scF_s (h : Int → Int) (d : Nat) (i m : Int) (C : Int → Int) : scF h (d + 1) i m C = if (stF h i).1 ≠ -1 then ((stF h i).1, m, C) else if h (stB2 h i) = -1 then (-1, m + 1, rowW C m (stF h i).2.2) else if h (stB2 h i) ≠ 59 ∨ 12 ≤ m + 1 then (stB2 h i, m + 1, C) else scF h d (stB2 h i + 1) (m + 1) (rowW C m (stF h i).2.2) := rfl
theorem L_scr {Q : Option AV → ST → Prop} : ∀ (d : Nat) (i m : Int) (s : ST) (C : Int → Int) (o3 : Option AV), L - i < d → 0 ≤ m → m < 12 → TBx s h L i → Fc σ s → s 5 4 0 0 = m → (∀ y, 0 ≤ y → y < 6 * m → s 6 4 0 y = C y) → (∀ s', Fc σ s' → ((scF h d i m C).1 = -1 → s' 5 4 0 0 = (scF h d i m C).2.1 ∧ ∀ y, 0 ≤ y → y < 6 * (scF h d i m C).2.1 → s' 6 4 0 y = (scF h d i m C).2.2 y) → Q (some (.inl (scF h d i m C).1)) s') → wp m_Tape_faultAs (6, [some tp, some (.inl 1), some (.inl (m + 1)), o3], [], s) Q
  | 0, i, m, s, C, o3, hd, m0, m1, B, f, e, hc, K => absurd hd (by have := B.i1; omega)
  | d + 1, i, m, s, C, o3, hd, m0, m1, B, f, e, hc, K => by
    have i0 := B.i0
    have i1 := B.i1
    have l1 := B.H.l1
    refine T_Tape_faultAs_6 _ _ _ _ _ _ _ ?_
    refine And.intro (fun q => absurd q (by omega)) (fun _ => And.intro (fun _ => ?_) (fun q => absurd (show (1 : Int) ≠ 0 by decide) q))
    rw [scF_s] at K
    refine C_rstep B e m0 m1 (fun s1 f1 ne => ?_) (fun s1 f1 eq B1 e1 ho hr => ?_)
    · rw [if_pos ne] at K
      refine T_Tape_faultAs_28 _ _ _ _ _ _ _ _ ?_
      exact And.intro (fun q => absurd q ne) (fun _ => K s1 (fun t k i x hn => (f1 t k i x hn).trans (f t k i x hn)) (fun q => absurd q ne))
    · rw [if_neg (fun q => q eq)] at K
      have si := stF_in B.H i0 i1 eq
      have bl : (stF h i).2.1 ≤ stB2 h i ∧ stB2 h i ≤ L := sk_b B.H bl_m1 (show 0 ≤ (stF h i).2.1 by omega) si.2.1
      refine T_Tape_faultAs_28 _ _ _ _ _ _ _ _ ?_
      refine And.intro (fun _ => ?_) (fun q => absurd rfl q)
      refine C_skB B1 (fun s2 f2 B2 => ?_)
      rw [B2.pos, B2.len]
      have f02 : Fc σ s2 := fun t k i x hn => (f2 t k i x (by omega)).trans ((f1 t k i x hn).trans (f t k i x hn))
      have e2 : s2 5 4 0 0 = m + 1 := (f2 _ _ _ _ (by omega)).trans e1
      have c2 : ∀ y, 0 ≤ y → y < 6 * (m + 1) → s2 6 4 0 y = rowW C m (stF h i).2.2 y := by
        intro y y0 y1
        rw [f2 _ _ _ _ (by omega)]
        unfold rowW
        by_cases q : 6 * m ≤ y ∧ y < 6 * m + 6
        · rw [if_pos q]
          have := hr (y - 6 * m) (by omega) (by omega)
          rw [show 6 * m + (y - 6 * m) = y by omega] at this
          exact this
        · rw [if_neg q, ho y (by omega)]
          exact hc y y0 (by omega)
      refine And.intro (fun q => ?_) (fun q => ?_)
      · replace q : stB2 h i < L := q
        have b0 := B.H.byt (stB2 h i) (by omega) q
        rw [if_neg (show ¬ h (stB2 h i) = -1 by omega)] at K
        refine PU.I (P_stands B2 (by omega)) ?_
        have bad : h (stB2 h i) ≠ 59 ∨ 12 ≤ m + 1 → Q (some (.inl (s2 1 0 0 2))) s2 := by
          intro z
          rw [if_pos z] at K
          rw [B2.pos]
          exact K s2 f02 (fun w => absurd w (by show ¬ stB2 h i = -1; omega))
        refine And.intro (fun z => ?_) (fun z => ?_)
        · rw [b2_e0] at z
          exact bad (Or.inl z)
        · rw [b2_e0] at z
          have z2 : h (stB2 h i) = 59 := Classical.not_not.1 z
          refine And.intro (fun w => absurd rfl w) (fun _ => And.intro (fun q12 => ?_) (fun q12 => bad (Or.inr (by omega))))
          rw [if_neg (show ¬ (h (stB2 h i) ≠ 59 ∨ 12 ≤ m + 1) by omega)] at K
          refine T_Tape_faultAs_78 _ _ _ _ _ _ _ ?_
          rw [B2.pos, wr_id (x := m + 1 + 1) (by omega), wr_id (x := stB2 h i + 1) (by omega)]
          exact L_scr d (stB2 h i + 1) (m + 1) _ _ _ (by omega) (by omega) (by omega) (B2.st q) (Fc_a f02 (Fa_up (Fa_re s2))) (by rw [up_o (by decide)]; exact e2) (fun y a b => by rw [up_o (by decide)]; exact c2 y a b) K
      · replace q : ¬ stB2 h i < L := q
        rw [if_pos (show h (stB2 h i) = -1 from B.H.out _ (by omega))] at K
        exact K s2 f02 (fun _ => ⟨e2, c2⟩)
/-- its start -/
theorem L_beg {Q : Option AV → ST → Prop} (K : ∀ s', Fc σ s' → s' 1 0 0 2 = 0 → s' 5 4 0 0 = 0 → (∀ k, 0 ≤ k → k < 4 → s' 4 0 0 k = 0) → (∀ k, 0 ≤ k → k < 4 → s' 3 0 0 k = stv 64 k) → Q none s') : ∀ (d : Nat) (x : Int) (s : ST), x + d = 4 → 0 ≤ x → Fc σ s → s 1 0 0 2 = 0 → s 5 4 0 0 = 0 → (∀ k, 0 ≤ k → k < x → s 4 0 0 k = 0) → (∀ k, 0 ≤ k → k < x → s 3 0 0 k = stv 64 k) → wp m_Tape_begin (14, [some tp, some (.inl x)], [], s) Q
  | d, x, s, hd, x0, f, e1, e5, h4, h3 => by
    refine T_Tape_begin_14 _ _ _ _ _ ?_
    match d, hd with
    | 0, hd =>
      exact And.intro (fun _ => K s f e1 e5 (fun k a b => h4 k a (by omega)) (fun k a b => h3 k a (by omega))) (fun q => absurd (show 4 ≤ x by omega) q)
    | d + 1, hd =>
      refine And.intro (fun q => absurd q (by omega)) (fun _ => And.intro ⟨x0, by omega⟩ (And.intro ⟨x0, by omega⟩ (And.intro ⟨⟨x0, by omega⟩, Or.inl rfl⟩ ?_)))
      rw [wr_id (x := x + 1) (by omega)]
      refine L_beg K d (x + 1) _ (by omega) (by omega) (fun t k i y hn => ?_) ?_ ?_ (fun k a b => ?_) (fun k a b => ?_)
      · rw [up_o (by omega), up_o (by omega)]; exact f t k i y hn
      · rw [up_o (by decide), up_o (by decide)]; exact e1
      · rw [up_o (by decide), up_o (by decide)]; exact e5
      · rw [up_s]
        by_cases q : k = x
        · rw [if_pos q]
        · rw [if_neg q, up_o (by decide)]; exact h4 k a (by omega)
      · rw [up_o (by decide), up_s]
        by_cases q : k = x
        · rw [if_pos q, q]
        · rw [if_neg q]; exact h3 k a (by omega)
theorem C_beg (H : HH h L) (e0 : s 1 0 0 0 = L) (eb : ∀ x, 0 ≤ x → x < L → s 2 0 0 x = h x) {F : ST → Prop} (K : ∀ s', Fc s s' → TBx s' h L 0 → s' 5 4 0 0 = 0 → (∀ k, 0 ≤ k → k < 4 → s' 4 0 0 k = 0) → (∀ k, 0 ≤ k → k < 4 → s' 3 0 0 k = stv 64 k) → F s') : wpM m_Tape_begin [tp] s (asV F) := by
  refine T_Tape_begin _ _ _ _ ?_
  refine T_Script_begin _ _ _ _ ?_
  refine L_beg (σ := s) (fun s' f e1 e5 h4 h3 => K s' f ⟨H, (f _ _ _ _ (by omega)).trans e0, fun x a b => (f _ _ _ _ (by omega)).trans (eb x a b), e1, by omega, H.l0⟩ e5 h4 h3) 4 0 _ (by omega) (by omega) (fun t k i y hn => ?_) ?_ ?_ (fun k a b => absurd b (by omega)) (fun k a b => absurd b (by omega))
  · unfold up
    rw [if_neg (by omega), if_neg (by omega)]
  · rw [up_o (by decide), up_s, if_pos rfl]
  · rw [up_s, if_pos rfl]
abbrev maV (h : Int → Int) : Int × (Int → Int) := maF h 321 0 (fun _ => 0) (stv 64)
abbrev scV (h : Int → Int) : Int × Int × (Int → Int) := scF h 321 0 0 (fun _ => 0)
theorem C_fault0 (H : HH h L) (e0 : s 1 0 0 0 = L) (eb : ∀ x, 0 ≤ x → x < L → s 2 0 0 x = h x) {F : Int → ST → Prop} (K : ∀ s', Fc s s' → ((maV h).1 = -1 → ∀ k, 0 ≤ k → k < 4 → s' 3 0 0 k = (maV h).2 k) → F (maV h).1 s') : wpM m_Tape_faultAs [tp, .inl 0] s (asI F) := by
  have l1 := H.l1
  refine T_Tape_faultAs _ _ _ _ _ ?_
  refine C_beg H e0 eb (fun s1 f1 B1 e5 h4 h3 => ?_)
  exact L_mach (σ := s) 321 0 1 s1 _ _ _ (by omega) (by omega) (by omega) B1 f1 (fun k a b => ⟨h4 k a b, Or.inl rfl⟩) h3 (fun s' a b => K s' a b)
theorem C_fault1 (H : HH h L) (e0 : s 1 0 0 0 = L) (eb : ∀ x, 0 ≤ x → x < L → s 2 0 0 x = h x) {F : Int → ST → Prop} (K : ∀ s', Fc s s' → ((scV h).1 = -1 → s' 5 4 0 0 = (scV h).2.1 ∧ ∀ y, 0 ≤ y → y < 6 * (scV h).2.1 → s' 6 4 0 y = (scV h).2.2 y) → F (scV h).1 s') : wpM m_Tape_faultAs [tp, .inl 1] s (asI F) := by
  have l1 := H.l1
  refine T_Tape_faultAs _ _ _ _ _ ?_
  refine C_beg H e0 eb (fun s1 f1 B1 e5 h4 h3 => ?_)
  exact L_scr (σ := s) 321 0 0 s1 _ _ (by omega) (by omega) (by omega) B1 f1 e5 (fun y a b => absurd b (by omega)) (fun s' a b => K s' a b)
end CTU
