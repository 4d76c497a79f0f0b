/-! the reference's steps and scripts -/
section ZTU
variable {σ s : ST} {h T R : Int → Int} {L i j n k m : Int}
theorem Fy_n {s2 : ST} (f : Fy n σ s) (f2 : Fn s s2) : Fy n σ s2 := fun t k i x hn => (f2 t k i x (by omega)).trans (f t k i x hn)
theorem Fy_4 {v : Int} (f : Fy n σ s) : Fy n σ (up s 40 0 0 4 v) := fun t k i x hn => by
  unfold up
  rw [if_neg (by omega)]
  exact f t k i x hn
theorem Fy_c {x v : Int} (hx : 72 * n ≤ x) (f : Fy n σ s) : Fy n σ (up s 44 0 0 x v) := fun t k i y hn => by
  unfold up
  rw [if_neg (by omega)]
  exact f t k i y hn
/-- what a step of the reference owes: where it ends, the row -/
def SK (σ : ST) (h : Int → Int) (L n m : Int) (d : Nat) (x p : Int) (r : Int → Int) (Q : Option AV → ST → Prop) : Prop := (∀ s', Fy n σ s' → s' 45 0 0 n = σ 45 0 0 n → (nuF h d x p r).1 ≠ -1 → s' 40 0 0 4 = (nuF h d x p r).1 → Q none s') ∧ (∀ s', Fy n σ s' → s' 45 0 0 n = σ 45 0 0 n → (nuF h d x p r).1 = -1 → s' 40 0 0 4 = -1 → PT s' h L (sk isBl h (nuF h d x p r).2.1) → (∀ y, y < 72 * n + 6 * m → s' 44 0 0 y = σ 44 0 0 y) → (∀ j, 0 ≤ j → j < 6 → s' 44 0 0 (72 * n + 6 * m + j) = (nuF h d x p r).2.2 j) → Q none s')
theorem L_zend (k0 : 0 ≤ k) (k1 : k < 16) {x1 x3 : Int} (x0 : 0 ≤ x3) (x4 : x3 < 10) {Q : Option AV → ST → Prop} (K : s 40 0 0 4 ≠ -1 → Q none s) (e : s 40 0 0 4 ≠ -1) : wp m_Z_readStep (63, [some zz, some (.inl x1), some (.inl k), some (.inl x3)], [], s) Q := by
  refine T_Z_readStep_63 _ _ _ _ _ _ _ ?_
  refine PU.I (P_many k0 k1) ?_
  exact And.intro (fun _ => K e) (fun _ => And.intro (fun _ => K e) (fun q => absurd e q))
theorem L_zn (k0 : 0 ≤ k) (k1 : k < 16) (n0 : 0 ≤ n) (n1 : n < 5) (m0 : 0 ≤ m) (m1 : m < 12) {Q : Option AV → ST → Prop} : ∀ (d : Nat) (x p : Int) (r : Int → Int) (s : ST), x + d = stv 65 k + 1 → 1 ≤ x → HH h L → 0 ≤ p → p ≤ L → (x = 1 → d ≠ 0 → ZB s h L p) → (x = 1 → d = 0 → PT s h L (sk isBl h p)) → (1 < x → PT s h L (sk isBl h p)) → Fy n σ s → s 45 0 0 n = σ 45 0 0 n → s 40 0 0 4 = -1 → (∀ y, y < 72 * n + 6 * m → s 44 0 0 y = σ 44 0 0 y) → (∀ j, 0 ≤ j → j < 6 → s 44 0 0 (72 * n + 6 * m + j) = r j) → SK σ h L n m d x p r Q → wp m_Z_readStep (63, [some zz, some (.inl (72 * n + 6 * m)), some (.inl k), some (.inl (x - 1))], [], s) Q
  | d, x, p, r, s, hd, x1, H, p0, p1, S1, S2, S3, f, e45, e4, ho, hr, K => by
    have l1 := H.l1
    have mi := many_in k0 k1
    have q1 := sk_b H bl_m1 p0 p1
    match d, hd, K, S1, S2 with
    | 0, hd, K, S1, S2 =>
      refine T_Z_readStep_63 _ _ _ _ _ _ _ ?_
      refine PU.I (P_many k0 k1) ?_
      refine And.intro (fun _ => K.2 s f e45 rfl e4 ?_ ho hr) (fun q => absurd (show stv 65 k ≤ x - 1 by omega) q)
      by_cases z : x = 1
      · exact S2 z rfl
      · exact S3 (by omega)
    | d + 1, hd, K, S1, S2 =>
      unfold SK at K
      rw [nuF_s] at K
      -- a number is read
      have go : ¬ (1 < x ∧ h (sk isBl h p) ≠ 44) → ∀ i', ZB s h L i' → sk isBl h i' = nuQ h x p → wp m_Z_readStep (98, [some zz, some (.inl (72 * n + 6 * m)), some (.inl k), some (.inl (x - 1))], [], s) Q := by
        intro c1 i' B' eq'
        rw [if_neg c1] at K
        have qi := nuQ_in H p0 p1 c1
        refine T_Z_readStep_98 _ _ _ _ _ _ _ ?_
        rw [wr_id (x := 72 * n + 6 * m + 1) (by omega), wr_id (x := 72 * n + 6 * m + 1 + (x - 1)) (by omega), wr_id (x := x - 1 + 1) (by omega)]
        refine C_number B' e4 (by omega) (by omega) (by omega) (fun s2 f2 c2 => ?_) (fun s2 f2 c2 p2 => ?_)
        · rw [eq'] at c2 f2
          rw [if_pos c2] at K
          refine And.intro ⟨by omega, by omega⟩ ?_
          have e42 : up s2 44 0 0 (72 * n + 6 * m + 1 + (x - 1)) 0 40 0 0 4 = nuQ h x p := by rw [up_o (by decide), f2 _ _ _ _ (by omega), up_s, if_pos rfl]
          have ne : nuQ h x p ≠ -1 := by omega
          refine L_zend k0 k1 (by omega) (by omega) (fun _ => K.1 _ (Fy_c (by omega) (Fy_n (Fy_4 f) f2)) ?_ ne e42) (by rw [e42]; exact ne)
          rw [up_o (by decide), f2 _ _ _ _ (by omega), up_o (by decide)]
          exact e45
        · rw [eq'] at c2 p2 ⊢
          rw [if_neg c2] at K
          have dq := sk_b H dg_m1 (show 0 ≤ nuQ h x p by omega) qi.2
          refine And.intro ⟨by omega, by omega⟩ ?_
          rw [show x - 1 + 1 = (x + 1) - 1 by omega]
          refine L_zn k0 k1 n0 n1 m0 m1 d (x + 1) (sk isDg h (nuQ h x p)) _ _ (by omega) (by omega) H (by omega) dq.2 (fun z => absurd z (by omega)) (fun z => absurd z (by omega)) (fun _ => p2.o (fun y => up_o (by decide)) (fun y => up_o (by decide))) (Fy_c (by omega) (Fy_n f f2)) ?_ ?_ (fun y hy => ?_) (fun j j0 j1 => ?_) K
          · rw [up_o (by decide), f2 _ _ _ _ (by omega)]; exact e45
          · rw [up_o (by decide), f2 _ _ _ _ (by omega)]; exact e4
          · rw [up_s, if_neg (by omega), f2 _ _ _ _ (by omega)]; exact ho y hy
          · rw [up_s]
            unfold put
            by_cases z : j = x
            · rw [if_pos (by omega), if_pos z]
            · rw [if_neg (by omega), if_neg z, f2 _ _ _ _ (by omega)]
              exact hr j j0 j1
      refine T_Z_readStep_63 _ _ _ _ _ _ _ ?_
      refine PU.I (P_many k0 k1) ?_
      refine And.intro (fun q => absurd q (by omega)) (fun _ => And.intro (fun q => absurd e4 q) (fun _ => And.intro (fun q => ?_) (fun q => ?_)))
      · refine go (fun z => absurd z.1 (by omega)) p (S1 (by omega) (by omega)) ?_
        unfold nuQ
        rw [if_neg (by omega)]
      · have p1' := S3 (by omega)
        rw [p1'.prt]
        refine And.intro (fun z => ?_) (fun z => ?_)
        · have z2 := (pt_4 _).1 z
          have B1 := p1'.B
          rw [en_3 (by omega) (by omega) (by omega)] at B1
          refine go (fun w => w.2 z2) _ B1 ?_
          unfold nuQ
          rw [if_pos (by omega)]
        · have z2 : h (sk isBl h p) ≠ 44 := fun w => z ((pt_4 _).2 w)
          rw [if_pos ⟨by omega, z2⟩] at K
          refine C_bad e4 p1'.frm ?_
          rw [wr_id (x := x - 1 + 1) (by omega)]
          have ne : sk isBl h p ≠ -1 := by omega
          refine L_zend k0 k1 (by omega) (by omega) (fun _ => K.1 _ (Fy_4 f) ?_ ne (by rw [up_s, if_pos rfl])) (by rw [up_s, if_pos rfl]; exact ne)
          rw [up_o (by decide)]; exact e45
theorem L_zr0 (n0 : 0 ≤ n) (n1 : n < 5) (m0 : 0 ≤ m) (m1 : m < 12) {Q : Option AV → ST → Prop} (K : ∀ s', (∀ (t : Nat) (k i x : Int), ¬ (t = 44 ∧ 72 * n + 6 * m ≤ x) → s' t k i x = σ t k i x) → (∀ j, 0 ≤ j → j < 6 → s' 44 0 0 (72 * n + 6 * m + j) = row0 k j) → wp m_Z_readStep (29, [some zz, some (.inl (72 * n + 6 * m)), some (.inl k), some (.inl 6)], [], s') Q) : ∀ (d : Nat) (x : Int) (s : ST), x + d = 6 → 1 ≤ x → (∀ (t : Nat) (k i x : Int), ¬ (t = 44 ∧ 72 * n + 6 * m ≤ x) → s t k i x = σ t k i x) → (∀ j, 0 ≤ j → j < x → s 44 0 0 (72 * n + 6 * m + j) = row0 k j) → wp m_Z_readStep (29, [some zz, some (.inl (72 * n + 6 * m)), some (.inl k), some (.inl x)], [], s) Q
  | 0, x, s, hd, x1, f, hr => by
    have e : x = 6 := by omega
    subst e
    exact K s f hr
  | d + 1, x, s, hd, x1, f, hr => by
    refine T_Z_readStep_29 _ _ _ _ _ _ _ ?_
    rw [wr_id (x := 72 * n + 6 * m + x) (by omega), wr_id (x := x + 1) (by omega)]
    refine And.intro (fun q => absurd q (by omega)) (fun _ => And.intro ⟨by omega, by omega⟩ (L_zr0 n0 n1 m0 m1 K d (x + 1) _ (by omega) (by omega) (fun t k i y hn => ?_) (fun j a b => ?_)))
    · unfold up
      rw [if_neg (by omega)]
      exact f t k i y hn
    · rw [up_s]
      by_cases q : j = x
      · rw [if_pos (by omega)]
        unfold row0
        rw [if_neg (by omega)]
      · rw [if_neg (by omega)]
        exact hr j a (by omega)
theorem C_zrs (B : ZB s h L i) (n0 : 0 ≤ n) (n1 : n < 5) (m0 : 0 ≤ m) (m1 : m < 12) (e4 : s 40 0 0 4 = -1) {F : ST → Prop} (K0 : ∀ s', Fy n s s' → s' 45 0 0 n = s 45 0 0 n → (stF h i).1 ≠ -1 → s' 40 0 0 4 = (stF h i).1 → F s') (K1 : ∀ s', Fy n s s' → s' 45 0 0 n = s 45 0 0 n → (stF h i).1 = -1 → s' 40 0 0 4 = -1 → PT s' h L (sk isBl h (stF h i).2.1) → (∀ y, y < 72 * n + 6 * m → s' 44 0 0 y = s 44 0 0 y) → (∀ j, 0 ≤ j → j < 6 → s' 44 0 0 (72 * n + 6 * m + j) = (stF h i).2.2 j) → F s') : wpM m_Z_readStep [zz, .inl (72 * n + 6 * m)] s (asV F) := by
  have i0 := B.i0
  have i1 := B.i1
  have rE' := rE_in B.H i0 i1
  refine T_Z_readStep _ _ _ _ _ ?_
  refine C_next B (fun s1 f1 p1 => ?_)
  have e1 : s1 40 0 0 4 = -1 := (f1 _ _ _ _ (by omega)).trans e4
  have f01 : Fy n s s1 := fun t k i x hn => f1 t k i x (by omega)
  refine PU.I ((P_wh1 p1).to (r' := stK h i) rfl) ?_
  have kin := stK_in h i
  unfold stF at K0 K1
  refine And.intro (fun q => And.intro ⟨by omega, by omega⟩ ?_) (fun q => ?_)
  · have ck : 0 ≤ stK h i ∧ stK h i < 16 ∧ isW h (rA h i) (rE h i) (4 + stK h i) := by
      rcases kin with z | z
      · exact absurd z q
      · exact z
    have wl := wL_in (k := 4 + stK h i) (by omega) (by omega)
    have hw := ck.2.2.1
    have mi := many_in ck.1 ck.2.1
    rw [if_neg (show ¬ stK h i < 0 by omega)] at K0 K1
    have B1 := p1.B
    rw [en_1 (show isLt (h (rA h i)) from (sk_in B.H lt_m1 (show 0 ≤ rA h i by omega) (by omega)).2.2 _ (Int.le_refl _) (by show rA h i < rE h i; omega))] at B1
    refine L_zr0 (σ := s1) n0 n1 m0 m1 (fun s2 f2 r2 => ?_) 5 1 _ (by omega) (by omega) (fun t k i x hn => ?_) (fun j a b => ?_)
    · have e2 : s2 40 0 0 4 = -1 := (f2 _ _ _ _ (by omega)).trans e1
      have f02 : Fy n s s2 := fun t k i x hn => (f2 t k i x (by omega)).trans (f01 t k i x hn)
      have B2 : ZB s2 h L (rE h i) := B1.o (f2 _ _ _ _ (by omega)) (f2 _ _ _ _ (by omega)) (fun x => f2 _ _ _ _ (by omega))
      have h45 : s2 45 0 0 n = s 45 0 0 n := (f2 _ _ _ _ (by omega)).trans (f1 _ _ _ _ (by omega))
      have h44 : ∀ y, y < 72 * n + 6 * m → s2 44 0 0 y = s 44 0 0 y := fun y hy => (f2 _ _ _ _ (by omega)).trans (f1 _ _ _ _ (by omega))
      refine T_Z_readStep_29 _ _ _ _ _ _ _ ?_
      refine And.intro (fun _ => ?_) (fun z => absurd (show (6 : Int) ≤ 6 by decide) z)
      refine PU.I (P_many ck.1 ck.2.1) ?_
      refine And.intro (fun z => ?_) (fun z => ?_)
      · exact L_zn (σ := s) (m := m) ck.1 ck.2.1 n0 n1 m0 m1 (stv 65 (stK h i)).toNat 1 (rE h i) _ s2 (by omega) (by omega) B.H (by omega) (by omega) (fun _ _ => B2) (fun _ w => absurd w (by omega)) (fun w => absurd w (by omega)) f02 h45 e2 h44 r2 ⟨fun s' a b c d => K0 s' a b c d, fun s' a b c d e f g => K1 s' a b c d e f g⟩
      · have z2 : stv 65 (stK h i) = 0 := Classical.not_not.1 z
        refine C_next B2 (fun s3 f3 p3 => ?_)
        refine L_zn (σ := s) (m := m) ck.1 ck.2.1 n0 n1 m0 m1 (stv 65 (stK h i)).toNat 1 (rE h i) _ s3 (by omega) (by omega) B.H (by omega) (by omega) (fun _ w => absurd (show (stv 65 (stK h i)).toNat = 0 by omega) w) (fun _ _ => p3) (fun w => absurd w (by omega)) (Fy_n f02 f3) ((f3 _ _ _ _ (by omega)).trans h45) ((f3 _ _ _ _ (by omega)).trans e2) (fun y hy => (f3 _ _ _ _ (by omega)).trans (h44 y hy)) (fun j a b => (f3 _ _ _ _ (by omega)).trans (r2 j a b)) ⟨fun s' a b c d => K0 s' a b c d, fun s' a b c d e f g => K1 s' a b c d e f g⟩
    · unfold up
      rw [if_neg (by omega)]
    · rw [up_s, if_pos (by omega)]
      unfold row0
      rw [if_pos (by omega)]
  · have z : stK h i < 0 := by omega
    rw [if_pos z] at K0
    refine C_bad e1 p1.frm (K0 _ (Fy_4 f01) ?_ (by show rA h i ≠ -1; omega) (by rw [up_s, if_pos rfl]))
    rw [up_o (by decide)]
    exact f1 _ _ _ _ (by omega)
theorem L_zs (n0 : 0 ≤ n) (n1 : n < 5) {Q : Option AV → ST → Prop} : ∀ (d : Nat) (i m : Int) (s : ST) (C : Int → Int), L - i < d → 0 ≤ m → m < 12 → ZB s h L i → Fy n σ s → s 40 0 0 4 = -1 → s 45 0 0 n = m → (∀ y, 0 ≤ y → y < 6 * m → s 44 0 0 (72 * n + y) = C y) → (∀ s', Fy n σ s' → ((scF h d i m C).1 = -1 → s' 45 0 0 n = (scF h d i m C).2.1 ∧ ∀ y, 0 ≤ y → y < 6 * (scF h d i m C).2.1 → s' 44 0 0 (72 * n + y) = (scF h d i m C).2.2 y) → Q (some (.inl (scF h d i m C).1)) s') → wp m_Z_readScript (19, [some zz, some (.inl n), some (.inl 1)], [], s) Q
  | 0, i, m, s, C, hd, m0, m1, B, f, e4, e45, hc, K => absurd hd (by have := B.i1; omega)
  | d + 1, i, m, s, C, hd, m0, m1, B, f, e4, e45, hc, K => by
    have i0 := B.i0
    have i1 := B.i1
    have l1 := B.H.l1
    rw [scF_s] at K
    refine T_Z_readScript_19 _ _ _ _ _ _ ?_
    refine And.intro (fun q => absurd q (by decide)) (fun _ => And.intro ⟨n0, n1⟩ ?_)
    rw [e45, wr_id (x := 12 * n) (by omega), wr_id (x := 12 * n + m) (by omega), wr_id (x := 6 * (12 * n + m)) (by omega), show 6 * (12 * n + m) = 72 * n + 6 * m by omega]
    have stop : ∀ s2 v, Fy n σ s2 → s2 40 0 0 4 = v → v ≠ -1 → (scF h (d + 1) i m C).1 = v → wp m_Z_readScript (19, [some zz, some (.inl n), some (.inl 0)], [], s2) Q := by
      intro s2 v f2 hv hv1 hs
      rw [← scF_s] at K
      rw [hs] at K
      refine L_zs0 (fun _ => ?_) (fun q => absurd (hv.symm.trans q) hv1)
      rw [hv]
      exact K s2 f2 (fun q => absurd q hv1)
    have f45 : ∀ s1 v, Fy n s s1 → Fy n σ (up s1 45 0 0 n v) := fun s1 v f1 t k i x hn => by
      unfold up
      rw [if_neg (by omega)]
      exact (f1 t k i x hn).trans (f t k i x hn)
    refine C_zrs B n0 n1 m0 m1 e4 (fun s1 f1 h45 ne v4 => ?_) (fun s1 f1 h45 eq v4 p1 ho hr => ?_)
    · refine And.intro ⟨n0, n1⟩ (And.intro ⟨n0, n1⟩ ?_)
      have e42 : up s1 45 0 0 n (wr (s1 45 0 0 n + 1)) 40 0 0 4 = (stF h i).1 := (up_o (by decide)).trans v4
      refine And.intro (fun _ => ?_) (fun q => absurd (by rw [e42]; exact ne) q)
      refine stop _ _ (f45 _ _ f1) e42 ne ?_
      rw [scF_s, if_pos ne]
    · have si := stF_in B.H i0 i1 eq
      have bl : (stF h i).2.1 ≤ stB2 h i ∧ stB2 h i ≤ L := sk_b B.H bl_m1 (show 0 ≤ (stF h i).2.1 by omega) si.2.1
      rw [h45, e45, wr_id (x := m + 1) (by omega)]
      have e2 : up s1 45 0 0 n (m + 1) 40 0 0 4 = -1 := (up_o (by decide)).trans v4
      have p2 : PT (up s1 45 0 0 n (m + 1)) h L (stB2 h i) := p1.o (fun x => up_o (by decide)) (fun x => up_o (by decide))
      have f2 : Fy n σ (up s1 45 0 0 n (m + 1)) := f45 _ _ f1
      have e452 : up s1 45 0 0 n (m + 1) 45 0 0 n = m + 1 := by rw [up_s, if_pos rfl]
      have c2 : ∀ y, 0 ≤ y → y < 6 * (m + 1) → up s1 45 0 0 n (m + 1) 44 0 0 (72 * n + y) = rowW C m (stF h i).2.2 y := by
        intro y y0 y1
        rw [up_o (by decide)]
        unfold rowW
        by_cases q : 6 * m ≤ y ∧ y < 6 * m + 6
        · rw [if_pos q]
          have := hr (y - 6 * m) (by omega) (by omega)
          rw [show 72 * n + 6 * m + (y - 6 * m) = 72 * n + y by omega] at this
          exact this
        · rw [if_neg q, ho _ (by omega)]
          exact hc y y0 (by omega)
      generalize up s1 45 0 0 n (m + 1) = s2 at e2 p2 f2 e452 c2 ⊢
      rw [if_neg (fun q => q eq)] at K
      have bad : h (stB2 h i) ≠ 59 ∨ 12 ≤ m + 1 → wp m_Z_readScript (19, [some zz, some (.inl n), some (.inl 0)], [], s2) Q := by
        intro z
        refine L_zs0 (fun w => ?_) (fun _ w => ?_)
        · have hm : h (stB2 h i) = -1 := by
            rcases w with w | w
            · exact absurd e2 w
            · rw [p2.prt] at w
              exact (pt_0 _).1 w
          rw [if_pos hm] at K
          rw [e2]
          exact K s2 f2 (fun _ => ⟨e452, c2⟩)
        · rw [p2.prt] at w
          rw [if_neg (fun hm => w ((pt_0 _).2 hm)), if_pos z] at K
          rw [p2.frm]
          exact K _ (Fy_4 f2) (fun q => absurd q (by show ¬ stB2 h i = -1; omega))
      refine And.intro ⟨n0, n1⟩ (And.intro ⟨n0, n1⟩ (And.intro (fun q => absurd e2 q) (fun _ => ?_)))
      rw [p2.prt]
      refine And.intro (fun q => bad (Or.inl (fun z => q ((pt_3 _).2 z)))) (fun q => And.intro ⟨n0, n1⟩ ?_)
      have e59 : h (stB2 h i) = 59 := (pt_3 _).1 (Classical.not_not.1 q)
      rw [e452]
      refine And.intro (fun q12 => bad (Or.inr q12)) (fun q12 => ?_)
      rw [if_neg (by omega), if_neg (by omega)] at K
      have lt := hh_lt B.H (i := stB2 h i) (by omega)
      have B3 := p2.B
      rw [en_3 (by omega) (by omega) (by omega)] at B3
      exact L_zs n0 n1 d (stB2 h i + 1) (m + 1) s2 _ (by omega) (by omega) (by omega) B3 f2 e2 e452 c2 K
theorem Z_rscr (H : HH h L) (n0 : 0 ≤ n) (n1 : n < 5) (e0 : s 40 0 0 2 = L) (eb : ∀ x, 0 ≤ x → x < L → s 41 0 0 x = h x) {F : Int → ST → Prop} (K : ∀ s', Fy n s s' → ((scV h).1 = -1 → s' 45 0 0 n = (scV h).2.1 ∧ ∀ y, 0 ≤ y → y < 6 * (scV h).2.1 → s' 44 0 0 (72 * n + y) = (scV h).2.2 y) → F (scV h).1 s') : wpM m_Z_readScript [zz, .inl n] s (asI F) := by
  have l1 := H.l1
  refine T_Z_readScript _ _ _ _ _ ?_
  refine And.intro ⟨n0, n1⟩ ?_
  have f01 : Fy n s (up (up (up s 40 0 0 3 0) 40 0 0 4 (-1)) 45 0 0 n 0) := fun t k i x hn => by
    unfold up
    rw [if_neg (by omega), if_neg (by omega), if_neg (by omega)]
  refine L_zs (σ := s) n0 n1 321 0 0 _ _ (by omega) (by omega) (by omega) ⟨H, (f01 _ _ _ _ (by omega)).trans e0, fun x a b => (f01 _ _ _ _ (by omega)).trans (eb x a b), ?_, by omega, H.l0⟩ f01 ?_ ?_ (fun y a b => absurd b (by omega)) (fun s' a b => K s' a b)
  · rw [up_o (by decide), up_s, if_neg (by decide), up_s, if_pos rfl]
  · rw [up_o (by decide), up_s, if_pos rfl]
  · rw [up_s, if_pos rfl]
end ZTU
