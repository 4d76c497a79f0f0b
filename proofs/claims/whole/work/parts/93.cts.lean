/-! the component's clauses, steps, faults -/
abbrev sc4 : AV := .inr (.inr (5, 4, 0))
abbrev Fc (σ s : ST) : Prop := ∀ (t : Nat) (k i x : Int), ¬ (t = 1 ∧ x = 2 ∨ t = 3 ∨ t = 4 ∨ (t = 5 ∨ t = 6) ∧ k = 4) → s t k i x = σ t k i x
section CTS
variable {σ s : ST} {h T R : Int → Int} {L i : Int}
theorem Fc_re (s : ST) : Fc s s := fun _ _ _ _ _ => rfl
theorem Fc_a {s2 : ST} (f : Fc σ s) (f2 : Fa s s2) : Fc σ s2 := fun t k i x hn => (f2 t k i x (by omega)).trans (f t k i x hn)
theorem TBx.fc {s2 : ST} (B : TBx s h L i) (f : Fc s s2) (e : s2 1 0 0 2 = i) : TBx s2 h L i := ⟨B.H, (f _ _ _ _ (by omega)).trans B.len, fun x a b => (f _ _ _ _ (by omega)).trans (B.byt x a b), e, B.i0, B.i1⟩
theorem rA_in (H : HH h L) (i0 : 0 ≤ i) (i1 : i ≤ L) : i ≤ rA h i ∧ rA h i ≤ L := ⟨(sk_in H bl_m1 i0 i1).1, (sk_in H bl_m1 i0 i1).2.1⟩
theorem rE_in (H : HH h L) (i0 : 0 ≤ i) (i1 : i ≤ L) : i ≤ rA h i ∧ rA h i ≤ L ∧ rA h i ≤ rE h i ∧ rE h i ≤ L := by
  have a := rA_in H i0 i1
  have b := sk_in H lt_m1 (show 0 ≤ rA h i by omega) a.2
  exact ⟨a.1, a.2, b.1, b.2.1⟩
theorem clN_in (H : HH h L) (i0 : 0 ≤ i) (i1 : i ≤ L) : rE h i ≤ clN h i ∧ clN h i ≤ L := by
  have a := rE_in H i0 i1
  have b := sk_in H bl_m1 (show 0 ≤ rE h i by omega) a.2.2.2
  exact ⟨b.1, b.2.1⟩
theorem sk_b {p : Int → Prop} [DecidablePred p] (H : HH h L) (hp : ¬ p (-1)) (i0 : 0 ≤ i) (i1 : i ≤ L) : i ≤ sk p h i ∧ sk p h i ≤ L := ⟨(sk_in H hp i0 i1).1, (sk_in H hp i0 i1).2.1⟩
theorem rul_in {k : Int} (h0 : 0 ≤ k) (h1 : k < 4) : 1 ≤ stv 62 k ∧ stv 62 k ≤ stv 63 k ∧ stv 63 k ≤ 999 := by
  rcases (show k = 0 ∨ k = 1 ∨ k = 2 ∨ k = 3 by omega) with rfl | rfl | rfl | rfl <;> decide
/-- a clause -/
theorem C_clause (B : TBx s h L i) (hT : ∀ k, 0 ≤ k → k < 4 → s 4 0 0 k = T k ∧ (T k = 0 ∨ T k = 1)) (hR : ∀ k, 0 ≤ k → k < 4 → s 3 0 0 k = R k) {F : Int → ST → Prop} (K0 : ∀ s', Fc s s' → clF h T i ≠ -1 → F (clF h T i) s')
    (K1 : ∀ s', Fc s s' → clF h T i = -1 → TBx s' h L (sk isDg h (clN h i)) → (∀ k, 0 ≤ k → k < 4 → s' 4 0 0 k = put T (clK h i) 1 k) → (∀ k, 0 ≤ k → k < 4 → s' 3 0 0 k = put R (clK h i) (nm h (clN h i)) k) → F (-1) s') : wpM m_Tape_readClause [tp] s (asI F) := by
  have i0 := B.i0
  have i1 := B.i1
  have rE' := rE_in B.H i0 i1
  have cN := clN_in B.H i0 i1
  refine T_Tape_readClause _ _ _ _ ?_
  refine C_skB B (fun s1 f1 B1 => ?_)
  refine C_skL B1 (fun s2 f2 B2 => ?_)
  have f12 : Fc s s2 := Fc_a (Fc_a (Fc_re s) f1) f2
  rw [B1.pos]
  refine PU.I ((P_rOf B2 (a := rA h i) (by omega) rE'.2.2.1).to (r' := clK h i) rfl) ?_
  have kin2 : clK h i = -1 ∨ (0 ≤ clK h i ∧ clK h i < 4) := (clK_in h i).imp id (fun z => ⟨z.1, z.2.1⟩)
  have bad1 : clK h i < 0 ∨ T (clK h i) ≠ 0 → ∀ s', Fc s s' → F (rA h i) s' := by
    intro q s' f
    have e : clF h T i = rA h i := if_pos q
    rw [e] at K0
    exact K0 s' f (by omega)
  have eT : ∀ k, 0 ≤ k → k < 4 → s2 4 0 0 k = T k := fun k a b => (f2 _ _ _ _ (by omega)).trans ((f1 _ _ _ _ (by omega)).trans (hT k a b).1)
  have eR : ∀ k, 0 ≤ k → k < 4 → s2 3 0 0 k = R k := fun k a b => (f2 _ _ _ _ (by omega)).trans ((f1 _ _ _ _ (by omega)).trans (hR k a b))
  refine And.intro (fun q => bad1 (Or.inl q) s2 f12) (fun q => And.intro (fun q2 => absurd q2 (by omega)) (fun q2 => And.intro ⟨by omega, by omega⟩ ?_))
  have T01 := (hT (clK h i) (by omega) (by omega)).2
  rw [eT (clK h i) (by omega) (by omega), bz_01 T01]
  refine And.intro (fun q3 => ?_) (fun q3 => bad1 (Or.inr q3) s2 f12)
  refine C_skB B2 (fun s3 f3 B3 => ?_)
  refine C_num B3 (fun s4 y f4 B4 hy => ?_)
  have f14 : Fc s s4 := Fc_a (Fc_a f12 f3) f4
  have ri := rul_in (k := (clK h i)) (by omega) (by omega)
  have bad2 : nm h (clN h i) < stv 62 (clK h i) ∨ stv 63 (clK h i) < nm h (clN h i) → ∀ s', Fc s s' → F (clN h i) s' := by
    intro q s' f
    have e : clF h T i = clN h i := by
      unfold clF
      rw [if_neg (by omega), if_pos q]
    rw [e] at K0
    exact K0 s' f (by omega)
  replace hy : R9 y (nm h (clN h i)) := hy
  unfold R9 at hy
  rw [B3.pos]
  refine And.intro ⟨by omega, by omega⟩ (And.intro (fun q4 => bad2 (by omega) s4 f14) (fun q4 => And.intro ⟨by omega, by omega⟩ (And.intro (fun q5 => ?_) (fun q5 => bad2 (by omega) s4 f14))))
  have ey : y = nm h (clN h i) := by omega
  rw [ey] at q4 q5 ⊢
  have e : clF h T i = -1 := by
    unfold clF
    rw [if_neg (by omega), if_neg (by omega)]
  have f15 : Fc s (up (up s4 3 0 0 (clK h i) (nm h (clN h i))) 4 0 0 (clK h i) 1) := fun t k i x hn => by
    rw [up_o (by omega), up_o (by omega)]
    exact f14 t k i x hn
  refine And.intro ⟨by omega, by omega⟩ (And.intro ⟨⟨by omega, by omega⟩, Or.inr rfl⟩ (K1 _ f15 e ?_ (fun k a b => ?_) (fun k a b => ?_)))
  · exact B4.fc (fun t k i x hn => by rw [up_o (by omega), up_o (by omega)]) (by rw [up_o (by decide), up_o (by decide)]; exact B4.pos)
  · rw [up_s, up_o (by decide), f4 _ _ _ _ (by omega), f3 _ _ _ _ (by omega), eT k a b]
    rfl
  · rw [up_o (by decide), up_s, f4 _ _ _ _ (by omega), f3 _ _ _ _ (by omega), eR k a b]
    rfl
/-- a machine -/
theorem L_mach {Q : Option AV → ST → Prop} : ∀ (d : Nat) (i p : Int) (s : ST) (T R : Int → Int) (o3 : Option AV), L - i < d → 1 ≤ p → 2 * (p - 1) ≤ i → TBx s h L i → Fc σ s → (∀ k, 0 ≤ k → k < 4 → s 4 0 0 k = T k ∧ (T k = 0 ∨ T k = 1)) → (∀ k, 0 ≤ k → k < 4 → s 3 0 0 k = R k) → (∀ s', Fc σ s' → ((maF h d i T R).1 = -1 → ∀ k, 0 ≤ k → k < 4 → s' 3 0 0 k = (maF h d i T R).2 k) → Q (some (.inl (maF h d i T R).1)) s') → wp m_Tape_faultAs (6, [some tp, some (.inl 0), some (.inl p), o3], [], s) Q
  | 0, i, p, s, T, R, o3, hd, p1, hp, B, f, hT, hR, K => absurd hd (by have := B.i1; omega)
  | d + 1, i, p, s, T, R, o3, hd, p1, hp, B, f, hT, hR, K => by
    have i0 := B.i0
    have i1 := B.i1
    have l1 := B.H.l1
    have rE' := rE_in B.H i0 i1
    have cN := clN_in B.H i0 i1
    refine T_Tape_faultAs_6 _ _ _ _ _ _ _ ?_
    refine And.intro (fun q => absurd q (by omega)) (fun _ => And.intro (fun q => absurd rfl q) (fun _ => ?_))
    rw [show maF h (d + 1) i T R = if clF h T i ≠ -1 then (clF h T i, R) else if h (clB h i) = -1 then (-1, put R (clK h i) (nm h (clN h i))) else if h (clB h i) ≠ 59 then (clB h i, put R (clK h i) (nm h (clN h i))) else maF h d (clB h i + 1) (put T (clK h i) 1) (put R (clK h i) (nm h (clN h i))) from rfl] at K
    refine C_clause B hT hR (fun s1 f1 ne => ?_) (fun s1 f1 eq B1 hT1 hR1 => ?_)
    · rw [if_pos ne] at K
      refine T_Tape_faultAs_28 _ _ _ _ _ _ _ _ ?_
      exact And.intro (fun q => absurd q ne) (fun _ => K s1 (fun t k i x hn => (f1 t k i x hn).trans (f t k i x hn)) (fun q => absurd q ne))
    · rw [if_neg (fun q => q eq)] at K
      have ck : 0 ≤ clK h i ∧ clK h i < 4 ∧ isW h (rA h i) (rE h i) (0 + clK h i) := by
        rcases clK_in h i with z | z
        · unfold clF at eq
          rw [if_pos (Or.inl (by omega))] at eq
          omega
        · exact z
      have wl := wL_in (k := 0 + clK h i) (by omega) (by omega)
      have hw := ck.2.2.1
      have dg := sk_b B.H dg_m1 (show 0 ≤ clN h i by omega) cN.2
      have bl := sk_b B.H bl_m1 (show 0 ≤ sk isDg h (clN h i) by omega) dg.2
      refine T_Tape_faultAs_28 _ _ _ _ _ _ _ _ ?_
      refine And.intro (fun _ => ?_) (fun q => absurd rfl q)
      refine C_skB B1 (fun s2 f2 B2 => ?_)
      rw [B2.pos, B2.len]
      have f02 : Fc σ s2 := fun t k i x hn => (f2 t k i x (by omega)).trans ((f1 t k i x hn).trans (f t k i x hn))
      have r2 : ∀ k, 0 ≤ k → k < 4 → s2 3 0 0 k = put R (clK h i) (nm h (clN h i)) k := fun k a b => (f2 _ _ _ _ (by omega)).trans (hR1 k a b)
      have t2 : ∀ k, 0 ≤ k → k < 4 → s2 4 0 0 k = put T (clK h i) 1 k := fun k a b => (f2 _ _ _ _ (by omega)).trans (hT1 k a b)
      refine And.intro (fun q => ?_) (fun q => ?_)
      · have b0 := B.H.byt (clB h i) (by show 0 ≤ sk isBl h _; omega) q
        rw [if_neg (show ¬ h (clB h i) = -1 by omega)] at K
        refine PU.I (P_stands B2 (by omega)) ?_
        refine And.intro (fun z => ?_) (fun z => ?_)
        · rw [b2_e0] at z
          rw [if_pos z] at K
          rw [B2.pos]
          exact K s2 f02 (fun w => absurd w (by show ¬ sk isBl h _ = -1; omega))
        · rw [b2_e0] at z
          rw [if_neg (show ¬ h (clB h i) ≠ 59 from z)] at K
          refine And.intro (fun _ => ?_) (fun w => absurd (show (0 : Int) ≠ 1 by decide) w)
          refine T_Tape_faultAs_78 _ _ _ _ _ _ _ ?_
          rw [B2.pos, wr_id (x := p + 1) (by omega), wr_id (x := clB h i + 1) (by show _ ≤ sk isBl h _ + 1 ∧ sk isBl h _ + 1 < _; omega)]
          refine L_mach d (clB h i + 1) (p + 1) _ _ _ _ (by show L - (sk isBl h _ + 1) < _; omega) (by omega) (by show _ ≤ sk isBl h _ + 1; omega) (B2.st q) (Fc_a f02 (Fa_up (Fa_re s2))) (fun k a b => ⟨?_, ?_⟩) (fun k a b => ?_) K
          · rw [up_o (by decide)]; exact t2 k a b
          · unfold put
            have := (hT k a b).2
            split <;> omega
          · rw [up_o (by decide)]; exact r2 k a b
      · rw [if_pos (show h (clB h i) = -1 from B.H.out _ (by show L ≤ sk isBl h _; omega))] at K
        exact K s2 f02 (fun _ => r2)
end CTS
