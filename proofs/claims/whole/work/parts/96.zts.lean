/-! the reference's clauses, steps, faults -/
abbrev Fz (σ s : ST) : Prop := ∀ (t : Nat) (k i x : Int), ¬ (t = 40 ∧ 3 ≤ x ∧ x ≤ 8 ∨ t = 42) → s t k i x = σ t k i x
abbrev Fy (n : Int) (σ s : ST) : Prop := ∀ (t : Nat) (k i x : Int), ¬ (t = 40 ∧ 3 ≤ x ∧ x ≤ 8 ∨ t = 44 ∧ 72 * n ≤ x ∨ t = 45 ∧ x = n) → s t k i x = σ t k i x
def GB (a : Int) (T : Int → Int) : Prop := (0 ≤ a ∧ a < 16) ∧ ∀ k, 0 ≤ k → k < 4 → (T k = 0 ∨ T k = 1) ∧ (i_and (i_shr a k) 1 = 1 ↔ T k = 1)
theorem gb_or : ∀ a : Nat, a < 16 → ∀ k : Nat, k < 4 → (0 ≤ i_or a (i_shl 1 k) ∧ i_or a (i_shl 1 k) < 16) ∧ ∀ j : Nat, j < 4 → (i_and (i_shr (i_or a (i_shl 1 k)) j) 1 = 1 ↔ (j = k ∨ i_and (i_shr a j) 1 = 1)) := by decide +kernel
theorem gb_0 : ∀ j : Nat, j < 4 → ¬ i_and (i_shr 0 j) 1 = 1 := by decide +kernel
theorem GB_put {a : Int} {T : Int → Int} (g : GB a T) {k : Int} (k0 : 0 ≤ k) (k1 : k < 4) : GB (i_or a (i_shl 1 k)) (put T k 1) := by
  obtain ⟨⟨a0, a1⟩, g2⟩ := g
  have r := gb_or a.toNat (by omega) k.toNat (by omega)
  rw [show ((a.toNat : Nat) : Int) = a by omega, show ((k.toNat : Nat) : Int) = k by omega] at r
  refine ⟨r.1, fun j j0 j1 => ?_⟩
  have q := r.2 j.toNat (by omega)
  rw [show ((j.toNat : Nat) : Int) = j by omega] at q
  rw [q]
  unfold put
  by_cases z : j = k
  · rw [if_pos z]
    exact ⟨Or.inr rfl, fun _ => rfl, fun _ => Or.inl (by omega)⟩
  · rw [if_neg z]
    refine ⟨(g2 j j0 j1).1, fun w => ?_, fun w => Or.inr ((g2 j j0 j1).2.2 w)⟩
    rcases w with w | w
    · exact absurd w (by omega)
    · exact (g2 j j0 j1).2.1 w
theorem GB_0 : GB 0 (fun _ => 0) := ⟨⟨by omega, by omega⟩, fun k k0 k1 => ⟨Or.inl rfl, fun w => absurd w (by have := gb_0 k.toNat (by omega); rw [show ((k.toNat : Nat) : Int) = k by omega] at this; exact this), fun w => absurd w (show ¬ (0 : Int) = 1 by decide)⟩⟩
section ZTS
variable {σ s : ST} {h T R : Int → Int} {L i j n k : Int}
theorem P_has (a k : Int) : PU m_Z_has [.inl a, .inl k] s (b2 (i_and (i_shr a k) 1 = 1)) := by
  refine PU.mk fun Q hQ => T_Z_has _ _ _ _ ?_
  exact And.intro (fun q => And.intro (Or.inl rfl) (hQ _ (b2_l q))) (fun q => And.intro (Or.inr rfl) (hQ _ (b2_h (Classical.not_not.1 q))))
theorem P_low (k0 : 0 ≤ k) (k1 : k < 4) : PU m_Z_lowest [.inl k] s (stv 62 k) := by
  refine PU.mk fun Q hQ => T_Z_lowest _ _ _ ?_
  rcases (show k = 0 ∨ k = 1 ∨ k = 2 ∨ k = 3 by omega) with rfl | rfl | rfl | rfl
  all_goals
    (repeat' (first | (refine And.intro ?_ ?_) | (intro hzq; simp only [b2_e0, b2_e1, Classical.not_not, ne_eq] at hzq) | (intro hzq) | exact Or.inl rfl | exact Or.inr rfl)) <;> try omega
    all_goals first | contradiction | exact hQ _ (by decide)
theorem P_high (k0 : 0 ≤ k) (k1 : k < 4) : PU m_Z_highest [.inl k] s (stv 63 k) := by
  refine PU.mk fun Q hQ => T_Z_highest _ _ _ ?_
  rcases (show k = 0 ∨ k = 1 ∨ k = 2 ∨ k = 3 by omega) with rfl | rfl | rfl | rfl
  all_goals
    (repeat' (first | (refine And.intro ?_ ?_) | (intro hzq; simp only [b2_e0, b2_e1, Classical.not_not, ne_eq] at hzq) | (intro hzq) | exact Or.inl rfl | exact Or.inr rfl)) <;> try omega
    all_goals first | contradiction | exact hQ _ (by decide)
theorem P_usual (k0 : 0 ≤ k) (k1 : k < 4) : PU m_Z_usual [.inl k] s (stv 64 k) := by
  refine PU.mk fun Q hQ => T_Z_usual _ _ _ ?_
  rcases (show k = 0 ∨ k = 1 ∨ k = 2 ∨ k = 3 by omega) with rfl | rfl | rfl | rfl
  all_goals
    (repeat' (first | (refine And.intro ?_ ?_) | (intro hzq; simp only [b2_e0, b2_e1, Classical.not_not, ne_eq] at hzq) | (intro hzq) | exact Or.inl rfl | exact Or.inr rfl)) <;> try omega
    all_goals first | contradiction | exact hQ _ (by decide)
theorem P_many (k0 : 0 ≤ k) (k1 : k < 16) : PU m_Z_manyOf [.inl k] s (stv 65 k) := by
  refine PU.mk fun Q hQ => T_Z_manyOf _ _ _ ?_
  rcases (show k = 0 ∨ k = 1 ∨ k = 2 ∨ k = 3 ∨ k = 4 ∨ k = 5 ∨ k = 6 ∨ k = 7 ∨ k = 8 ∨ k = 9 ∨ k = 10 ∨ k = 11 ∨ k = 12 ∨ k = 13 ∨ k = 14 ∨ k = 15 by omega) with rfl | rfl | rfl | rfl | rfl | rfl | rfl | rfl | rfl | rfl | rfl | rfl | rfl | rfl | rfl | rfl
  all_goals
    (repeat' (first | (refine And.intro ?_ ?_) | (intro hzq; simp only [b2_e0, b2_e1, Classical.not_not, ne_eq] at hzq) | (intro hzq) | exact Or.inl rfl | exact Or.inr rfl)) <;> try omega
    all_goals first | contradiction | exact hQ _ (by decide)
theorem ZB.o {s2 : ST} (B : ZB s h L i) (e2 : s2 40 0 0 2 = s 40 0 0 2) (e3 : s2 40 0 0 3 = s 40 0 0 3) (e4 : ∀ x, s2 41 0 0 x = s 41 0 0 x) : ZB s2 h L i := ⟨B.H, e2.trans B.len, fun x a b => (e4 x).trans (B.byt x a b), e3.trans B.pos, B.i0, B.i1⟩
theorem PT.o {s2 : ST} (p : PT s h L j) (e : ∀ x, s2 40 0 0 x = s 40 0 0 x) (e4 : ∀ x, s2 41 0 0 x = s 41 0 0 x) : PT s2 h L j := ⟨p.B.o (e _) (e _) e4, (e _).trans p.prt, (e _).trans p.frm, fun w => (e _).trans (p.wrd w), fun w => by rw [e]; exact p.num w, p.j0, p.j1⟩
/-- where a machine's text ends -/
theorem L_zm0 {Q : Option AV → ST → Prop} {x1 : Int} {o3 : Option AV} (K : (s 40 0 0 4 ≠ -1 ∨ s 40 0 0 5 = 0) → Q (some (.inl (s 40 0 0 4))) s) (K2 : s 40 0 0 4 = -1 → s 40 0 0 5 ≠ 0 → Q (some (.inl (s 40 0 0 6))) (up s 40 0 0 4 (s 40 0 0 6))) : wp m_Z_readMachine (37, [some zz, some (.inl x1), some (.inl 0), o3], [], s) Q := by
  refine T_Z_readMachine_37 _ _ _ _ _ _ _ ?_
  refine And.intro (fun _ => And.intro (fun q => K (Or.inl q)) (fun q => And.intro (fun q2 => K (Or.inr q2)) (fun q2 => ?_))) (fun q => absurd rfl q)
  refine C_bad (Classical.not_not.1 q) rfl ?_
  rw [up_s, if_pos rfl]
  exact K2 (Classical.not_not.1 q) q2
theorem L_zs0 {Q : Option AV → ST → Prop} {x1 : Int} (K : (s 40 0 0 4 ≠ -1 ∨ s 40 0 0 5 = 0) → Q (some (.inl (s 40 0 0 4))) s) (K2 : s 40 0 0 4 = -1 → s 40 0 0 5 ≠ 0 → Q (some (.inl (s 40 0 0 6))) (up s 40 0 0 4 (s 40 0 0 6))) : wp m_Z_readScript (19, [some zz, some (.inl x1), some (.inl 0)], [], s) Q := by
  refine T_Z_readScript_19 _ _ _ _ _ _ ?_
  refine And.intro (fun _ => And.intro (fun q => K (Or.inl q)) (fun q => And.intro (fun q2 => K (Or.inr q2)) (fun q2 => ?_))) (fun q => absurd rfl q)
  refine C_bad (Classical.not_not.1 q) rfl ?_
  rw [up_s, if_pos rfl]
  exact K2 (Classical.not_not.1 q) q2
theorem Fz_n {s2 : ST} (f : Fz σ s) (f2 : Fn s s2) : Fz σ s2 := fun t k i x hn => (f2 t k i x (by omega)).trans (f t k i x hn)
theorem Fz_4 {v : Int} (f : Fz σ s) : Fz σ (up s 40 0 0 4 v) := fun t k i x hn => by
  unfold up
  rw [if_neg (by omega)]
  exact f t k i x hn
theorem L_zm {Q : Option AV → ST → Prop} : ∀ (d : Nat) (i a : Int) (s : ST) (T R : Int → Int) (o3 : Option AV), L - i < d → ZB s h L i → Fz σ s → s 40 0 0 4 = -1 → GB a T → (∀ k, 0 ≤ k → k < 4 → s 42 0 0 k = R k) → (∀ s', Fz σ s' → ((maF h d i T R).1 = -1 → ∀ k, 0 ≤ k → k < 4 → s' 42 0 0 k = (maF h d i T R).2 k) → Q (some (.inl (maF h d i T R).1)) s') → wp m_Z_readMachine (37, [some zz, some (.inl a), some (.inl 1), o3], [], s) Q
  | 0, i, a, s, T, R, o3, hd, B, f, e4, g, hR, K => absurd hd (by have := B.i1; omega)
  | d + 1, i, a, s, T, R, o3, hd, B, f, e4, g, hR, K => by
    have i0 := B.i0
    have i1 := B.i1
    have l1 := B.H.l1
    have rE' := rE_in B.H i0 i1
    have cN := clN_in B.H i0 i1
    rw [show maF h (d + 1) i T R = if clF h T i ≠ -1 then (clF h T i, R) else if h (clB h i) = -1 then (-1, put R (clK h i) (nm h (clN h i))) else if h (clB h i) ≠ 59 then (clB h i, put R (clK h i) (nm h (clN h i))) else maF h d (clB h i + 1) (put T (clK h i) 1) (put R (clK h i) (nm h (clN h i))) from rfl] at K
    refine T_Z_readMachine_37 _ _ _ _ _ _ _ ?_
    refine And.intro (fun q => absurd q (by decide)) (fun _ => ?_)
    refine C_next B (fun s1 f1 p1 => ?_)
    have e1 : s1 40 0 0 4 = -1 := (f1 _ _ _ _ (by omega)).trans e4
    have f01 : Fz σ s1 := Fz_n f f1
    refine PU.I ((P_wh0 p1).to (r' := clK h i) rfl) ?_
    have kin := clK_in h i
    -- a fault of this clause
    have stop : ∀ (s2 : ST) (x1 : Int) (o3 : Option AV) (v : Int), Fz σ s2 → s2 40 0 0 4 = v → v ≠ -1 → clF h T i = v → wp m_Z_readMachine (95, [some zz, some (.inl x1), some (.inl 1), o3], [], s2) Q := by
      intro s2 x1 o3 v f2 hv hv1 hc
      refine T_Z_readMachine_95 _ _ _ _ _ _ _ ?_
      refine And.intro (fun _ => ?_) (fun q => absurd (by rw [hv]; exact hv1) q)
      rw [if_pos (by rw [hc]; exact hv1), hc] at K
      refine L_zm0 (fun _ => ?_) (fun q => absurd (hv.symm.trans q) hv1)
      rw [hv]
      exact K s2 f2 (fun q => absurd q hv1)
    have bad : clK h i < 0 ∨ T (clK h i) ≠ 0 → ∀ o3, wpM m_Z_bad [zz] s1 (asV fun s2 => wp m_Z_readMachine (95, [some zz, some (.inl a), some (.inl 1), o3], [], s2) Q) := by
      intro q o3
      refine C_bad e1 p1.frm ?_
      exact stop _ _ _ (rA h i) (Fz_4 f01) (by rw [up_s, if_pos rfl]) (by omega) (if_pos q)
    refine And.intro (fun q => bad (Or.inl (by omega)) _) (fun q => ?_)
    have ck : 0 ≤ clK h i ∧ clK h i < 4 ∧ isW h (rA h i) (rE h i) (0 + clK h i) := by
      rcases kin with z | z
      · exact absurd z q
      · exact z
    have wl := wL_in (k := 0 + clK h i) (by omega) (by omega)
    have hw := ck.2.2.1
    obtain ⟨T01, Tb⟩ := g.2 (clK h i) ck.1 ck.2.1
    refine PU.I (P_has _ _) ?_
    refine And.intro (fun z => ?_) (fun z => ?_)
    · rw [b2_e0, Tb] at z
      have T0 : T (clK h i) = 0 := by omega
      have ri := rul_in ck.1 ck.2.1
      refine PU.I (P_low ck.1 ck.2.1) ?_
      refine PU.I (P_high ck.1 ck.2.1) ?_
      have B1 := p1.B
      rw [en_1 (show isLt (h (rA h i)) from (sk_in B.H lt_m1 (show 0 ≤ rA h i by omega) (by omega)).2.2 _ (Int.le_refl _) (by show rA h i < rE h i; omega))] at B1
      refine C_number B1 e1 (by omega) (by omega) (by omega) (fun s2 f2 c2 => ?_) (fun s2 f2 c2 p2 => ?_)
      · refine And.intro ⟨ck.1, ck.2.1⟩ ?_
        have f02 : Fz σ s2 := Fz_n (Fz_4 f01) f2
        refine stop _ _ _ (clN h i) (fun t k i x hn => by rw [up_o (by omega)]; exact f02 t k i x hn) (by rw [up_o (by decide), f2 _ _ _ _ (by omega), up_s, if_pos rfl]) (by omega) ?_
        unfold clF
        rw [if_neg (by omega)]
        exact if_pos c2
      · refine And.intro ⟨ck.1, ck.2.1⟩ ?_
        have f02 : Fz σ s2 := Fz_n f01 f2
        have eF : clF h T i = -1 := by
          unfold clF
          rw [if_neg (by omega)]
          exact if_neg c2
        rw [if_neg (fun w => w eF)] at K
        have dg := sk_b B.H dg_m1 (show 0 ≤ clN h i by omega) cN.2
        have bl : sk isDg h (clN h i) ≤ clB h i ∧ clB h i ≤ L := sk_b B.H bl_m1 (show 0 ≤ sk isDg h (clN h i) by omega) dg.2
        have p3 : PT (up s2 42 0 0 (clK h i) (nm h (sk isBl h (sk isLt h (sk isBl h i))))) h L (clB h i) := p2.o (fun x => up_o (by decide)) (fun x => up_o (by decide))
        have e3 : up s2 42 0 0 (clK h i) (nm h (sk isBl h (sk isLt h (sk isBl h i)))) 40 0 0 4 = -1 := by rw [up_o (by decide), f2 _ _ _ _ (by omega)]; exact e1
        have f03 : Fz σ (up s2 42 0 0 (clK h i) (nm h (sk isBl h (sk isLt h (sk isBl h i))))) := fun t k i x hn => by rw [up_o (by omega)]; exact f02 t k i x hn
        have r3 : ∀ k, 0 ≤ k → k < 4 → up s2 42 0 0 (clK h i) (nm h (sk isBl h (sk isLt h (sk isBl h i)))) 42 0 0 k = put R (clK h i) (nm h (clN h i)) k := by
          intro k a b
          rw [up_s, f2 _ _ _ _ (by omega), f1 _ _ _ _ (by omega), hR k a b]
          rfl
        generalize up s2 42 0 0 (clK h i) (nm h (sk isBl h (sk isLt h (sk isBl h i)))) = s3 at p3 e3 f03 r3 ⊢
        refine T_Z_readMachine_95 _ _ _ _ _ _ _ ?_
        rw [p3.prt]
        refine And.intro (fun w => absurd e3 w) (fun _ => And.intro (fun w => ?_) (fun w => ?_))
        · have n59 : h (clB h i) ≠ 59 := fun z => w ((pt_3 _).2 z)
          refine L_zm0 (fun z => ?_) (fun _ z => ?_)
          · have hm : h (clB h i) = -1 := by
              rcases z with z | z
              · exact absurd e3 z
              · rw [p3.prt] at z
                exact (pt_0 _).1 z
            rw [if_pos hm] at K
            rw [e3]
            exact K s3 f03 (fun _ => r3)
          · rw [p3.prt] at z
            rw [if_neg (fun hm => z ((pt_0 _).2 hm)), if_pos n59] at K
            rw [p3.frm]
            exact K _ (Fz_4 f03) (fun q => absurd q (by show ¬ clB h i = -1; omega))
        · have e59 : h (clB h i) = 59 := (pt_3 _).1 (Classical.not_not.1 w)
          rw [if_neg (by omega), if_neg (fun z => z e59)] at K
          have lt := hh_lt B.H (i := clB h i) (by omega)
          have B3 := p3.B
          rw [en_3 (by omega) (by omega) (by omega)] at B3
          exact L_zm d (clB h i + 1) _ s3 _ _ _ (by omega) B3 f03 e3 (GB_put g ck.1 ck.2.1) r3 K
    · rw [b2_e0, Tb] at z
      exact bad (Or.inr (by omega)) _
theorem L_zu {Q : Option AV → ST → Prop} (K : ∀ s', Fz σ s' → (∀ x, s' 40 0 0 x = σ 40 0 0 x) → (∀ k, 0 ≤ k → k < 4 → s' 42 0 0 k = stv 64 k) → ∀ o3, wp m_Z_readMachine (37, [some zz, some (.inl 0), some (.inl 1), o3], [], s') Q) : ∀ (d : Nat) (x : Int) (s : ST) (o2 o3 : Option AV), x + d = 4 → 0 ≤ x → Fz σ s → (∀ x, s 40 0 0 x = σ 40 0 0 x) → (∀ k, 0 ≤ k → k < x → s 42 0 0 k = stv 64 k) → wp m_Z_readMachine (12, [some zz, some (.inl x), o2, o3], [], s) Q
  | d, x, s, o2, o3, hd, x0, f, e, hr => by
    refine T_Z_readMachine_12 _ _ _ _ _ _ _ ?_
    match d, hd with
    | 0, hd => exact And.intro (fun _ => K s f e (fun k a b => hr k a (by omega)) _) (fun q => absurd (show 4 ≤ x by omega) q)
    | d + 1, hd =>
      refine And.intro (fun q => absurd q (by omega)) (fun _ => ?_)
      refine PU.I (P_usual x0 (by omega)) ?_
      rw [wr_id (x := x + 1) (by omega)]
      refine And.intro ⟨x0, by omega⟩ (L_zu K d (x + 1) _ _ _ (by omega) (by omega) (fun t k i y hn => by rw [up_o (by omega)]; exact f t k i y hn) (fun y => by rw [up_o (by decide)]; exact e y) (fun k a b => ?_))
      rw [up_s]
      by_cases q : k = x
      · rw [if_pos q, q]
      · rw [if_neg q]; exact hr k a (by omega)
theorem Z_rmach (H : HH h L) (e0 : s 40 0 0 2 = L) (eb : ∀ x, 0 ≤ x → x < L → s 41 0 0 x = h x) {F : Int → ST → Prop} (K : ∀ s', Fz s s' → ((maV h).1 = -1 → ∀ k, 0 ≤ k → k < 4 → s' 42 0 0 k = (maV h).2 k) → F (maV h).1 s') : wpM m_Z_readMachine [zz] s (asI F) := by
  have l1 := H.l1
  refine T_Z_readMachine _ _ _ _ ?_
  refine L_zu (σ := up (up s 40 0 0 3 0) 40 0 0 4 (-1)) (fun s1 f1 e1 r1 o3 => ?_) 4 0 _ _ _ (by omega) (by omega) (fun _ _ _ _ _ => rfl) (fun _ => rfl) (fun k a b => absurd b (by omega))
  have f01 : Fz s s1 := fun t k i x hn => by
    rw [f1 t k i x hn]
    unfold up
    rw [if_neg (by omega), if_neg (by omega)]
  have B1 : ZB s1 h L 0 := ⟨H, (f01 _ _ _ _ (by omega)).trans e0, fun x a b => (f01 _ _ _ _ (by omega)).trans (eb x a b), by rw [e1, up_s, if_neg (by decide), up_s, if_pos rfl], by omega, H.l0⟩
  exact L_zm (σ := s) 321 0 0 s1 _ _ _ (by omega) B1 f01 (by rw [e1, up_s, if_pos rfl]) GB_0 r1 (fun s' a b => K s' a b)
end ZTS
