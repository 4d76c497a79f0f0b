/-! perform on both: the loops and the pair -/
def perfV (c : Int → Int) (P : MP) (m : Int) : Nat → (Int → Int) → (Int → Int → Int) → Int → Int → Int × (Int → Int) × (Int → Int → Int) × Int
  | 0, g, H, u, i => (i, g, H, u)
  | d + 1, g, H, u, i => if whyS c P g m i = -1 then perfV c P m d (notS c P g m i) (pushH H u g) (uN u) (i + 1) else (i, g, H, u)
abbrev ZF (σ s : ST) : Prop := ∀ (t : Nat) (k i x : Int), ¬ (t = 46 ∨ t = 48 ∨ (t = 40 ∧ (x = 18 ∨ x = 20))) → s t k i x = σ t k i x
section PRG
variable {σ s s' : ST} {P : MP} {m : Int}
theorem L_X_perf (hs : SCi σ) (hk : MPok P) (hm : 0 ≤ m ∧ m < σ 40 0 0 14) {o1 : Option AV} {F : Int → ST → Prop} : ∀ (d : Nat) (g : Int → Int) (H : Int → Int → Int) (u i n : Int) (s : ST), i + d = σ 45 0 0 m → 0 ≤ i → n + d ≤ 100000 → XF σ s → RX s 0 P g → GW P g n → XU s P H n u → (∀ s' v, v = perfV (σ 44 0 0) P m d g H u i → XF σ s' → RX s' 0 P v.2.1 → XU s' P v.2.2.1 (n + d) v.2.2.2 → GW P v.2.1 (n + d) → F v.1 s') → wp m_X_perform (26, [some xx, o1, some (.inr (.inr (5, m, 0))), some (.inl i)], [], s) (asI F)
  | d, g, H, u, i, n, s, hd, i0, hn, o, hx, hg, hu, K => by
    have ln := hs.len m hm.1 hm.2
    have e5 : s 5 m 0 0 = σ 5 m 0 0 := o _ _ _ _ (by omega)
    have e44 : s 44 0 0 = σ 44 0 0 := funext fun x => o _ _ _ _ (by omega)
    have e45 : s 45 0 0 m = σ 45 0 0 m := o _ _ _ _ (by omega)
    have e14 : s 40 0 0 14 = σ 40 0 0 14 := o _ _ _ _ (by omega)
    have hs' := hs.off o
    refine T_X_perform_26 _ _ _ _ _ _ _ _ ?_
    rw [e5, ln.1]
    match d, hd, hn, K with
    | 0, hd, hn, K => exact And.intro (fun _ => K s (i, g, H, u) rfl o hx (hu.mono (by omega) (by omega)) (hg.mono (by omega) (by omega))) (fun q => absurd (show σ 45 0 0 m ≤ i by omega) q)
    | d + 1, hd, hn, K =>
      refine And.intro (fun q => absurd q (by omega)) (fun _ => ?_)
      unfold perfV at K
      refine C_X_step hx hg hk (by omega) hu hs' (by rw [e14]; exact hm) (by rw [e45]; exact ⟨i0, by omega⟩) ?_ ?_
      · rw [e44]
        intro hy s1 f1 r1 u1
        rw [if_neg hy] at K
        exact And.intro (fun _ => K s1 (i, g, H, u) rfl (fun t k i x hn => (f1 t k i x hn).trans (o t k i x hn)) r1 (u1.mono (by omega) (by omega)) (hg.mono (by omega) (by omega))) (fun q => absurd rfl q)
      · rw [e44]
        intro hy s1 f1 r1 u1 g1
        rw [if_pos hy] at K
        refine And.intro (fun q => absurd q (by decide)) (fun _ => ?_)
        rw [wr_id (by omega)]
        refine L_X_perf hs hk hm d _ _ _ (i + 1) (n + 1) s1 (by omega) (by omega) (by omega) (fun t k i x hn => (f1 t k i x hn).trans (o t k i x hn)) r1 g1 u1 (fun s' v e a b c dd => ?_)
        exact K s' v e a b (c.mono (by omega) (by omega)) (dd.mono (by omega) (by omega))
theorem L_Z_go1 (hs : SCi σ) (hm : 0 ≤ m ∧ m < σ 40 0 0 14) (hp : P.np ≠ 0) {Q : Option AV → ST → Prop} : ∀ (d : Nat) (g : Int → Int) (H : Int → Int → Int) (u i n : Int) (s : ST) (o4 o5 o6 : Option AV), i + d = σ 45 0 0 m → 0 ≤ i → n + d ≤ 100000 → ZF σ s → ZS s P g → GW P g n → 0 ≤ g 345 ∧ g 345 ≤ 60 → 0 ≤ u ∧ u ≤ 40 → ZU s H u → (∀ s' v, v = perfV (σ 44 0 0) P m d g H u i → ZF σ s' → ZS s' P v.2.1 → ZU s' v.2.2.1 v.2.2.2 → Q (some (.inl v.1)) s') → wp m_Z_goSteps (7, [some zz, some (.inl m), some (.inl 1), some (.inl i), o4, o5, o6], [], s) Q
  | d, g, H, u, i, n, s, o4, o5, o6, hd, i0, hn, o, hz, hg, lg, hu, zu, K => by
    have c1 := hs.c1
    have e44 : s 44 0 0 = σ 44 0 0 := funext fun x => o _ _ _ _ (by omega)
    have e45 : s 45 0 0 m = σ 45 0 0 m := o _ _ _ _ (by omega)
    have e14 : s 40 0 0 14 = σ 40 0 0 14 := o _ _ _ _ (by omega)
    have hs' : SCi s := hs.keep (o _ _ _ _ (by omega)) e14 (fun _ _ _ => o _ _ _ _ (by omega)) (fun _ _ _ _ => o _ _ _ _ (by omega)) (fun _ _ => o _ _ _ _ (by omega)) (fun _ _ => o _ _ _ _ (by omega))
    match d, hd, hn, K with
    | 0, hd, hn, K =>
      refine T_Z_goSteps_7 _ _ _ _ _ _ _ _ _ _ ?_
      refine And.intro ⟨by omega, by omega⟩ (And.intro (fun _ => And.intro ⟨by omega, by omega⟩ ?_) (fun q => absurd (show s 45 0 0 m ≤ i by omega) q))
      rw [show s 45 0 0 m = i by omega]
      exact K s (i, g, H, u) rfl o hz zu
    | d + 1, hd, hn, K =>
      have sr := hs.srt m i hm.1 hm.2 i0 (by omega)
      unfold perfV at K
      refine Z_go_why hz hg hs' (by rw [e14]; exact hm) (by rw [e45]; exact ⟨i0, by omega⟩) ?_ (fun _ q => absurd q (by decide)) ?_
      · rw [e44]
        intro hy
        rw [if_neg hy] at K
        refine K _ (i, g, H, u) rfl (fun t k i x hn => by unfold up; rw [if_neg (by omega)]; exact o t k i x hn) (hz.keepo (fun x => up_o (by decide)) (fun x => up_o (by decide)) (by rw [up_s, if_neg (by decide)])) ⟨by rw [up_s, if_neg (by decide)]; exact zu.eq, fun j x a b c d => by rw [up_o (by decide)]; exact zu.row j x a b c d⟩
      · rw [e44]
        intro hy _
        rw [if_pos hy] at K
        have ld : doS (σ 44 0 0) P g m i 345 = g 345 := do_lg hg hz.ok sr.1 (by omega) hy (by omega)
        have gd : GW P (doS (σ 44 0 0) P g m i) (n + 1) := G_do hg hz.ok (by omega) sr.1 (by omega) hy
        have z1 : ZS (up s 40 0 0 20 (-1)) P g := hz.keepo (fun x => up_o (by decide)) (fun x => up_o (by decide)) (by rw [up_s, if_neg (by decide)])
        refine A_Z_act z1 hp hg lg (u := u) hu (by rw [up_s, if_neg (by decide)]; exact zu.eq) sr.1 (by omega) hy ld (fun s2 f2 z2 e18 k1 k2 o4 o5 o6 => ?_)
        have ea : (if σ 44 0 0 (6 * (12 * m + i)) = 1 then -1 else σ 44 0 0 (6 * (12 * m + i) + 1)) = σ 44 0 0 (6 * (12 * m + i) + 1) := by
          by_cases h : σ 44 0 0 (6 * (12 * m + i)) = 1
          · rw [if_pos h]; exact (hs.slo m i hm.1 hm.2 i0 (by omega) h).symm
          · rw [if_neg h]
        rw [ea] at z2
        have z3 : ZS s2 P (notS (σ 44 0 0) P g m i) := z2
        obtain ⟨q, q0, q1, q2, -⟩ := note_at (g := doS (σ 44 0 0) P g m i) (s := σ 44 0 0 (6 * (12 * m + i))) (f := σ 44 0 0 (6 * (12 * m + i) + 1)) (a := ansS (σ 44 0 0) P g m i) (by omega) (by omega)
        have n345 : notS (σ 44 0 0) P g m i 345 = q + 1 := q2
        have row := zu.row
        refine L_Z_go1 hs hm hp d _ (pushH H u g) (uN u) (i + 1) (n + 1) s2 o4 o5 o6 (by omega) (by omega) (by omega) (fun t k i x hn => ?_) z3 (gd.ext hz.ok (fun x a b => note_lo (by omega) b)) (by omega) (by unfold uN; split <;> omega) ⟨e18, fun j x a b c dd => ?_⟩ K
        · rw [f2 t k i x (by omega)]
          unfold up
          rw [if_neg (by omega)]
          exact o t k i x hn
        · unfold uN at b
          unfold pushH
          by_cases h4 : u = 40
          · rw [if_pos h4] at k1 k2 b ⊢
            by_cases hj : j = 39
            · rw [if_pos hj, hj]; exact k2 x c dd
            · rw [if_neg hj, k1 j x a (by omega) c dd, if_pos h4, up_o (by decide)]
              exact row (j + 1) x (by omega) (by omega) c dd
          · rw [if_neg h4] at k1 k2 b ⊢
            by_cases hj : j = u
            · rw [if_pos hj, hj]; exact k2 x c dd
            · rw [if_neg hj, k1 j x a (by omega) c dd, if_neg h4, up_o (by decide)]
              exact row j x a (by omega) c dd
theorem UN_H {σ : ST} {P : MP} {n : Int} (h : UNi σ P n) : ∃ H : Int → Int → Int, XU σ P H n (σ 40 0 0 18) ∧ ZU σ H (σ 40 0 0 18) := by
  have Hc : ∃ H : Int → Int → Int, ∀ j, 0 ≤ j → j < σ 40 0 0 18 → (∀ x, 0 ≤ x → x < 526 → σ 48 0 0 (526 * j + x) = H j x) ∧ RX σ (3 + (σ 0 0 0 11 - σ 40 0 0 18 + j) % 41) P (H j) ∧ GW P (H j) n := by
    refine ⟨fun j => if q : 0 ≤ j ∧ j < σ 40 0 0 18 then Classical.choose (h.row j q.1 q.2) else fun _ => 0, fun j a b => ?_⟩
    have e : (if q : 0 ≤ j ∧ j < σ 40 0 0 18 then Classical.choose (h.row j q.1 q.2) else fun _ => 0) = Classical.choose (h.row j a b) := dif_pos ⟨a, b⟩
    have cs := Classical.choose_spec (h.row j a b)
    rw [← e] at cs
    exact cs
  obtain ⟨H, hc⟩ := Hc
  exact ⟨H, ⟨h.u0, h.u1, h.eq, h.p0, h.p1, fun j a b => (hc j a b).2⟩, ⟨rfl, fun j x a b c d => (hc j a b).1 x c d⟩⟩
theorem PR_perform (m : Int) : PRf m_X_perform m_Z_perform [.inl m] := by
  intro σ n hI hn F K
  obtain ⟨P, g, h⟩ := hI
  have neg : ¬ (P.np ≠ 0 ∧ (0 ≤ m ∧ m < σ 40 0 0 14)) → wpM m_Z_perform [zz, .inl m] σ (asI fun r' s' => F (-1) r' s') := by
    intro hk
    have fin := K (-1) σ ⟨P, g, h.mono (by omega) (by omega)⟩
    refine T_Z_perform _ _ _ _ _ ?_
    refine PU.I (Z_isScript h.s m) ?_
    refine And.intro (fun _ => fin) (fun q1 => And.intro (fun _ => fin) (fun q2 => ?_))
    rw [h.z.mac] at q2
    simp only [b2_e0, Classical.not_not, ne_eq] at q1 q2
    exact absurd ⟨q2, q1⟩ hk
  refine T_X_perform _ _ _ _ _ ?_
  rw [h.m.has]
  refine And.intro (fun q => neg (fun z => absurd ((b2_h z.1).trans q) (by decide))) (fun q1 => ?_)
  refine PU.I (X_isScript h.s m) ?_
  refine And.intro (fun q2 => ?_) (fun q => neg (fun z => absurd q (by rw [← b2_h z.2]; decide)))
  simp only [b2_e0, Classical.not_not, ne_eq] at q1 q2
  have c1 := h.s.c1
  have ln := h.s.len m q2.1 q2.2
  have u0 := h.u.u0
  have u1 := h.u.u1
  have lg := h.x.1.lg
  obtain ⟨H, xu, zu⟩ := UN_H h.u
  refine And.intro ⟨by omega, by omega⟩ ?_
  refine L_X_perf h.s h.z.ok q2 (σ 45 0 0 m).toNat g H _ 0 n σ (by omega) (by omega) (by omega) (fun _ _ _ _ _ => rfl) h.x h.w xu (fun s1 v ev f1 r1 ux g1 => ?_)
  have hs1 := h.s.off f1
  have e14 : s1 40 0 0 14 = σ 40 0 0 14 := f1 _ _ _ _ (by omega)
  have e44 : s1 44 0 0 = σ 44 0 0 := funext fun x => f1 _ _ _ _ (by omega)
  have e45 : s1 45 0 0 m = σ 45 0 0 m := f1 _ _ _ _ (by omega)
  have e18 : s1 40 0 0 18 = σ 40 0 0 18 := f1 _ _ _ _ (by omega)
  have z1 : ZS s1 P g := h.z.keepo (fun x => f1 _ _ _ _ (by omega)) (fun x => f1 _ _ _ _ (by omega)) (f1 _ _ _ _ (by omega))
  have hm1 : 0 ≤ m ∧ m < s1 40 0 0 14 := by rw [e14]; exact q2
  refine T_Z_perform _ _ _ _ _ ?_
  refine PU.I (Z_isScript hs1 m) ?_
  refine And.intro (fun q => absurd ((b2_h hm1).trans q) (by decide)) (fun _ => And.intro (fun q => absurd ((b2_h q1).trans (z1.mac.symm.trans q)) (by decide)) (fun _ => ?_))
  refine T_Z_goSteps _ _ _ _ _ _ ?_
  refine L_Z_go1 (σ := s1) hs1 hm1 q1 (σ 45 0 0 m).toNat g H (σ 40 0 0 18) 0 n (up s1 40 0 0 20 (-1)) none none none (by omega) (by omega) (by omega) (fun t k i x hn => by unfold up; rw [if_neg (by omega)]) (z1.keepo (fun x => up_o (by decide)) (fun x => up_o (by decide)) (by rw [up_s, if_neg (by decide)])) h.w ⟨lg.l0, lg.l1⟩ ⟨u0, u1⟩ ⟨by rw [up_s, if_neg (by decide)]; exact e18, fun j x a b c d => by rw [up_o (by decide), f1 _ _ _ _ (by omega)]; exact zu.row j x a b c d⟩ (fun s2 v' ev' f2 z2 u2 => ?_)
  rw [e44, ← ev] at ev'
  rw [ev'] at z2 u2
  rw [ev']
  have fr : ∀ (t : Nat) (k i x : Int), ¬ ((11 ≤ t ∧ t ≤ 29 ∧ (k = 0 ∨ 3 ≤ k)) ∨ (t = 0 ∧ (x = 11 ∨ x = 12)) ∨ t = 46 ∨ t = 48 ∨ (t = 40 ∧ (x = 18 ∨ x = 20))) → s2 t k i x = σ t k i x := fun t k i x hn => (f2 t k i x (by omega)).trans (f1 t k i x (by omega))
  have xu2 : XU s2 P v.2.2.1 (n + (σ 45 0 0 m).toNat) v.2.2.2 := ux.keep (f2 _ _ _ _ (by omega)) (f2 _ _ _ _ (by omega)) (fun t k i x a b c d => f2 _ _ _ _ (by omega))
  refine K _ _ ⟨P, v.2.1, IVg.mono (n := n + (σ 45 0 0 m).toNat) ?_ (by omega) (by omega)⟩
  refine ⟨z2, r1.keepo (fun t i x a b => f2 _ _ _ _ (by omega)), g1, h.m.keep (fr _ _ _ _ (by omega)) (fun x => fr _ _ _ _ (by omega)) (fun x => fr _ _ _ _ (by omega)), fun i a b => by rw [fr _ _ _ _ (by omega), fr _ _ _ _ (by omega)]; exact h.r.eq i a b, h.t.keep (fr _ _ _ _ (by omega)) (fr _ _ _ _ (by omega)) (fun x => fr _ _ _ _ (by omega)) (fun x => fr _ _ _ _ (by omega)), h.s.keep (fr _ _ _ _ (by omega)) (fr _ _ _ _ (by omega)) (fun m a b => fr _ _ _ _ (by omega)) (fun m x a b => fr _ _ _ _ (by omega)) (fun x a => fr _ _ _ _ (by omega)) (fun x a => fr _ _ _ _ (by omega)), ?_, h.i.keep (by omega) (by omega) (fr _ _ _ _ (by omega)) (fr _ _ _ _ (by omega)) (fun x => fr _ _ _ _ (by omega)) (fun t i x a b => fr _ _ _ _ (by omega))⟩
  have ue := u2.eq
  unfold UNi
  rw [ue]
  exact ⟨xu2.u0, xu2.u1, xu2.eq, xu2.p0, xu2.p1, fun q => absurd q q1, fun j a b => ⟨v.2.2.1 j, fun x c d => u2.row j x a b c d, (xu2.row j a b).1, (xu2.row j a b).2⟩⟩
end PRG
