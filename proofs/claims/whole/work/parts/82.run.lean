/-! run on both -/
def runV (c : Int → Int) (P : MP) (m x2 : Int) : Nat → (Int → Int) → Int → Int
  | 0, _, _ => -1
  | d + 1, g, i => if whyS c P g m i = -1 then runV c P m x2 d (doS c P g m i) (i + 1) else if x2 ≠ 0 then whyS c P g m i else i
section RUN
variable {σ s : ST} {P : MP} {g : Int → Int} {n m x2 : Int}
theorem L_X_run (hs : SCi σ) (hk : MPok P) (hm : 0 ≤ m ∧ m < σ 40 0 0 14) {o1 : Option AV} {F : Int → ST → Prop} : ∀ (d : Nat) (g : Int → Int) (i n : Int) (s : ST), i + d = σ 45 0 0 m → 0 ≤ i → n + d ≤ 100000 → Off (SAc 1) σ s → RX s 1 P g → GW P g n → (∀ s', Off (SAc 1) σ s' → F (runV (σ 44 0 0) P m x2 d g i) s') → wp m_X_run (51, [some xx, o1, some (.inl x2), some (.inr (.inr (5, m, 0))), some (.inl i)], [], s) (asI F)
  | d, g, i, n, s, hd, i0, hn, o, H, hg, K => by
    have ln := hs.len m hm.1 hm.2
    have e5 : s 5 m 0 0 = σ 5 m 0 0 := o 5 m 0 0 (fun z => absurd z.2.1 (by decide))
    have e44 : s 44 0 0 = σ 44 0 0 := funext fun x => o 44 0 0 x (fun z => absurd z.2.2 (by decide))
    have e45 : s 45 0 0 m = σ 45 0 0 m := o 45 0 0 m (fun z => absurd z.2.2 (by decide))
    have e14 : s 40 0 0 14 = σ 40 0 0 14 := o 40 0 0 14 (fun z => absurd z.2.2 (by decide))
    have hs' : SCi s := hs.keep (o 0 0 0 4 (fun z => absurd z.2.1 (by decide))) e14 (fun _ _ _ => o _ _ _ _ (fun z => absurd z.2.1 (by decide))) (fun _ _ _ _ => o _ _ _ _ (fun z => absurd z.2.1 (by decide))) (fun _ _ => o _ _ _ _ (fun z => absurd z.2.2 (by decide))) (fun _ _ => o _ _ _ _ (fun z => absurd z.2.2 (by decide)))
    refine T_X_run_51 _ _ _ _ _ _ _ _ _ ?_
    rw [e5, ln.1]
    match d, hd, hn, K with
    | 0, hd, hn, K => exact And.intro (fun _ => K s o) (fun q => absurd (show σ 45 0 0 m ≤ i by omega) q)
    | d + 1, hd, hn, K =>
      refine And.intro (fun q => absurd q (by omega)) (fun _ => ?_)
      refine C_A_step H hg hs' (by rw [e14]; exact hm) (by rw [e45]; exact ⟨i0, by omega⟩) (fun s1 v o1 hno hdo => ?_)
      rw [e44] at hno hdo
      have o2 : Off (SAc 1) σ s1 := Off_cat o o1
      unfold runV at K
      by_cases hy : whyS (σ 44 0 0) P g m i = -1
      · obtain ⟨e1, r1, -⟩ := hdo hy
        have sr := hs.srt m i hm.1 hm.2 i0 (by omega)
        have gd := G_do hg hk (show n + 1 ≤ 100000 by omega) sr.1 (by omega) hy
        rw [if_pos hy] at K
        refine And.intro (fun _ => ?_) (fun q => absurd e1 q)
        rw [wr_id (by omega)]
        exact L_X_run hs hk hm d _ (i + 1) (n + 1) s1 (by omega) (by omega) (by omega) o2 (gd.x r1) gd K
      · obtain ⟨e1, r1⟩ := hno hy
        rw [if_neg hy] at K
        rw [e1]
        refine And.intro (fun q => absurd q hy) (fun _ => And.intro (fun q => ?_) (fun q => ?_))
        · rw [if_pos q] at K; exact K s1 o2
        · rw [if_neg q] at K; exact K s1 o2
abbrev Z0 (σ s : ST) : Prop := ∀ (t : Nat) (k i x : Int), ¬ (t = 46 ∨ (t = 40 ∧ x = 20)) → s t k i x = σ t k i x
theorem L_Z_go0 (hs : SCi σ) (hm : 0 ≤ m ∧ m < σ 40 0 0 14) (hp : P.np ≠ 0) (hx : x2 = 0 ∨ x2 = 1) {Q : Option AV → ST → Prop} : ∀ (d : Nat) (g : Int → Int) (i n : Int) (s : ST) (o4 o5 o6 : Option AV), i + d = σ 45 0 0 m → 0 ≤ i → n + d ≤ 100000 → Z0 σ s → ZS s P g → GW P g n → s 40 0 0 20 = -1 → (∀ r s', Z0 σ s' → (∃ g', ZS s' P g' ∧ ∀ w, 345 ≤ w → g' w = g w) → (if x2 ≠ 1 then (if s' 40 0 0 20 ≠ -1 then r else -1) else s' 40 0 0 20) = runV (σ 44 0 0) P m x2 d g i → Q (some (.inl r)) s') → wp m_Z_goSteps (7, [some zz, some (.inl m), some (.inl 0), some (.inl i), o4, o5, o6], [], s) Q
  | d, g, i, n, s, o4, o5, o6, hd, i0, hn, o, hz, hg, e20, K => by
    have c1 := hs.c1
    have e44 : s 44 0 0 = σ 44 0 0 := funext fun x => o 44 0 0 x (by omega)
    have e45 : s 45 0 0 m = σ 45 0 0 m := o 45 0 0 m (by omega)
    have e14 : s 40 0 0 14 = σ 40 0 0 14 := o 40 0 0 14 (by omega)
    have hs' : SCi s := hs.keep (o 0 0 0 4 (by omega)) e14 (fun _ _ _ => o _ _ _ _ (by omega)) (fun _ _ _ _ => o _ _ _ _ (by omega)) (fun _ _ => o _ _ _ _ (by omega)) (fun _ _ => o _ _ _ _ (by omega))
    match d, hd, hn, K with
    | 0, hd, hn, K =>
      refine T_Z_goSteps_7 _ _ _ _ _ _ _ _ _ _ ?_
      refine And.intro ⟨by omega, by omega⟩ (And.intro (fun _ => And.intro ⟨by omega, by omega⟩ ?_) (fun q => absurd (show s 45 0 0 m ≤ i by omega) q))
      refine K _ s o ⟨g, hz, fun _ _ => rfl⟩ ?_
      unfold runV
      rw [e20]
      (repeat' split) <;> first | rfl | omega
    | d + 1, hd, hn, K =>
      have sr := hs.srt m i hm.1 hm.2 i0 (by omega)
      refine Z_go_why hz hg hs' (by rw [e14]; exact hm) (by rw [e45]; exact ⟨i0, by omega⟩) ?_ ?_ (fun _ q => absurd rfl q)
      · rw [e44]
        intro hy
        refine K _ _ (fun t k i x hn => by unfold up; rw [if_neg (by omega)]; exact o t k i x hn) ⟨g, hz.keepo (fun x => up_o (by decide)) (fun x => up_o (by decide)) (by rw [up_s, if_neg (by decide)]), fun _ _ => rfl⟩ ?_
        unfold runV
        rw [if_neg hy, up_s, if_pos rfl, if_pos hy]
        (repeat' split) <;> first | rfl | omega
      · rw [e44]
        intro hy _
        have z1 : ZS (up s 40 0 0 20 (-1)) P g := hz.keepo (fun x => up_o (by decide)) (fun x => up_o (by decide)) (by rw [up_s, if_neg (by decide)])
        refine A_Z_do (ZT.start z1 hp) hg sr.1 (by omega) hy (fun s2 z2 o4 o5 o6 => ?_)
        have oo := z2.2.2
        have gd := G_do hg hz.ok (show n + 1 ≤ 100000 by omega) sr.1 (by omega) hy
        unfold runV at K
        rw [if_pos hy] at K
        refine L_Z_go0 hs hm hp hx d (doS (σ 44 0 0) P g m i) (i + 1) (n + 1) s2 o4 o5 o6 (by omega) (by omega) (by omega) (fun t k i x hn => ?_) z2.1 gd ?_ (fun r s' a b c => K r s' a ?_ c)
        · rw [oo t k i x (by omega)]
          unfold up
          rw [if_neg (by omega)]
          exact o t k i x hn
        · rw [oo 40 0 0 20 (by decide), up_s, if_pos rfl]
        · obtain ⟨g', b1, b2⟩ := b
          refine ⟨g', b1, fun w hw => ?_⟩
          rw [b2 w hw]
          exact do_lg hg hz.ok sr.1 (by omega) hy hw
theorem L_Z_save {Q : Option AV → ST → Prop} {x1 : Int} (K : ∀ s, (∀ (t : Nat) (k i x : Int), t ≠ 50 → s t k i x = σ t k i x) → (∀ x, 0 ≤ x → x < 345 → s 50 0 0 x = σ 46 0 0 x) → wpM m_Z_goSteps [zz, .inl x1, .inl 0] s (asI fun r101 s101 => wp m_Z_run (65, [some zz, some (.inl x1), some (.inl x2), some (.inl r101), some (.inl 0)], [], s101) Q)) : ∀ (d : Nat) (i : Int) (s : ST) (o4 : Option AV), i + d = 345 → 0 ≤ i → (∀ (t : Nat) (k i x : Int), t ≠ 50 → s t k i x = σ t k i x) → (∀ x, 0 ≤ x → x < i → s 50 0 0 x = σ 46 0 0 x) → wp m_Z_run (30, [some zz, some (.inl x1), some (.inl x2), some (.inl i), o4], [], s) Q
  | d, i, s, o4, hd, i0, o, h => by
    refine T_Z_run_30 _ _ _ _ _ _ _ _ ?_
    match d, hd with
    | 0, hd => exact And.intro (fun _ => K s o (fun x a b => h x a (by omega))) (fun q => absurd (show 345 ≤ i by omega) q)
    | d + 1, hd =>
      refine And.intro (fun q => absurd q (by omega)) (fun _ => And.intro ⟨by omega, by omega⟩ (And.intro ⟨by omega, by omega⟩ ?_))
      rw [wr_id (by omega)]
      refine L_Z_save K d (i + 1) _ o4 (by omega) (by omega) (fun t k i x hn => (up_o hn).trans (o t k i x hn)) (fun x a b => ?_)
      rw [up_s]
      by_cases hx : x = i
      · rw [if_pos hx, hx]; exact o 46 0 0 i (by decide)
      · rw [if_neg hx]; exact h x a (by omega)
theorem L_Z_rest {Q : Option AV → ST → Prop} {x3 : Int} {o1 : Option AV} (K : ∀ s, (∀ (t : Nat) (k i x : Int), t ≠ 46 → s t k i x = σ t k i x) → (∀ x, 0 ≤ x → x < 345 → s 46 0 0 x = σ 50 0 0 x) → (∀ x, 345 ≤ x → s 46 0 0 x = σ 46 0 0 x) → Q (some (.inl (if x2 ≠ 1 then (if s 40 0 0 20 ≠ -1 then x3 else -1) else s 40 0 0 20))) s) : ∀ (d : Nat) (i : Int) (s : ST), i + d = 345 → 0 ≤ i → (∀ (t : Nat) (k i x : Int), t ≠ 46 → s t k i x = σ t k i x) → (∀ x, 0 ≤ x → x < i → s 46 0 0 x = σ 50 0 0 x) → (∀ x, 345 ≤ x → s 46 0 0 x = σ 46 0 0 x) → wp m_Z_run (65, [some zz, o1, some (.inl x2), some (.inl x3), some (.inl i)], [], s) Q
  | d, i, s, hd, i0, o, h, h2 => by
    refine T_Z_run_65 _ _ _ _ _ _ _ _ ?_
    match d, hd with
    | 0, hd =>
      have k := K s o (fun x a b => h x a (by omega)) h2
      refine And.intro (fun _ => And.intro (fun q => And.intro (fun q2 => ?_) (fun q2 => ?_)) (fun q => ?_)) (fun q => absurd (show 345 ≤ i by omega) q)
      · rw [if_pos q, if_pos q2] at k; exact k
      · rw [if_pos q, if_neg q2] at k; exact k
      · rw [if_neg q] at k; exact k
    | d + 1, hd =>
      refine And.intro (fun q => absurd q (by omega)) (fun _ => And.intro ⟨by omega, by omega⟩ (And.intro ⟨by omega, by omega⟩ ?_))
      rw [wr_id (by omega)]
      refine L_Z_rest K d (i + 1) _ (by omega) (by omega) (fun t k i x hn => (up_o hn).trans (o t k i x hn)) (fun x a b => ?_) (fun x a => ?_)
      · rw [up_s]
        by_cases hx : x = i
        · rw [if_pos hx, hx]; exact o 50 0 0 i (by decide)
        · rw [if_neg hx]; exact h x a (by omega)
      · rw [up_s, if_neg (by omega)]; exact h2 x a
theorem IVg.keepr (hI : IVg σ P g n) (fr : ∀ (t : Nat) (k i x : Int), ¬ ((11 ≤ t ∧ t ≤ 29 ∧ k = 1) ∨ t = 46 ∨ t = 49 ∨ t = 50 ∨ (t = 40 ∧ x = 20)) → s t k i x = σ t k i x) (e46 : ∀ x, 0 ≤ x → x < 526 → s 46 0 0 x = σ 46 0 0 x) : IVg s P g n := by
  have z := hI.z
  have le := hI.w.n.le
  refine ⟨⟨z.ok, fun x a b => (e46 x a b).trans (z.now x a b), ?_, ?_, ?_, ?_, ?_, z.zr, z.zc⟩, hI.x.keepo (fun t i x a b => fr _ _ _ _ (by omega)), hI.w, hI.m.keep (fr _ _ _ _ (by omega)) (fun x => fr _ _ _ _ (by omega)) (fun x => fr _ _ _ _ (by omega)), ?_, hI.t.keep (fr _ _ _ _ (by omega)) (fr _ _ _ _ (by omega)) (fun x => fr _ _ _ _ (by omega)) (fun x => fr _ _ _ _ (by omega)), hI.s.keep (fr _ _ _ _ (by omega)) (fr _ _ _ _ (by omega)) (fun m a b => fr _ _ _ _ (by omega)) (fun m x a b => fr _ _ _ _ (by omega)) (fun x a => fr _ _ _ _ (by omega)) (fun x a => fr _ _ _ _ (by omega)), hI.u.keep (by omega) le (fr _ _ _ _ (by omega)) (fr _ _ _ _ (by omega)) (fr _ _ _ _ (by omega)) (fun x => fr _ _ _ _ (by omega)) (fun t k i x a b c d => fr _ _ _ _ (by omega)), hI.i.keep (by omega) le (fr _ _ _ _ (by omega)) (fr _ _ _ _ (by omega)) (fun x => fr _ _ _ _ (by omega)) (fun t i x a b => fr _ _ _ _ (by omega))⟩
  · rw [fr _ _ _ _ (by omega)]; exact z.np
  · rw [fr _ _ _ _ (by omega)]; exact z.nc
  · rw [fr _ _ _ _ (by omega)]; exact z.nh
  · rw [fr _ _ _ _ (by omega)]; exact z.key
  · rw [fr _ _ _ _ (by omega)]; exact z.mac
  · exact fun i a b => by rw [fr _ _ _ _ (by omega), fr _ _ _ _ (by omega)]; exact hI.r.eq i a b
theorem PR_run (m x2 : Int) : PRf m_X_run m_Z_run [.inl m, .inl x2] := by
  intro σ n hI hn F K
  obtain ⟨P, g, h⟩ := hI
  have c1 := h.s.c1
  have neg : ¬ (P.np ≠ 0 ∧ (0 ≤ m ∧ m < σ 40 0 0 14) ∧ (0 ≤ x2 ∧ x2 ≤ 1)) → wpM m_Z_run [zz, .inl m, .inl x2] σ (asI fun r' s' => F (-1000000) r' s') := by
    intro hk
    have fin := K (-1000000) σ ⟨P, g, h.mono (by omega) (by omega)⟩
    refine T_Z_run _ _ _ _ _ _ ?_
    refine PU.I (Z_isScript h.s m) ?_
    refine And.intro (fun _ => fin) (fun q1 => And.intro (fun _ => fin) (fun q2 => ?_))
    refine PU.I (P_Z_in _ _ _ _) ?_
    refine And.intro (fun q3 => ?_) (fun _ => fin)
    rw [h.z.mac] at q2
    simp only [b2_e0, Classical.not_not, ne_eq] at q1 q2 q3
    exact absurd ⟨q2, q1, q3⟩ hk
  refine T_X_run _ _ _ _ _ _ ?_
  rw [h.m.has]
  refine And.intro (fun q => neg (fun z => absurd ((b2_h z.1).trans q) (by decide))) (fun q1 => ?_)
  refine PU.I (X_isScript h.s m) ?_
  refine And.intro (fun q => neg (fun z => absurd ((b2_h z.2.1).trans q) (by decide))) (fun q2 => And.intro (fun q => neg (fun z => absurd q (by omega))) (fun q3 => And.intro (fun q4 => ?_) (fun q => neg (fun z => absurd z.2.2.2 q))))
  simp only [b2_e0, Classical.not_not, ne_eq] at q1 q2
  have ln := h.s.len m q2.1 q2.2
  refine C_W_take (k := 1) (k1 := 0) (by decide) (fun s1 o1 t1 => ?_)
  refine And.intro ⟨by omega, by omega⟩ ?_
  refine L_X_run h.s h.z.ok q2 (σ 45 0 0 m).toNat g 0 n s1 (by omega) (by omega) (by omega) (Off_sub o1 (fun t k i z => ⟨z.1, by have := z.2.1; omega, z.2.2⟩)) (t1 P g h.x) h.w (fun s2 o2 => ?_)
  have h2 : IVg s2 P g n := h.keepr (fun t k i x hn => o2 _ _ _ _ (fun z => hn (Or.inl ⟨z.2.1, z.2.2, z.1⟩))) (fun x _ _ => o2 46 0 0 x (fun z => absurd z.2.2 (by decide)))
  have e14 : s2 40 0 0 14 = σ 40 0 0 14 := o2 40 0 0 14 (fun z => absurd z.2.2 (by decide))
  have e44 : s2 44 0 0 = σ 44 0 0 := funext fun x => o2 44 0 0 x (fun z => absurd z.2.2 (by decide))
  have e45 : s2 45 0 0 m = σ 45 0 0 m := o2 45 0 0 m (fun z => absurd z.2.2 (by decide))
  have hm2 : 0 ≤ m ∧ m < s2 40 0 0 14 := by rw [e14]; exact q2
  refine T_Z_run _ _ _ _ _ _ ?_
  refine PU.I (Z_isScript h2.s m) ?_
  refine And.intro (fun q => absurd ((b2_h hm2).trans q) (by decide)) (fun _ => And.intro (fun q => absurd ((b2_h q1).trans (h2.z.mac.symm.trans q)) (by decide)) (fun _ => ?_))
  refine PU.I (P_Z_in _ _ _ _) ?_
  refine And.intro (fun _ => ?_) (fun q => absurd q (by rw [← b2_h (show 0 ≤ x2 ∧ x2 ≤ 1 by omega)]; decide))
  refine L_Z_save (σ := s2) (fun s3 o3 a3 => ?_) 345 0 s2 none (by omega) (by omega) (fun _ _ _ _ _ => rfl) (fun x a b => absurd b (by omega))
  have h3 : IVg s3 P g n := h2.keepr (fun t k i x hn => o3 t k i x (by omega)) (fun x _ _ => o3 46 0 0 x (by decide))
  have f14 : s3 40 0 0 14 = s2 40 0 0 14 := o3 40 0 0 14 (by decide)
  have f44 : s3 44 0 0 = s2 44 0 0 := funext fun x => o3 44 0 0 x (by decide)
  have f45 : s3 45 0 0 m = s2 45 0 0 m := o3 45 0 0 m (by decide)
  refine T_Z_goSteps _ _ _ _ _ _ ?_
  refine L_Z_go0 (σ := s3) (x2 := x2) h3.s (by rw [f14]; exact hm2) q1 (by omega) (σ 45 0 0 m).toNat g 0 n (up s3 40 0 0 20 (-1)) none none none (by omega) (by omega) (by omega) (fun t k i x hn => by unfold up; rw [if_neg (by omega)]) (h3.z.keepo (fun x => up_o (by decide)) (fun x => up_o (by decide)) (by rw [up_s, if_neg (by decide)])) h.w (by rw [up_s, if_pos rfl]) (fun r s4 o4 b4 ev => ?_)
  obtain ⟨g', z4, lw⟩ := b4
  show wp m_Z_run _ _
  refine L_Z_rest (σ := s4) (fun s5 o5 a5 b5 => ?_) 345 0 s4 (by omega) (by omega) (fun _ _ _ _ _ => rfl) (fun x a b => absurd b (by omega)) (fun _ _ => rfl)
  have e20 : s5 40 0 0 20 = s4 40 0 0 20 := o5 40 0 0 20 (by decide)
  rw [e20, ev, f44, e44]
  refine K _ _ ⟨P, g, IVg.mono (h3.keepr (fun t k i x hn => ?_) (fun x a b => ?_)) (by omega) (by omega)⟩
  · rw [o5 t k i x (by omega), o4 t k i x (by omega)]
  · by_cases hx : x < 345
    · rw [a5 x a hx, o4 50 0 0 x (by omega), a3 x a hx, o3 46 0 0 x (by decide)]
    · rw [b5 x (by omega), z4.now x a b, lw x (by omega), h3.z.now x a b]
end RUN
