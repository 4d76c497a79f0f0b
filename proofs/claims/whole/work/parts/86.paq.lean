/-! paper on both: the reference and the pair -/
section PAQ
variable {σ : ST} {m : Int}
abbrev Z9 (σ s : ST) : Prop := ∀ (t : Nat) (k i x : Int), t ≠ 49 → s t k i x = σ t k i x
theorem SCi.of9 {s : ST} (hs : SCi σ) (o : Z9 σ s) : SCi s := hs.keep (o _ _ _ _ (by decide)) (o _ _ _ _ (by decide)) (fun _ _ _ => o _ _ _ _ (by decide)) (fun _ _ _ _ => o _ _ _ _ (by decide)) (fun _ _ => o _ _ _ _ (by decide)) (fun _ _ => o _ _ _ _ (by decide))
theorem L_Z_p2 (hs : SCi σ) (hm : 0 ≤ m ∧ m < σ 40 0 0 14) {o3 o4 o5 : Option AV} {Q : Option AV → ST → Prop} : ∀ (d : Nat) (i : Int), i + d = σ 45 0 0 m → 0 ≤ i → (∀ x, x = (if fC (σ 44 0 0) m d i = -1 then σ 45 0 0 m else fC (σ 44 0 0) m d i) → wp m_Z_paper (36, [some zz, some (.inl m), some (.inl x), o3, o4, o5], [], σ) Q) → wp m_Z_paper (2, [some zz, some (.inl m), some (.inl i), o3, o4, o5], [], σ) Q
  | d, i, hd, i0, K => by
    have c1 := hs.c1
    have ln := hs.len m hm.1 hm.2
    refine T_Z_paper_2 _ _ _ _ _ _ _ _ _ ?_
    refine PU.I (Z_isScript hs m) ?_
    refine And.intro (fun q => absurd ((b2_h hm).trans q) (by decide)) (fun _ => And.intro ⟨by omega, by omega⟩ ?_)
    match d, hd, K with
    | 0, hd, K => exact And.intro (fun _ => K i (by rw [show fC (σ 44 0 0) m 0 i = -1 from rfl, if_pos rfl]; omega)) (fun q => absurd (show σ 45 0 0 m ≤ i by omega) q)
    | d + 1, hd, K =>
      unfold fC at K
      refine And.intro (fun q => absurd q (by omega)) (fun _ => ?_)
      refine PU.I (Z_sort hs hm ⟨i0, by omega⟩) ?_
      refine And.intro (fun q => ?_) (fun q => ?_)
      · rw [if_pos q] at K
        exact K i (by rw [if_neg (by omega)])
      · rw [if_neg q] at K
        rw [wr_id (by omega)]
        exact L_Z_p2 hs hm d (i + 1) (by omega) (by omega) K
theorem L_Z_p60 {x1 x2 : Int} {o4 o5 : Option AV} {Q : Option AV → ST → Prop} (K : ∀ s, Z9 σ s → (∀ x, 0 ≤ x → x < 1000 → s 49 0 0 x = 0) → wpM m_Z_stepOf [zz, .inl x1, .inl x2, .inl 1] s (asI fun r101 s101 => wp m_Z_paper (96, [some zz, some (.inl x1), some (.inl x2), some (.inl (wr (7 + r101))), some (.inl (wr (x2 + 1))), o5], [], s101) Q)) : ∀ (d : Nat) (i : Int) (s : ST), i + d = 1000 → 0 ≤ i → Z9 σ s → (∀ x, 0 ≤ x → x < i → s 49 0 0 x = 0) → wp m_Z_paper (60, [some zz, some (.inl x1), some (.inl x2), some (.inl i), o4, o5], [], s) Q
  | d, i, s, hd, i0, o, h => by
    refine T_Z_paper_60 _ _ _ _ _ _ _ _ _ ?_
    match d, hd with
    | 0, hd => exact And.intro (fun _ => K s o (fun x a b => h x a (by omega))) (fun q => absurd (show 999 < i by omega) q)
    | d + 1, hd =>
      refine And.intro (fun q => absurd q (by omega)) (fun _ => And.intro ⟨by omega, by omega⟩ ?_)
      rw [wr_id (by omega)]
      refine L_Z_p60 K d (i + 1) _ (by omega) (by omega) (fun t k i x hn => (up_o hn).trans (o t k i x hn)) (fun x a b => ?_)
      rw [up_s]
      by_cases hx : x = i
      · rw [if_pos hx]
      · rw [if_neg hx]; exact h x a (by omega)
theorem L_Z_p96 (hs : SCi σ) (hm : 0 ≤ m ∧ m < σ 40 0 0 14) {f : Int} (hf : 0 ≤ f) {o2 : Option AV} {Q : Option AV → ST → Prop} : ∀ (d e : Nat) (w : Int) (s : ST) (o5 : Option AV), f + 1 + e + d = σ 45 0 0 m → Z9 σ s → (∀ a, 0 ≤ a → a < 1000 → s 49 0 0 a = vA (σ 44 0 0) m f a e) → (∀ s', Z9 σ s' → Q (some (.inl (pM (σ 44 0 0) m f d e w))) s') → wp m_Z_paper (96, [some zz, some (.inl m), o2, some (.inl w), some (.inl (f + 1 + e)), o5], [], s) Q
  | d, e, w, s, o5, hd, o, h, K => by
    have c1 := hs.c1
    have ln := hs.len m hm.1 hm.2
    have hs' := hs.of9 o
    have e44 : s 44 0 0 = σ 44 0 0 := funext fun x => o _ _ _ _ (by decide)
    have e45 : s 45 0 0 m = σ 45 0 0 m := o _ _ _ _ (by decide)
    have e14 : s 40 0 0 14 = σ 40 0 0 14 := o _ _ _ _ (by decide)
    have hm' : 0 ≤ m ∧ m < s 40 0 0 14 := by rw [e14]; exact hm
    refine T_Z_paper_96 _ _ _ _ _ _ _ _ _ ?_
    rw [e45]
    refine And.intro ⟨by omega, by omega⟩ ?_
    match d, hd, K with
    | 0, hd, K => exact And.intro (fun _ => K s o) (fun q => absurd (show σ 45 0 0 m ≤ f + 1 + (e : Int) by omega) q)
    | d + 1, hd, K =>
      unfold pM at K
      have hi : 0 ≤ f + 1 + (e : Int) ∧ f + 1 + (e : Int) < s 45 0 0 m := by rw [e45]; omega
      have nx : wr (f + 1 + (e : Int) + 1) = f + 1 + ((e + 1 : Nat) : Int) := by rw [wr_id (by omega)]; omega
      have ad := hs.adr m (f + 1 + e) hm.1 hm.2 hi.1 (by omega)
      have t0 := Z_sort hs' hm' hi
      have t2 := Z_stepOf hs' hm' hi (w := 2) (by omega)
      have t3 := Z_stepOf hs' hm' hi (w := 3) (by omega)
      have t4 := Z_stepOf hs' hm' hi (w := 4) (by omega)
      have t5 := Z_stepOf hs' hm' hi (w := 5) (by omega)
      rw [e44] at t0 t2 t3 t4 t5
      rw [nx]
      refine And.intro (fun q => absurd q (by omega)) (fun _ => ?_)
      refine PU.I t2 ?_
      refine PU.I t0 ?_
      unfold pM1 at K
      refine And.intro (fun q => ?_) (fun q => ?_)
      · rw [if_neg q] at K
        have h' : ∀ a, 0 ≤ a → a < 1000 → s 49 0 0 a = vA (σ 44 0 0) m f a (e + 1) := fun a a0 a1 => by
          unfold vA
          rw [if_neg (fun z => q z.1)]; exact h a a0 a1
        refine PU.I t0 ?_
        refine And.intro (fun q3 => ?_) (fun q3 => ?_)
        · rw [if_neg q3] at K
          exact L_Z_p96 hs hm hf d (e + 1) _ s _ (by omega) o h' K
        · have q4 := Classical.not_not.1 q3
          have a := ad (Or.inr q4)
          rw [if_pos q4, ← h _ a.1 (by omega)] at K
          exact And.intro ⟨a.1, by omega⟩ (L_Z_p96 hs hm hf d (e + 1) _ s _ (by omega) o h' K)
      · have q4 := Classical.not_not.1 q
        have a := ad (Or.inl q4)
        rw [if_pos q4] at K
        refine PU.I t3 ?_
        refine PU.I t4 ?_
        refine PU.I t5 ?_
        refine And.intro ⟨a.1, by omega⟩ ?_
        refine L_Z_p96 hs hm hf d (e + 1) _ _ _ (by omega) (fun t k i x hn => (up_o hn).trans (o t k i x hn)) (fun b b0 b1 => ?_) K
        rw [up_s]
        unfold vA
        by_cases hb : b = σ 44 0 0 (6 * (12 * m + (f + 1 + e)) + 2)
        · rw [if_pos hb, if_pos ⟨q4, hb.symm⟩]
        · rw [if_neg hb, if_neg (fun z => hb z.2.symm)]; exact h b b0 b1
theorem Z_rd_paper (hs : SCi σ) (m : Int) {F : Int → ST → Prop} (K : ∀ s, Z9 σ s → F (if 0 ≤ m ∧ m < σ 40 0 0 14 then papV (σ 44 0 0) m (σ 45 0 0 m) else -1000000) s) : wpM m_Z_paper [zz, .inl m] σ (asI F) := by
  refine T_Z_paper _ _ _ _ _ ?_
  by_cases hm : 0 ≤ m ∧ m < σ 40 0 0 14
  · have c1 := hs.c1
    have ln := hs.len m hm.1 hm.2
    have fi := fC_in (c := σ 44 0 0) (m := m) (σ 45 0 0 m).toNat 0
    rw [if_pos hm] at K
    unfold papV at K
    refine L_Z_p2 hs hm (σ 45 0 0 m).toNat 0 (by omega) (by omega) (fun x hx => ?_)
    refine T_Z_paper_36 _ _ _ _ _ _ _ _ _ ?_
    refine PU.I (Z_isScript hs m) ?_
    refine And.intro (fun q => absurd ((b2_h hm).trans q) (by decide)) (fun _ => And.intro ⟨by omega, by omega⟩ ?_)
    by_cases q : fC (σ 44 0 0) m (σ 45 0 0 m).toNat 0 = -1
    · rw [if_pos q] at K hx
      exact And.intro (fun z => absurd hx z) (fun _ => K σ (fun _ _ _ _ _ => rfl))
    · rw [if_neg q] at K hx
      subst hx
      refine And.intro (fun _ => ?_) (fun z => absurd z (by omega))
      refine L_Z_p60 (σ := σ) (fun s o h => ?_) 1000 0 σ (by omega) (by omega) (fun _ _ _ _ _ => rfl) (fun x a b => absurd b (by omega))
      have hs' := hs.of9 o
      have e44 : s 44 0 0 = σ 44 0 0 := funext fun x => o _ _ _ _ (by decide)
      have e45 : s 45 0 0 m = σ 45 0 0 m := o _ _ _ _ (by decide)
      have e14 : s 40 0 0 14 = σ 40 0 0 14 := o _ _ _ _ (by decide)
      have t1 := Z_stepOf hs' (m := m) (i := fC (σ 44 0 0) m (σ 45 0 0 m).toNat 0) (by rw [e14]; exact hm) (by rw [e45]; omega) (w := 1) (by omega)
      rw [e44] at t1
      refine PU.I t1 ?_
      rw [wr_id (x := fC (σ 44 0 0) m (σ 45 0 0 m).toNat 0 + 1) (by omega), show fC (σ 44 0 0) m (σ 45 0 0 m).toNat 0 + 1 = fC (σ 44 0 0) m (σ 45 0 0 m).toNat 0 + 1 + ((0 : Nat) : Int) by omega]
      exact L_Z_p96 hs hm (by omega) _ 0 _ s _ (by omega) o (fun a a0 a1 => h a a0 a1) (fun s' o' => K s' o')
  · rw [if_neg hm] at K
    refine T_Z_paper_2 _ _ _ _ _ _ _ _ _ ?_
    refine PU.I (Z_isScript hs m) ?_
    refine And.intro (fun _ => ?_) (fun q => absurd (b2_l hm).symm q)
    refine T_Z_paper_36 _ _ _ _ _ _ _ _ _ ?_
    refine PU.I (Z_isScript hs m) ?_
    exact And.intro (fun _ => K σ (fun _ _ _ _ _ => rfl)) (fun q => absurd (b2_l hm).symm q)
theorem PR_paper (m : Int) : PRf m_X_paper m_Z_paper [.inl m] := by
  intro σ n hI hn F K
  obtain ⟨P, g, h⟩ := hI
  refine PU.I (X_rd_paper h.s m) ?_
  refine Z_rd_paper h.s m (fun s o => ?_)
  exact K _ _ ⟨P, g, IVg.mono (h.keepr (fun t k i x hn => o t k i x (by omega)) (fun x _ _ => o _ _ _ _ (by decide))) (by omega) (by omega)⟩
end PAQ
