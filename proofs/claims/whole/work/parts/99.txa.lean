/-! text: a script on both -/
theorem nuF_row {h : Int → Int} {L : Int} (H : HH h L) : ∀ (d : Nat) (x p : Int) (r : Int → Int), 0 ≤ p → p ≤ L → (nuF h d x p r).1 = -1 → (∀ j, j < x → (nuF h d x p r).2.2 j = r j) ∧ (∀ j, x ≤ j → j < x + d → 0 ≤ (nuF h d x p r).2.2 j ∧ (nuF h d x p r).2.2 j ≤ 999) ∧ (∀ j, x + d ≤ j → (nuF h d x p r).2.2 j = r j)
  | 0, x, p, r, _, _, _ => ⟨fun _ _ => rfl, fun j a b => absurd b (by omega), fun _ _ => rfl⟩
  | d + 1, x, p, r, p0, p1, e => by
    have a := sk_b H bl_m1 p0 p1
    rw [nuF_s] at e ⊢
    by_cases c1 : 1 < x ∧ h (sk isBl h p) ≠ 44
    · rw [if_pos c1] at e
      exact absurd (show sk isBl h p = -1 from e) (by omega)
    · have b := nuQ_in H p0 p1 c1
      rw [if_neg c1] at e ⊢
      by_cases c2 : nm h (nuQ h x p) < 0 ∨ 999 < nm h (nuQ h x p)
      · rw [if_pos c2] at e
        exact absurd (show nuQ h x p = -1 from e) (by omega)
      · rw [if_neg c2] at e ⊢
        have c := sk_b H dg_m1 (show 0 ≤ nuQ h x p by omega) b.2
        obtain ⟨r1, r2, r3⟩ := nuF_row H d (x + 1) (sk isDg h (nuQ h x p)) (put r x (nm h (nuQ h x p))) (by omega) c.2 e
        refine ⟨fun j hj => ?_, fun j h0 h1 => ?_, fun j hj => ?_⟩
        · rw [r1 j (by omega)]
          exact if_neg (by omega)
        · by_cases q : j = x
          · rw [r1 j (by omega), q]
            unfold put
            rw [if_pos rfl]
            omega
          · exact r2 j (by omega) (by omega)
        · rw [r3 j (by omega)]
          exact if_neg (by omega)
theorem stF_row {h : Int → Int} {L i : Int} (H : HH h L) (i0 : 0 ≤ i) (i1 : i ≤ L) (e : (stF h i).1 = -1) : (0 ≤ (stF h i).2.2 0 ∧ (stF h i).2.2 0 ≤ 15) ∧ ((stF h i).2.2 0 = 2 ∨ (stF h i).2.2 0 = 3 → 0 ≤ (stF h i).2.2 2 ∧ (stF h i).2.2 2 ≤ 999) ∧ ((stF h i).2.2 0 = 1 → (stF h i).2.2 1 = -1) := by
  have a := rE_in H i0 i1
  have b := stF_in H i0 i1 e
  have mi := many_in b.2.2.1 b.2.2.2
  unfold stF at e ⊢
  rw [if_neg (show ¬ stK h i < 0 by omega)] at e ⊢
  obtain ⟨r1, r2, r3⟩ := nuF_row H (stv 65 (stK h i)).toNat 1 (rE h i) (row0 (stK h i)) (by omega) a.2.2.2 e
  have e0 : (nuF h (stv 65 (stK h i)).toNat 1 (rE h i) (row0 (stK h i))).2.2 0 = stK h i := (r1 0 (by omega)).trans (if_pos rfl)
  rw [e0]
  refine ⟨by omega, fun q => ?_, fun q => ?_⟩
  · rcases q with q | q
    · rw [q] at r2 ⊢
      exact r2 2 (by omega) (by rw [show (stv 65 2).toNat = 5 from rfl]; omega)
    · rw [q] at r2 ⊢
      exact r2 2 (by omega) (by rw [show (stv 65 3).toNat = 2 from rfl]; omega)
  · rw [q] at r3 ⊢
    exact (r3 1 (by rw [show (stv 65 1).toNat = 0 from rfl]; omega)).trans (if_neg (by omega))
def CK (C : Int → Int) (m : Int) : Prop := ∀ i, 0 ≤ i → i < m → (0 ≤ C (6 * i) ∧ C (6 * i) ≤ 15) ∧ (C (6 * i) = 2 ∨ C (6 * i) = 3 → 0 ≤ C (6 * i + 2) ∧ C (6 * i + 2) ≤ 999) ∧ (C (6 * i) = 1 → C (6 * i + 1) = -1)
theorem CK_row {h C : Int → Int} {L i m : Int} (H : HH h L) (i0 : 0 ≤ i) (i1 : i ≤ L) (e : (stF h i).1 = -1) (c : CK C m) : CK (rowW C m (stF h i).2.2) (m + 1) := by
  intro x x0 x1
  have r := stF_row H i0 i1 e
  unfold rowW
  by_cases q : x = m
  · rw [if_pos (by omega), if_pos (by omega), if_pos (by omega), show 6 * x - 6 * m = 0 by omega, show 6 * x + 2 - 6 * m = 2 by omega, show 6 * x + 1 - 6 * m = 1 by omega]
    exact r
  · rw [if_neg (by omega), if_neg (by omega), if_neg (by omega)]
    exact c x x0 (by omega)
theorem scF_ck {h : Int → Int} {L : Int} (H : HH h L) : ∀ (d : Nat) (i m : Int) (C : Int → Int), 0 ≤ i → i ≤ L → 0 ≤ m → m < 12 → CK C m → (scF h d i m C).1 = -1 → (0 ≤ (scF h d i m C).2.1 ∧ (scF h d i m C).2.1 ≤ 12) ∧ CK (scF h d i m C).2.2 (scF h d i m C).2.1
  | 0, i, m, C, i0, i1, m0, m1, c, e => absurd (show (0 : Int) = -1 from e) (by decide)
  | d + 1, i, m, C, i0, i1, m0, m1, c, e => by
    rw [scF_s] at e ⊢
    by_cases q : (stF h i).1 ≠ -1
    · rw [if_pos q] at e
      exact absurd e q
    · rw [if_neg q] at e ⊢
      have q2 := Classical.not_not.1 q
      have si := stF_in H i0 i1 q2
      have bl : (stF h i).2.1 ≤ stB2 h i ∧ stB2 h i ≤ L := sk_b H bl_m1 (show 0 ≤ (stF h i).2.1 by omega) si.2.1
      have ck := CK_row H i0 i1 q2 c
      by_cases z : h (stB2 h i) = -1
      · rw [if_pos z]
        exact ⟨⟨by show 0 ≤ m + 1; omega, by show m + 1 ≤ 12; omega⟩, ck⟩
      · rw [if_neg z] at e ⊢
        have lt := hh_lt H z
        by_cases w : h (stB2 h i) ≠ 59 ∨ 12 ≤ m + 1
        · rw [if_pos w] at e
          exact absurd (show stB2 h i = -1 from e) (by omega)
        · rw [if_neg w] at e ⊢
          exact scF_ck H d _ _ _ (by omega) (by omega) (by omega) (by omega) ck e
theorem scV_ck {h : Int → Int} {L : Int} (H : HH h L) (e : (scV h).1 = -1) : (0 ≤ (scV h).2.1 ∧ (scV h).2.1 ≤ 12) ∧ CK (scV h).2.2 (scV h).2.1 := scF_ck H 321 0 0 _ (by omega) H.l0 (by omega) (by omega) (fun x a b => absurd b (by omega)) e
theorem maF_ok {h : Int → Int} {L : Int} (H : HH h L) : ∀ (d : Nat) (i : Int) (T R : Int → Int), 0 ≤ i → i ≤ L → (∀ k, 0 ≤ k → k < 4 → stv 62 k ≤ R k ∧ R k ≤ stv 63 k) → (maF h d i T R).1 = -1 → ∀ k, 0 ≤ k → k < 4 → stv 62 k ≤ (maF h d i T R).2 k ∧ (maF h d i T R).2 k ≤ stv 63 k
  | 0, i, T, R, i0, i1, hR, e => absurd (show (0 : Int) = -1 from e) (by decide)
  | d + 1, i, T, R, i0, i1, hR, e => by
    have rE' := rE_in H i0 i1
    have cN := clN_in H i0 i1
    rw [show maF h (d + 1) i T R = if clF h T i ≠ -1 then (clF h T i, R) else if h (clB h i) = -1 then (-1, put R (clK h i) (nm h (clN h i))) else if h (clB h i) ≠ 59 then (clB h i, put R (clK h i) (nm h (clN h i))) else maF h d (clB h i + 1) (put T (clK h i) 1) (put R (clK h i) (nm h (clN h i))) from rfl] at e ⊢
    by_cases q : clF h T i ≠ -1
    · rw [if_pos q] at e
      exact absurd e q
    · rw [if_neg q] at e ⊢
      have q2 := Classical.not_not.1 q
      have dg := sk_b H dg_m1 (show 0 ≤ clN h i by omega) cN.2
      have bl : sk isDg h (clN h i) ≤ clB h i ∧ clB h i ≤ L := sk_b H bl_m1 (show 0 ≤ sk isDg h (clN h i) by omega) dg.2
      have hv : stv 62 (clK h i) ≤ nm h (clN h i) ∧ nm h (clN h i) ≤ stv 63 (clK h i) := by
        unfold clF at q2
        by_cases w : clK h i < 0 ∨ T (clK h i) ≠ 0
        · rw [if_pos w] at q2
          omega
        · rw [if_neg w] at q2
          by_cases w2 : nm h (clN h i) < stv 62 (clK h i) ∨ stv 63 (clK h i) < nm h (clN h i)
          · rw [if_pos w2] at q2
            omega
          · omega
      have r2 : ∀ k, 0 ≤ k → k < 4 → stv 62 k ≤ put R (clK h i) (nm h (clN h i)) k ∧ put R (clK h i) (nm h (clN h i)) k ≤ stv 63 k := by
        intro k a b
        unfold put
        by_cases w : k = clK h i
        · rw [if_pos w, w]; exact hv
        · rw [if_neg w]; exact hR k a b
      by_cases z : h (clB h i) = -1
      · rw [if_pos z]
        exact r2
      · rw [if_neg z] at e ⊢
        have lt := hh_lt H z
        by_cases w : h (clB h i) ≠ 59
        · rw [if_pos w] at e
          exact absurd (show clB h i = -1 from e) (by omega)
        · rw [if_neg w] at e ⊢
          exact maF_ok H d _ _ _ (by omega) (by omega) r2 e
theorem maV_ok {h : Int → Int} {L : Int} (H : HH h L) (e : (maV h).1 = -1) : (3 ≤ (maV h).2 0 ∧ (maV h).2 0 ≤ 10) ∧ (1 ≤ (maV h).2 1 ∧ (maV h).2 1 ≤ 3) ∧ (1 ≤ (maV h).2 2 ∧ (maV h).2 2 ≤ 3) := by
  have r := maF_ok H 321 0 (fun _ => 0) (stv 64) (by omega) H.l0 (fun k a b => by
    rcases (show k = 0 ∨ k = 1 ∨ k = 2 ∨ k = 3 by omega) with rfl | rfl | rfl | rfl <;> decide) e
  exact ⟨r 0 (by omega) (by omega), r 1 (by omega) (by omega), r 2 (by omega) (by omega)⟩
section TXA
variable {σ s : ST} {P : MP} {g : Int → Int} {n : Int}
theorem SCi.keep2 (h : SCi σ) (e1 : s 0 0 0 4 = σ 0 0 0 4) (e2 : s 40 0 0 14 = σ 40 0 0 14) (e3 : ∀ m, 0 ≤ m → m < 4 → s 5 m 0 0 = σ 5 m 0 0) (e4 : ∀ m x, 0 ≤ m → m < 4 → s 6 m 0 x = σ 6 m 0 x) (e5 : ∀ x, x < 72 * σ 40 0 0 14 → s 44 0 0 x = σ 44 0 0 x) (e6 : ∀ x, x < σ 40 0 0 14 → s 45 0 0 x = σ 45 0 0 x) : SCi s := by
  have c1 := h.c1
  unfold SCi
  rw [e1, e2]
  refine ⟨h.cnt, h.c0, h.c1, fun m a b => ?_, fun m i j a b c d x y => ?_, fun m i a b c d => ?_, fun m i a b c d x => ?_, fun m i a b c d x => ?_⟩
  · rw [e3 m a (by omega), e6 m b]; exact h.len m a b
  · rw [e6 m b] at d
    have := h.len m a b
    rw [e4 m _ a (by omega), e5 _ (by omega)]; exact h.cel m i j a b c d x y
  · rw [e6 m b] at d
    have := h.len m a b
    rw [e5 _ (by omega)]; exact h.srt m i a b c d
  · rw [e6 m b] at d
    have := h.len m a b
    rw [e5 _ (by omega)] at x
    rw [e5 _ (by omega)]; exact h.adr m i a b c d x
  · rw [e6 m b] at d
    have := h.len m a b
    rw [e5 _ (by omega)] at x
    rw [e5 _ (by omega)]; exact h.slo m i a b c d x
/-- one script more -/
theorem SCi.more {C : Int → Int} {m : Int} (h : SCi σ) (hc : σ 40 0 0 14 < 4) (hm : 0 ≤ m ∧ m ≤ 12) (ck : CK C m) (e1 : s 0 0 0 4 = σ 40 0 0 14 + 1) (e2 : s 40 0 0 14 = σ 40 0 0 14 + 1) (e3 : ∀ m, 0 ≤ m → m < σ 40 0 0 14 → s 5 m 0 0 = σ 5 m 0 0) (e4 : ∀ m x, 0 ≤ m → m < σ 40 0 0 14 → s 6 m 0 x = σ 6 m 0 x) (e5 : ∀ x, x < 72 * σ 40 0 0 14 → s 44 0 0 x = σ 44 0 0 x) (e6 : ∀ x, x < σ 40 0 0 14 → s 45 0 0 x = σ 45 0 0 x) (f1 : s 5 (σ 40 0 0 14) 0 0 = m) (f2 : s 45 0 0 (σ 40 0 0 14) = m) (f3 : ∀ y, 0 ≤ y → y < 6 * m → s 6 (σ 40 0 0 14) 0 y = C y) (f4 : ∀ y, 0 ≤ y → y < 6 * m → s 44 0 0 (72 * σ 40 0 0 14 + y) = C y) : SCi s := by
  have c0 := h.c0
  have lo : ∀ q, 0 ≤ q → q < σ 40 0 0 14 + 1 → q < σ 40 0 0 14 ∨ q = σ 40 0 0 14 := fun q a b => by omega
  have f5 : ∀ i j, 0 ≤ i → i < m → 0 ≤ j → j < 6 → s 44 0 0 (6 * (12 * σ 40 0 0 14 + i) + j) = C (6 * i + j) := fun i j a b c d => by
    rw [show 6 * (12 * σ 40 0 0 14 + i) + j = 72 * σ 40 0 0 14 + (6 * i + j) by omega]
    exact f4 _ (by omega) (by omega)
  have f6 : ∀ i, 0 ≤ i → i < m → s 44 0 0 (6 * (12 * σ 40 0 0 14 + i)) = C (6 * i) := fun i a b => by
    have := f5 i 0 a b (by omega) (by omega)
    rw [Int.add_zero, Int.add_zero] at this
    exact this
  unfold SCi
  rw [e1, e2]
  refine ⟨rfl, by omega, by omega, fun q a b => ?_, fun q i j a b c d x y => ?_, fun q i a b c d => ?_, fun q i a b c d x => ?_, fun q i a b c d x => ?_⟩
  · rcases lo q a b with w | w
    · rw [e3 q a w, e6 q w]; exact h.len q a w
    · rw [w, f1, f2]; exact ⟨rfl, hm.1, hm.2⟩
  · rcases lo q a b with w | w
    · rw [e6 q w] at d
      have := h.len q a w
      rw [e4 q _ a w, e5 _ (by omega)]; exact h.cel q i j a w c d x y
    · rw [w, f2] at d
      rw [w, f3 _ (by omega) (by omega), f5 i j c d x y]
  · rcases lo q a b with w | w
    · rw [e6 q w] at d
      have := h.len q a w
      rw [e5 _ (by omega)]; exact h.srt q i a w c d
    · rw [w, f2] at d
      rw [w, f6 i c d]
      exact (ck i c d).1
  · rcases lo q a b with w | w
    · rw [e6 q w] at d
      have := h.len q a w
      rw [e5 _ (by omega)] at x
      rw [e5 _ (by omega)]; exact h.adr q i a w c d x
    · rw [w, f2] at d
      rw [w, f6 i c d] at x
      rw [w, f5 i 2 c d (by omega) (by omega)]
      exact (ck i c d).2.1 x
  · rcases lo q a b with w | w
    · rw [e6 q w] at d
      have := h.len q a w
      rw [e5 _ (by omega)] at x
      rw [e5 _ (by omega)]; exact h.slo q i a w c d x
    · rw [w, f2] at d
      rw [w, f6 i c d] at x
      rw [w, f5 i 1 c d (by omega) (by omega)]
      exact (ck i c d).2.2 x
theorem IVg.tape (hI : IVg σ P g n) (fr : ∀ (t : Nat) (k i x : Int), ¬ (t = 1 ∨ t = 2 ∨ t = 3 ∨ t = 4 ∨ t = 5 ∨ t = 6 ∨ t = 41 ∨ t = 42 ∨ (t = 40 ∧ x ≠ 11 ∧ x ≠ 18 ∧ x ≠ 23) ∨ t = 44 ∨ t = 45 ∨ (t = 0 ∧ x = 4)) → s t k i x = σ t k i x) (ht : TPi s) (hs : SCi s) : IVg s P g n := by
  have le := hI.w.n.le
  exact ⟨hI.z.keepo (fun x => fr _ _ _ _ (by omega)) (fun x => fr _ _ _ _ (by omega)) (fr _ _ _ _ (by omega)), hI.x.keepo (fun t i x a b => fr _ _ _ _ (by omega)), hI.w, hI.m.keep (fr _ _ _ _ (by omega)) (fun x => fr _ _ _ _ (by omega)) (fun x => fr _ _ _ _ (by omega)), fun i a b => by rw [fr _ _ _ _ (by omega), fr _ _ _ _ (by omega)]; exact hI.r.eq i a b, ht, hs, hI.u.keep (by omega) le (fr _ _ _ _ (by omega)) (fr _ _ _ _ (by omega)) (fr _ _ _ _ (by omega)) (fun x => fr _ _ _ _ (by omega)) (fun t k i x a b c d => fr _ _ _ _ (by omega)), hI.i.keep (by omega) le (fr _ _ _ _ (by omega)) (fr _ _ _ _ (by omega)) (fun x => fr _ _ _ _ (by omega)) (fun t i x a b => fr _ _ _ _ (by omega))⟩
/-- text 1 -/
theorem PR_text1 : PRf m_X_text m_Z_text [.inl 1] := by
  intro σ n hI hn F K
  obtain ⟨P, g, h⟩ := hI
  have t0 := h.t
  have sc := h.s
  have c0 := sc.c0
  have c1 := sc.c1
  refine T_X_text _ _ _ _ _ ?_
  refine And.intro (fun _ => And.intro (fun q => absurd rfl q) (fun _ => ?_)) (fun q => absurd (show (1 : Int) ≠ 0 by decide) q)
  refine T_X_takeScript _ _ _ _ ?_
  rw [sc.cnt]
  refine And.intro (fun q => absurd q (by omega)) (fun _ => And.intro (fun q4 => ?_) (fun q4 => ?_))
  · refine X_f1 t0 (fun s1 f1 h1 => ?_)
    refine And.intro (fun q => ?_) (fun q => ?_)
    · obtain ⟨x1, x2⟩ := h1 q
      obtain ⟨ck1, ck2⟩ := scV_ck t0.HH q
      have e04 : up s1 1 0 0 0 0 0 0 0 4 = σ 40 0 0 14 := by rw [up_o (by decide), f1 _ _ _ _ (by omega)]; exact sc.cnt
      rw [e04]
      refine And.intro ⟨c0, q4⟩ ?_
      refine T_Script_take _ _ _ _ _ _ ?_
      refine And.intro ⟨by omega, by omega, by omega, by omega, by omega⟩ ?_
      have f2 : ∀ (t : Nat) (k i x : Int), ¬ (t = 1 ∨ t = 3 ∨ t = 4 ∨ (t = 5 ∨ t = 6) ∧ (k = 4 ∨ k = σ 40 0 0 14)) → cpy (up (up s1 1 0 0 0 0) 5 (σ 40 0 0 14) 0 0 (up s1 1 0 0 0 0 5 4 0 0)) 6 4 0 0 6 (σ 40 0 0 14) 0 0 72 t k i x = σ t k i x := by
        intro t k i x hn
        unfold cpy
        rw [if_neg (by omega)]
        unfold up
        rw [if_neg (by omega), if_neg (by omega)]
        exact f1 t k i x (by omega)
      have g5 : cpy (up (up s1 1 0 0 0 0) 5 (σ 40 0 0 14) 0 0 (up s1 1 0 0 0 0 5 4 0 0)) 6 4 0 0 6 (σ 40 0 0 14) 0 0 72 5 (σ 40 0 0 14) 0 0 = (scV (hT σ)).2.1 := by
        unfold cpy
        rw [if_neg (by omega), up_s, if_pos rfl, up_o (by decide)]
        exact x1
      have g6 : ∀ y, 0 ≤ y → y < 6 * (scV (hT σ)).2.1 → cpy (up (up s1 1 0 0 0 0) 5 (σ 40 0 0 14) 0 0 (up s1 1 0 0 0 0 5 4 0 0)) 6 4 0 0 6 (σ 40 0 0 14) 0 0 72 6 (σ 40 0 0 14) 0 y = (scV (hT σ)).2.2 y := by
        intro y y0 y1
        unfold cpy
        rw [if_pos (by omega), up_o (by decide), up_o (by decide), show 0 + (y - 0) = y by omega]
        exact x2 y y0 y1
      have g1 : cpy (up (up s1 1 0 0 0 0) 5 (σ 40 0 0 14) 0 0 (up s1 1 0 0 0 0 5 4 0 0)) 6 4 0 0 6 (σ 40 0 0 14) 0 0 72 1 0 0 0 = 0 := by
        unfold cpy
        rw [if_neg (by omega), up_o (by decide), up_s, if_pos rfl]
      generalize cpy (up (up s1 1 0 0 0 0) 5 (σ 40 0 0 14) 0 0 (up s1 1 0 0 0 0 5 4 0 0)) 6 4 0 0 6 (σ 40 0 0 14) 0 0 72 = s2 at f2 g5 g6 g1 ⊢
      show wpM m_Z_text [zz, .inl 1] (up s2 0 0 0 4 (wr (s2 0 0 0 4 + 1))) (asI fun r' s' => F (wr (up s2 0 0 0 4 (wr (s2 0 0 0 4 + 1)) 0 0 0 4 - 1)) r' s')
      rw [show s2 0 0 0 4 = σ 40 0 0 14 from (f2 _ _ _ _ (by omega)).trans sc.cnt, wr_id (x := σ 40 0 0 14 + 1) (by omega)]
      rw [show up s2 0 0 0 4 (σ 40 0 0 14 + 1) 0 0 0 4 = σ 40 0 0 14 + 1 by rw [up_s, if_pos rfl], wr_id (x := σ 40 0 0 14 + 1 - 1) (by omega)]
      have f3 : ∀ (t : Nat) (k i x : Int), ¬ (t = 1 ∨ t = 3 ∨ t = 4 ∨ (t = 5 ∨ t = 6) ∧ (k = 4 ∨ k = σ 40 0 0 14) ∨ (t = 0 ∧ x = 4)) → up s2 0 0 0 4 (σ 40 0 0 14 + 1) t k i x = σ t k i x := by
        intro t k i x hn
        unfold up
        rw [if_neg (by omega)]
        exact f2 t k i x (by omega)
      refine T_Z_text _ _ _ _ _ ?_
      refine And.intro (fun _ => ?_) (fun z => absurd (show (1 : Int) ≠ 0 by decide) z)
      refine T_Z_text_22 _ _ _ _ _ ?_
      rw [f3 40 0 0 14 (by omega)]
      refine And.intro (fun z => absurd rfl z) (fun _ => And.intro (fun z => absurd z (by omega)) (fun _ => ?_))
      refine Z_f1 t0 c0 (by omega) (f3 _ _ _ _ (by omega)) (fun y => f3 _ _ _ _ (by omega)) (fun s4 f4 h4 => ?_)
      refine And.intro (fun z => absurd q z) (fun _ => ?_)
      obtain ⟨z1, z2⟩ := h4 q
      have f5 : ∀ (t : Nat) (k i x : Int), ¬ (t = 1 ∨ t = 3 ∨ t = 4 ∨ (t = 5 ∨ t = 6) ∧ (k = 4 ∨ k = σ 40 0 0 14) ∨ (t = 0 ∧ x = 4) ∨ (t = 40 ∧ 3 ≤ x ∧ x ≤ 8) ∨ (t = 44 ∧ 72 * σ 40 0 0 14 ≤ x) ∨ (t = 45 ∧ x = σ 40 0 0 14)) → s4 t k i x = σ t k i x := fun t k i x hn => (f4 t k i x (by omega)).trans (f3 t k i x (by omega))
      rw [show up s4 40 0 0 2 0 40 0 0 14 = σ 40 0 0 14 by rw [up_s, if_neg (by decide)]; exact f5 _ _ _ _ (by omega), wr_id (x := σ 40 0 0 14 + 1) (by omega)]
      rw [show up (up s4 40 0 0 2 0) 40 0 0 14 (σ 40 0 0 14 + 1) 40 0 0 14 = σ 40 0 0 14 + 1 by rw [up_s, if_pos rfl], wr_id (x := σ 40 0 0 14 + 1 - 1) (by omega)]
      have f6 : ∀ (t : Nat) (k i x : Int), ¬ (t = 40 ∧ (x = 2 ∨ x = 14)) → up (up s4 40 0 0 2 0) 40 0 0 14 (σ 40 0 0 14 + 1) t k i x = s4 t k i x := by
        intro t k i x hn
        unfold up
        rw [if_neg (by omega), if_neg (by omega)]
      refine K _ _ ⟨P, g, IVg.mono (h.tape (fun t k i x hn => ?_) ?_ ?_) (by omega) (by omega)⟩
      · rw [f6 t k i x (by omega)]
        exact f5 t k i x (by omega)
      · refine ⟨?_, ?_, ?_, fun i a b => ?_⟩
        · rw [f6 _ _ _ _ (by omega), f4 _ _ _ _ (by omega), up_o (by decide), g1, up_s, if_neg (by decide), up_s, if_pos rfl]
        · rw [up_s, if_neg (by decide), up_s, if_pos rfl]; omega
        · rw [up_s, if_neg (by decide), up_s, if_pos rfl]; omega
        · rw [up_s, if_neg (by decide), up_s, if_pos rfl] at b
          omega
      · refine sc.more (C := (scV (hT σ)).2.2) (m := (scV (hT σ)).2.1) q4 ck1 ck2 ?_ ?_ (fun m a b => ?_) (fun m x a b => ?_) (fun x a => ?_) (fun x a => ?_) ?_ ?_ (fun y a b => ?_) (fun y a b => ?_)
        · rw [f6 _ _ _ _ (by omega), f4 _ _ _ _ (by omega), up_s, if_pos rfl]
        · rw [up_s, if_pos rfl]
        · rw [f6 _ _ _ _ (by omega)]; exact f5 _ _ _ _ (by omega)
        · rw [f6 _ _ _ _ (by omega)]; exact f5 _ _ _ _ (by omega)
        · rw [f6 _ _ _ _ (by omega)]; exact f5 _ _ _ _ (by omega)
        · rw [f6 _ _ _ _ (by omega)]; exact f5 _ _ _ _ (by omega)
        · rw [f6 _ _ _ _ (by omega), f4 _ _ _ _ (by omega), up_o (by decide)]; exact g5
        · rw [f6 _ _ _ _ (by omega)]; exact z1
        · rw [f6 _ _ _ _ (by omega), f4 _ _ _ _ (by omega), up_o (by decide)]; exact g6 y a b
        · rw [f6 _ _ _ _ (by omega)]; exact z2 y a b
    · show wpM m_Z_text _ _ _
      refine T_Z_text _ _ _ _ _ ?_
      refine And.intro (fun _ => ?_) (fun z => absurd (show (1 : Int) ≠ 0 by decide) z)
      refine T_Z_text_22 _ _ _ _ _ ?_
      rw [f1 40 0 0 14 (by omega)]
      refine And.intro (fun z => absurd rfl z) (fun _ => And.intro (fun z => absurd z (by omega)) (fun _ => ?_))
      refine Z_f1 t0 c0 (by omega) (f1 _ _ _ _ (by omega)) (fun y => f1 _ _ _ _ (by omega)) (fun s4 f4 h4 => ?_)
      refine And.intro (fun _ => ?_) (fun z => absurd q z)
      have f5 : ∀ (t : Nat) (k i x : Int), ¬ (t = 1 ∨ t = 3 ∨ t = 4 ∨ (t = 5 ∨ t = 6) ∧ k = 4 ∨ (t = 40 ∧ 3 ≤ x ∧ x ≤ 8) ∨ (t = 44 ∧ 72 * σ 40 0 0 14 ≤ x) ∨ (t = 45 ∧ x = σ 40 0 0 14)) → s4 t k i x = σ t k i x := fun t k i x hn => (f4 t k i x (by omega)).trans (f1 t k i x (by omega))
      refine K _ _ ⟨P, g, IVg.mono (h.tape (fun t k i x hn => f5 t k i x (by omega)) (t0.keep ((f4 _ _ _ _ (by omega)).trans (f1 _ _ _ _ (by omega))) (f5 _ _ _ _ (by omega)) (fun x => f5 _ _ _ _ (by omega)) (fun x => f5 _ _ _ _ (by omega))) (sc.keep2 (f5 _ _ _ _ (by omega)) (f5 _ _ _ _ (by omega)) (fun m a b => f5 _ _ _ _ (by omega)) (fun m x a b => f5 _ _ _ _ (by omega)) (fun x a => f5 _ _ _ _ (by omega)) (fun x a => f5 _ _ _ _ (by omega)))) (by omega) (by omega)⟩
  · show wpM m_Z_text _ _ _
    refine T_Z_text _ _ _ _ _ ?_
    refine And.intro (fun _ => ?_) (fun z => absurd (show (1 : Int) ≠ 0 by decide) z)
    refine T_Z_text_22 _ _ _ _ _ ?_
    exact And.intro (fun z => absurd rfl z) (fun _ => And.intro (fun _ => K _ _ ⟨P, g, h.mono (by omega) (by omega)⟩) (fun z => absurd (show 4 ≤ σ 40 0 0 14 by omega) z))
end TXA
