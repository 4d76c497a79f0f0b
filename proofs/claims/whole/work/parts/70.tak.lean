/-! the component: one world taken from another; its log -/
theorem cpy_o {σ : ST} {t t1 : Nat} {k i sp k1 i1 dp n : Int} {t' : Nat} {k' i' s' : Int} (h : ¬ (t' = t1 ∧ k' = k1 ∧ i' = i1)) : cpy σ t k i sp t1 k1 i1 dp n t' k' i' s' = σ t' k' i' s' := if_neg (fun z => h ⟨z.1, z.2.1, z.2.2.1⟩)
theorem cpy_s {σ : ST} {t t1 : Nat} {k i k1 i1 n s : Int} (h : 0 ≤ s ∧ s < n) : cpy σ t k i 0 t1 k1 i1 0 n t1 k1 i1 s = σ t k i s := by
  unfold cpy
  rw [if_pos ⟨rfl, rfl, rfl, by omega, by omega⟩, show 0 + (s - 0) = s by omega]
theorem Off_cpy {S : Nat → Int → Int → Prop} {σ0 σ : ST} {t t1 : Nat} {k i sp k1 i1 dp n : Int} (h : Off S σ0 σ) (hs : S t1 k1 i1) : Off S σ0 (cpy σ t k i sp t1 k1 i1 dp n) := by
  intro t' k' i' s' hn
  rw [cpy_o (fun e => hn (by obtain ⟨e1, e2, e3⟩ := e; rw [e1, e2, e3]; exact hs))]
  exact h t' k' i' s' hn
section TAK
variable {σ : ST} {k k1 : Int}
theorem C_Pg_take {p : Int} (hne : k1 ≠ k) {F : ST → Prop} (K : ∀ s, Off (SPg k p) σ s → (∀ g, RPg σ k1 p g → RPg s k p g) → F s) : wpM m_Page_take [pp k p, pp k1 p] σ (asV F) := by
  refine T_Page_take _ _ _ _ _ _ ?_
  simp (decide := true) (disch := omega) only [up_ne, Int.add_zero, Int.zero_add]
  refine And.intro (bz_r _) (And.intro (by first | exact True.intro | omega) (K _ ?_ (fun g h => ?_)))
  · refine Off_cpy ?_ ⟨Or.inr rfl, rfl, rfl⟩
    (repeat' (first | exact Off_refl _ _ | refine Off_up ?_ ⟨Or.inl rfl, rfl, rfl⟩))
  · obtain ⟨x1, x2, x3, x4, x5, x6, x7, x8, x9⟩ := h
    unfold RPg; refine ⟨?_, ?_, ?_, ?_, ?_, ?_, fun h0 => ?_, ?_, fun j h0 h1 => ?_⟩
    all_goals (first | (rw [cpy_s (by omega)]; simp (decide := true) (disch := omega) only [up_ne]; exact x9 _ h0 h1) | (rw [cpy_o (by omega)]; simp (decide := true) only [up_s, if_true, if_false, ite_true, ite_false, bz_bz]; first | assumption | exact x7 h0))
theorem C_Rm_take {p : Int} (hne : k1 ≠ k) {F : ST → Prop} (K : ∀ s, Off (SRm k p) σ s → (∀ g, RRm σ k1 p g → RRm s k p g) → F s) : wpM m_Room_take [rr k p, rr k1 p] σ (asV F) := by
  refine T_Room_take _ _ _ _ _ _ ?_
  simp (decide := true) (disch := omega) only [up_ne, Int.add_zero, Int.zero_add]
  refine And.intro (bz_r _) (And.intro (bz_r _) (And.intro (bz_r _) (And.intro (by first | exact True.intro | omega) (And.intro (by first | exact True.intro | omega) (K _ ?_ (fun g h => ?_))))))
  · refine Off_cpy (Off_cpy ?_ ⟨Or.inr (Or.inl rfl), rfl, rfl⟩) ⟨Or.inr (Or.inr rfl), rfl, rfl⟩
    (repeat' (first | exact Off_refl _ _ | refine Off_up ?_ ⟨Or.inl rfl, rfl, rfl⟩))
  · have y0 := h.there
    unfold RRm
    refine ⟨?_, fun z => ?_⟩
    · rw [cpy_o (by omega), cpy_o (by omega)]
      simp (decide := true) only [up_s, if_true, if_false, ite_true, ite_false, bz_bz]
      exact y0
    · obtain ⟨y1, y2, y3, y4, y5, y6, y7, y8⟩ := h.y z
      unfold RRy
      refine ⟨?_, ?_, ?_, ?_, ?_, ?_, fun b h0 h1 => ?_, fun b h0 h1 => ?_⟩
      rotate_left 6
      · rw [cpy_o (by omega), cpy_s (by omega)]
        simp (decide := true) (disch := omega) only [up_ne]
        exact y7 b h0 h1
      · rw [cpy_s (by omega), cpy_o (by omega)]
        simp (decide := true) (disch := omega) only [up_ne]
        exact y8 b h0 h1
      all_goals (rw [cpy_o (by omega), cpy_o (by omega)]; simp (decide := true) only [up_s, if_true, if_false, ite_true, ite_false, bz_bz]; assumption)
theorem C_Co_take {p : Int} (hne : k1 ≠ k) {F : ST → Prop} (K : ∀ s, Off (SCo2 k p) σ s → (∀ g, co g p 4 ≤ 3 → RCo σ k1 p g → RCo s k p g) → F s) : wpM m_Core_take [kk k p, kk k1 p] σ (asV F) := by
  refine T_Core_take _ _ _ _ _ _ ?_
  simp (decide := true) (disch := omega) only [up_ne, Int.add_zero, Int.zero_add]
  refine And.intro (by first | exact True.intro | omega) (And.intro (by first | exact True.intro | omega) (K _ ?_ (fun g h4 h => ?_)))
  · refine Off_cpy (Off_cpy ?_ ⟨Or.inr (Or.inl rfl), rfl, rfl⟩) ⟨Or.inr (Or.inr rfl), rfl, rfl⟩
    (repeat' (first | exact Off_refl _ _ | refine Off_up ?_ ⟨Or.inl rfl, rfl, rfl⟩))
  · obtain ⟨z1, z2, z3, z4, z5, z6, z7⟩ := h
    unfold RCo; refine ⟨?_, ?_, ?_, ?_, ?_, fun i h0 h1 => ?_, fun i h0 h1 => ?_⟩
    rotate_left 5
    · rw [cpy_o (by omega), cpy_s (by omega)]
      simp (decide := true) (disch := omega) only [up_ne]
      exact z6 i h0 h1
    · rw [cpy_s (by omega), cpy_o (by omega)]
      simp (decide := true) (disch := omega) only [up_ne]
      exact z7 i h0 h1
    all_goals (rw [cpy_o (by omega), cpy_o (by omega)]; simp (decide := true) only [up_s, if_true, if_false, ite_true, ite_false]; assumption)
theorem C_Cy_take {p : Int} (hne : k1 ≠ k) {F : ST → Prop} (K : ∀ s, Off (SCp k p) σ s → (∀ g, RCp σ k1 p g → RCp s k p g) → F s) : wpM m_Copy_take [cc k p, cc k1 p] σ (asV F) := by
  refine C_Cp_take (fun z => hne z.1) (fun s o a0 a1 a2 a3 a4 a5 a6 a7 a8 => K s o (fun g h => ?_))
  have w0 := h.there
  unfold RCp
  rw [a0, bz_bz]
  refine ⟨w0, fun z => ?_⟩
  obtain ⟨w1, w2, w3, w4, w5, w6, w7, w8⟩ := h.y z
  unfold RCy
  rw [a1, a2, a3, a4, a5, a6, a7, a8, bz_bz, bz_bz]
  exact ⟨w1, w2, w3, w4, w5, w6, w7, w8⟩
abbrev SLg (k : Int) : Nat → Int → Int → Prop := fun t k' q => (26 ≤ t ∧ t ≤ 29) ∧ k' = k ∧ q = 0
abbrev lgh (k : Int) : AV := .inr (.inr (26, k, 0))
theorem C_Lg_take (hne : k1 ≠ k) {F : ST → Prop} (K : ∀ s, Off (SLg k) σ s → (∀ g, RLg σ k1 g → RLg s k g) → F s) : wpM m_Log_take [lgh k, lgh k1] σ (asV F) := by
  refine T_Log_take _ _ _ _ _ _ ?_
  simp (decide := true) (disch := omega) only [up_ne, Int.add_zero, Int.zero_add]
  refine And.intro (by first | exact True.intro | omega) (And.intro (by first | exact True.intro | omega) (And.intro (by first | exact True.intro | omega) (K _ ?_ (fun g h => ?_))))
  · refine Off_cpy (Off_cpy (Off_cpy ?_ ⟨by omega, rfl, rfl⟩) ⟨by omega, rfl, rfl⟩) ⟨by omega, rfl, rfl⟩
    (repeat' (first | exact Off_refl _ _ | refine Off_up ?_ ⟨by omega, rfl, rfl⟩))
  · have l0 := h.l0
    have l1 := h.l1
    unfold RLg
    rw [cpy_o (by omega), cpy_o (by omega), cpy_o (by omega), cpy_o (by omega), cpy_o (by omega), cpy_o (by omega)]
    simp (decide := true) only [up_s, if_true, if_false, ite_true, ite_false]
    refine ⟨h.len, h.l0, h.l1, h.n0, h.n1, fun i i0 i1 => ?_⟩
    rw [cpy_o (by omega), cpy_o (by omega), cpy_s (by omega), cpy_o (by omega), cpy_s (by omega), cpy_o (by omega), cpy_s (by omega), cpy_o (by omega), cpy_o (by omega)]
    simp (decide := true) (disch := omega) only [up_ne]
    exact h.row i i0 i1
/-! the four loops -/
theorem L_tk1 (hne : k1 ≠ k) {Q : Option AV → ST → Prop} : ∀ (n : Nat) (i : Int) (σ : ST), i + n = 10 → 0 ≤ i → (∀ s, Off (fun t k' q => (t = 14 ∨ t = 15) ∧ k' = k ∧ i ≤ q) σ s → (∀ q, i ≤ q → q < 10 → ∀ g, RPg σ k1 q g → RPg s k q g) → wp m_World_take (71, [some (ww k), some (ww k1), some (.inl 0)], [], s) Q) → wp m_World_take (42, [some (ww k), some (ww k1), some (.inl i)], [], σ) Q
  | 0, i, σ, h, hi, K => by
    refine T_World_take_42 _ _ _ _ _ _ _ ?_
    refine And.intro (fun _ => K σ (Off_refl _ _) (fun q a b => absurd a (by omega))) (fun q => absurd (show (10 : Int) ≤ i by omega) q)
  | n + 1, i, σ, h, hi, K => by
    refine T_World_take_42 _ _ _ _ _ _ _ ?_
    refine And.intro (fun q => absurd q (by omega)) (fun _ => And.intro (by omega) (And.intro (by omega) ?_))
    refine C_Pg_take hne (fun s1 o1 r1 => ?_)
    rw [wr_id (by omega)]
    refine L_tk1 hne n (i + 1) s1 (by omega) (by omega) (fun s o r => K s (fun t k' q x hn => ?_) (fun q a b g hg => ?_))
    · rw [o t k' q x (fun z => hn ⟨z.1, z.2.1, by omega⟩), o1 t k' q x (fun z => hn ⟨z.1, z.2.1, by omega⟩)]
    · rcases (show q = i ∨ i + 1 ≤ q by omega) with e | e
      · subst e
        exact (r1 g hg).same (fun x => o 14 k q x (fun z => by omega)) (fun x => o 15 k q x (fun z => by omega)) (fun _ _ _ => rfl)
      · exact r q e b g (hg.same (fun x => o1 14 k1 q x (fun z => hne z.2.1)) (fun x => o1 15 k1 q x (fun z => hne z.2.1)) (fun _ _ _ => rfl))
theorem L_tk2 (hne : k1 ≠ k) {Q : Option AV → ST → Prop} : ∀ (n : Nat) (i : Int) (σ : ST), i + n = 4 → 0 ≤ i → (∀ s, Off (fun t k' q => (t = 17 ∨ t = 18 ∨ t = 19) ∧ k' = k ∧ i ≤ q) σ s → (∀ q, i ≤ q → q < 4 → ∀ g, RRm σ k1 q g → RRm s k q g) → wp m_World_take (99, [some (ww k), some (ww k1), some (.inl 0)], [], s) Q) → wp m_World_take (71, [some (ww k), some (ww k1), some (.inl i)], [], σ) Q
  | 0, i, σ, h, hi, K => by
    refine T_World_take_71 _ _ _ _ _ _ _ ?_
    refine And.intro (fun _ => K σ (Off_refl _ _) (fun q a b => absurd a (by omega))) (fun q => absurd (show (4 : Int) ≤ i by omega) q)
  | n + 1, i, σ, h, hi, K => by
    refine T_World_take_71 _ _ _ _ _ _ _ ?_
    refine And.intro (fun q => absurd q (by omega)) (fun _ => And.intro (by omega) (And.intro (by omega) ?_))
    refine C_Rm_take hne (fun s1 o1 r1 => ?_)
    rw [wr_id (by omega)]
    refine L_tk2 hne n (i + 1) s1 (by omega) (by omega) (fun s o r => K s (fun t k' q x hn => ?_) (fun q a b g hg => ?_))
    · rw [o t k' q x (fun z => hn ⟨z.1, z.2.1, by omega⟩), o1 t k' q x (fun z => hn ⟨z.1, z.2.1, by omega⟩)]
    · rcases (show q = i ∨ i + 1 ≤ q by omega) with e | e
      · subst e
        exact (r1 g hg).same (fun x => o 17 k q x (fun z => by omega)) (fun x => o 18 k q x (fun z => by omega)) (fun x => o 19 k q x (fun z => by omega)) (fun _ _ _ => rfl)
      · exact r q e b g (hg.same (fun x => o1 17 k1 q x (fun z => hne z.2.1)) (fun x => o1 18 k1 q x (fun z => hne z.2.1)) (fun x => o1 19 k1 q x (fun z => hne z.2.1)) (fun _ _ _ => rfl))
theorem L_tk3 (hne : k1 ≠ k) {Q : Option AV → ST → Prop} : ∀ (n : Nat) (i : Int) (σ : ST), i + n = 3 → 0 ≤ i → (∀ s, Off (fun t k' q => (t = 21 ∨ t = 22 ∨ t = 23) ∧ k' = k ∧ i ≤ q) σ s → (∀ q, i ≤ q → q < 3 → ∀ g, co g q 4 ≤ 3 → RCo σ k1 q g → RCo s k q g) → wp m_World_take (127, [some (ww k), some (ww k1), some (.inl 0)], [], s) Q) → wp m_World_take (99, [some (ww k), some (ww k1), some (.inl i)], [], σ) Q
  | 0, i, σ, h, hi, K => by
    refine T_World_take_99 _ _ _ _ _ _ _ ?_
    refine And.intro (fun _ => K σ (Off_refl _ _) (fun q a b => absurd a (by omega))) (fun q => absurd (show (3 : Int) ≤ i by omega) q)
  | n + 1, i, σ, h, hi, K => by
    refine T_World_take_99 _ _ _ _ _ _ _ ?_
    refine And.intro (fun q => absurd q (by omega)) (fun _ => And.intro (by omega) (And.intro (by omega) ?_))
    refine C_Co_take hne (fun s1 o1 r1 => ?_)
    rw [wr_id (by omega)]
    refine L_tk3 hne n (i + 1) s1 (by omega) (by omega) (fun s o r => K s (fun t k' q x hn => ?_) (fun q a b g h4 hg => ?_))
    · rw [o t k' q x (fun z => hn ⟨z.1, z.2.1, by omega⟩), o1 t k' q x (fun z => hn ⟨z.1, z.2.1, by omega⟩)]
    · rcases (show q = i ∨ i + 1 ≤ q by omega) with e | e
      · subst e
        exact (r1 g h4 hg).same h4 (fun x => o 21 k q x (fun z => by omega)) (fun x => o 22 k q x (fun z => by omega)) (fun x => o 23 k q x (fun z => by omega)) (fun _ _ _ => rfl)
      · exact r q e b g h4 (hg.same h4 (fun x => o1 21 k1 q x (fun z => hne z.2.1)) (fun x => o1 22 k1 q x (fun z => hne z.2.1)) (fun x => o1 23 k1 q x (fun z => hne z.2.1)) (fun _ _ _ => rfl))
theorem L_tk4 (hne : k1 ≠ k) {F : ST → Prop} : ∀ (n : Nat) (i : Int) (σ : ST), i + n = 12 → 0 ≤ i → (∀ s, Off (fun t k' q => (t = 25 ∧ k' = k ∧ i ≤ q) ∨ ((26 ≤ t ∧ t ≤ 29) ∧ k' = k ∧ q = 0)) σ s → (∀ q, i ≤ q → q < 12 → ∀ g, RCp σ k1 q g → RCp s k q g) → (∀ g, RLg σ k1 g → RLg s k g) → F s) → wp m_World_take (127, [some (ww k), some (ww k1), some (.inl i)], [], σ) (asV F)
  | 0, i, σ, h, hi, K => by
    refine T_World_take_127 _ _ _ _ _ _ _ ?_
    refine And.intro (fun _ => ?_) (fun q => absurd (show (12 : Int) ≤ i by omega) q)
    exact C_Lg_take hne (fun s o r => K s (Off_sub o (fun t k' q z => Or.inr z)) (fun q a b => absurd a (by omega)) r)
  | n + 1, i, σ, h, hi, K => by
    refine T_World_take_127 _ _ _ _ _ _ _ ?_
    refine And.intro (fun q => absurd q (by omega)) (fun _ => And.intro (by omega) (And.intro (by omega) ?_))
    refine C_Cy_take hne (fun s1 o1 r1 => ?_)
    rw [wr_id (by omega)]
    refine L_tk4 hne n (i + 1) s1 (by omega) (by omega) (fun s o r rl => K s (fun t k' q x hn => ?_) (fun q a b g hg => ?_) (fun g hg => rl g ?_))
    · rw [o t k' q x (fun z => hn (by omega)), o1 t k' q x (fun z => hn (by omega))]
    · rcases (show q = i ∨ i + 1 ≤ q by omega) with e | e
      · subst e
        exact (r1 g hg).same (fun x => o 25 k q x (fun z => by omega)) (fun _ _ _ => rfl)
      · exact r q e b g (hg.same (fun x => o1 25 k1 q x (fun z => hne z.2.1)) (fun _ _ _ => rfl))
    · have q1 : ∀ (t : Nat) (s : Int), 26 ≤ t → s1 t k1 0 s = σ t k1 0 s := fun t s ht => o1 t k1 0 s (fun z => hne z.2.1)
      unfold RLg
      rw [q1 26 _ (by omega), q1 26 _ (by omega)]
      refine ⟨hg.len, hg.l0, hg.l1, hg.n0, hg.n1, fun i x y => ?_⟩
      rw [q1 27 _ (by omega), q1 28 _ (by omega), q1 29 _ (by omega)]
      exact hg.row i x y
theorem C_W_take (hne : k1 ≠ k) {F : ST → Prop} (K : ∀ s, Off (SWd k) σ s → (∀ P g, RX σ k1 P g → RX s k P g) → F s) : wpM m_World_take [ww k, ww k1] σ (asV F) := by
  refine T_World_take _ _ _ _ _ _ ?_
  simp (decide := true) (disch := omega) only [up_ne]
  refine L_tk1 hne 10 0 _ (by omega) (by omega) (fun s1 o1 r1 => ?_)
  refine L_tk2 hne 4 0 _ (by omega) (by omega) (fun s2 o2 r2 => ?_)
  refine L_tk3 hne 3 0 _ (by omega) (by omega) (fun s3 o3 r3 => ?_)
  refine L_tk4 hne 12 0 _ (by omega) (by omega) (fun s4 o4 r4 rl => ?_)
  have u : ∀ (t : Nat) (k' i s : Int), ¬ (t = 12 ∧ k' = k ∧ i = 0) → up (up (up (up (up σ 12 k 0 0 (σ 12 k1 0 0)) 12 k 0 1 (σ 12 k1 0 1)) 12 k 0 2 (σ 12 k1 0 2)) 12 k 0 3 (σ 12 k1 0 3)) 12 k 0 4 (σ 12 k1 0 4) t k' i s = σ t k' i s := by
    intro t k' i s h
    rw [up_ne h, up_ne h, up_ne h, up_ne h, up_ne h]
  refine K s4 (fun t k' i x hn => ?_) (fun P g h => ⟨?_, h.2⟩)
  · rw [o4 t k' i x (fun z => hn (by omega)), o3 t k' i x (fun z => hn (by omega)), o2 t k' i x (fun z => hn (by omega)), o1 t k' i x (fun z => hn (by omega)), u t k' i x (fun z => hn (by omega))]
  · have hw := h.1
    have p1 := hw.ok.p1
    have c1 := hw.ok.c1
    have w : ∀ j, s4 12 k 0 j = up (up (up (up (up σ 12 k 0 0 (σ 12 k1 0 0)) 12 k 0 1 (σ 12 k1 0 1)) 12 k 0 2 (σ 12 k1 0 2)) 12 k 0 3 (σ 12 k1 0 3)) 12 k 0 4 (σ 12 k1 0 4) 12 k 0 j := by
      intro j
      rw [o4 12 k 0 j (fun z => by omega), o3 12 k 0 j (fun z => by omega), o2 12 k 0 j (fun z => by omega), o1 12 k 0 j (fun z => by omega)]
    unfold RW
    rw [w 0, w 1, w 2, w 3, w 4]
    simp (decide := true) only [up_s, if_true, if_false, ite_true, ite_false]
    refine ⟨hw.ok, hw.np, hw.nc, hw.nh, hw.ver, hw.ser, fun q a b => ?_, fun q a b => ?_, fun q a b => ?_, fun q a b => ?_, ?_⟩
    · have e := r1 q a (by omega) g ((hw.pg q a b).same (fun x => u _ _ _ _ (by omega)) (fun x => u _ _ _ _ (by omega)) (fun _ _ _ => rfl))
      refine e.same (fun x => ?_) (fun x => ?_) (fun _ _ _ => rfl)
      · rw [o4 14 k q x (fun z => by omega), o3 14 k q x (fun z => by omega), o2 14 k q x (fun z => by omega)]
      · rw [o4 15 k q x (fun z => by omega), o3 15 k q x (fun z => by omega), o2 15 k q x (fun z => by omega)]
    · have u1 : ∀ (t : Nat) (i s : Int), 17 ≤ t → s1 t k1 i s = σ t k1 i s := fun t i s ht => (o1 t k1 i s (fun z => by omega)).trans (u _ _ _ _ (by omega))
      have e := r2 q a b g ((hw.rm q a b).same (fun x => u1 _ _ _ (by omega)) (fun x => u1 _ _ _ (by omega)) (fun x => u1 _ _ _ (by omega)) (fun _ _ _ => rfl))
      refine e.same (fun x => ?_) (fun x => ?_) (fun x => ?_) (fun _ _ _ => rfl)
      · rw [o4 17 k q x (fun z => by omega), o3 17 k q x (fun z => by omega)]
      · rw [o4 18 k q x (fun z => by omega), o3 18 k q x (fun z => by omega)]
      · rw [o4 19 k q x (fun z => by omega), o3 19 k q x (fun z => by omega)]
    · have u2 : ∀ (t : Nat) (i s : Int), 21 ≤ t → s2 t k1 i s = σ t k1 i s := fun t i s ht => (o2 t k1 i s (fun z => by omega)).trans ((o1 t k1 i s (fun z => by omega)).trans (u _ _ _ _ (by omega)))
      have h4 := h.2 q ⟨a, b⟩
      have e := r3 q a (by omega) g h4 ((hw.co q a b).same h4 (fun x => u2 _ _ _ (by omega)) (fun x => u2 _ _ _ (by omega)) (fun x => u2 _ _ _ (by omega)) (fun _ _ _ => rfl))
      refine e.same h4 (fun x => ?_) (fun x => ?_) (fun x => ?_) (fun _ _ _ => rfl)
      · rw [o4 21 k q x (fun z => by omega)]
      · rw [o4 22 k q x (fun z => by omega)]
      · rw [o4 23 k q x (fun z => by omega)]
    · have u3 : ∀ (t : Nat) (i s : Int), 25 ≤ t → s3 t k1 i s = σ t k1 i s := fun t i s ht => (o3 t k1 i s (fun z => by omega)).trans ((o2 t k1 i s (fun z => by omega)).trans ((o1 t k1 i s (fun z => by omega)).trans (u _ _ _ _ (by omega))))
      exact r4 q a b g ((hw.cp q a b).same (fun x => u3 _ _ _ (by omega)) (fun _ _ _ => rfl))
    · refine rl g ?_
      have u3 : ∀ (t : Nat) (i s : Int), 25 ≤ t → s3 t k1 i s = σ t k1 i s := fun t i s ht => (o3 t k1 i s (fun z => by omega)).trans ((o2 t k1 i s (fun z => by omega)).trans ((o1 t k1 i s (fun z => by omega)).trans (u _ _ _ _ (by omega))))
      have hg := hw.lg
      unfold RLg
      rw [u3 26 _ _ (by omega), u3 26 _ _ (by omega)]
      refine ⟨hg.len, hg.l0, hg.l1, hg.n0, hg.n1, fun i x y => ?_⟩
      rw [u3 27 _ _ (by omega), u3 28 _ _ (by omega), u3 29 _ _ (by omega)]
      exact hg.row i x y
end TAK
