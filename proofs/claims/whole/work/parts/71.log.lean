/-! the logs written; the reference keeps and acts -/
theorem shL_lo : ∀ (n : Nat) (i : Int) (g : Int → Int) (t : Int), t < 346 + i - 3 → shL n i g t = g t
  | 0, _, _, _, _ => rfl
  | n + 1, i, g, t, h => by
    show shL n (i + 1) _ t = _
    rw [shL_lo n (i + 1) _ t (by omega), at_put_o (by omega)]
theorem shL_at : ∀ (n : Nat) (i : Int) (g : Int → Int) (t : Int), i - 3 ≤ t → t < i - 3 + n → shL n i g (346 + t) = g (349 + t)
  | 0, _, _, _, h, h1 => by omega
  | n + 1, i, g, t, h, h1 => by
    show shL n (i + 1) _ (346 + t) = _
    rcases (show t = i - 3 ∨ i - 2 ≤ t by omega) with z | z
    · rw [shL_lo n (i + 1) _ _ (by omega), show 346 + t = 346 + i - 3 by omega, at_put, show 349 + t = 346 + i by omega]
    · rw [shL_at n (i + 1) _ t (by omega) (by omega), at_put_o (by omega)]
theorem note_lo {g : Int → Int} {s f a x : Int} (h0 : 0 ≤ g 345) (hx : x < 345) : noteG g s f a x = g x := by
  unfold noteG note3
  split
  · have e : put (shL 177 3 g) 345 59 345 = 59 := at_put
    rw [e, at_put_o (by omega), at_put_o (by omega), at_put_o (by omega), at_put_o (by omega), at_put_o (by omega), shL_lo _ _ _ _ (by omega)]
  · rw [at_put_o (by omega), at_put_o (by omega), at_put_o (by omega), at_put_o (by omega)]
theorem note_at {g : Int → Int} {s f a : Int} (h0 : 0 ≤ g 345) (h1 : g 345 ≤ 60) : ∃ m, 0 ≤ m ∧ m < 60 ∧ noteG g s f a 345 = m + 1 ∧ (g 345 = 60 → m = 59) ∧ (g 345 ≠ 60 → m = g 345) ∧ noteG g s f a (346 + 3 * m) = s ∧ noteG g s f a (347 + 3 * m) = f ∧ noteG g s f a (348 + 3 * m) = a ∧ ∀ j d, 0 ≤ j → j < m → 0 ≤ d → d < 3 → noteG g s f a (346 + 3 * j + d) = g (346 + 3 * (j + (g 345 - m)) + d) := by
  unfold noteG
  by_cases h6 : g 345 = 60
  · rw [if_pos h6]
    unfold note3
    have e : put (shL 177 3 g) 345 59 345 = 59 := at_put
    rw [e]
    refine ⟨59, by omega, by omega, by rw [at_put], fun _ => rfl, fun z => absurd h6 z, ?_, ?_, ?_, fun j d j0 j1 d0 d1 => ?_⟩
    · rw [at_put_o (by omega), at_put_o (by omega), at_put_o (by omega), at_put]
    · rw [at_put_o (by omega), at_put_o (by omega), show (347 + 3 * 59 : Int) = 346 + 3 * 59 + 1 by omega, at_put]
    · rw [at_put_o (by omega), show (348 + 3 * 59 : Int) = 346 + 3 * 59 + 2 by omega, at_put]
    · rw [at_put_o (by omega), at_put_o (by omega), at_put_o (by omega), at_put_o (by omega), at_put_o (by omega), show 346 + 3 * j + d = 346 + (3 * j + d) by omega, shL_at _ _ _ _ (by omega) (by omega), h6]
      exact congrArg g (by omega)
  · rw [if_neg h6]
    unfold note3
    refine ⟨g 345, by omega, by omega, by rw [at_put], fun z => absurd z h6, fun _ => rfl, ?_, ?_, ?_, fun j d j0 j1 d0 d1 => ?_⟩
    · rw [at_put_o (by omega), at_put_o (by omega), at_put_o (by omega), at_put]
    · rw [at_put_o (by omega), at_put_o (by omega), show 347 + 3 * g 345 = 346 + 3 * g 345 + 1 by omega, at_put]
    · rw [at_put_o (by omega), show 348 + 3 * g 345 = 346 + 3 * g 345 + 2 by omega, at_put]
    · rw [at_put_o (by omega), at_put_o (by omega), at_put_o (by omega), at_put_o (by omega)]
      exact congrArg g (by omega)
section LOGS
variable {σ σ0 : ST} {k : Int} {P : MP} {g : Int → Int} {n : Int}
theorem C_Lg_write (h : RLg σ k g) (s f a : Int) {F : ST → Prop} (K : ∀ t, Off (SLg k) σ t → RLg t k (noteG g s f a) → F t) : wpM m_Log_write [lgh k, .inl s, .inl f, .inl a] σ (asV F) := by
  have l0 := h.l0
  have l1 := h.l1
  have n0 := h.n0
  have n1 := h.n1
  have len := h.len
  refine T_Log_write _ _ _ _ _ _ _ ?_
  refine PU.I (P_floorMod ⟨by omega, by omega⟩ (by omega) (by omega) σ) ?_
  rw [show σ 26 k 0 1 % 60 = σ 26 k 0 1 by omega, wr_id (by omega)]
  refine And.intro (by omega) (And.intro (by omega) (And.intro (by omega) ?_))
  refine PU.I (P_floorMod ⟨by omega, by omega⟩ (by omega) (by omega) _) ?_
  generalize hnx : σ 26 k 0 1 = nx at n0 n1
  obtain ⟨m, m0, m1, e1, e2, e3, w1, w2, w3, old⟩ := note_at (s := s) (f := f) (a := a) l0 l1
  have rd : ∀ (t : ST), (∀ (x i : Int), t 27 k 0 x = up σ 27 k 0 nx s 27 k 0 x ∧ t 28 k 0 x = up σ 28 k 0 nx f 28 k 0 x ∧ t 29 k 0 x = up σ 29 k 0 nx a 29 k 0 x) → t 26 k 0 0 = m + 1 → t 26 k 0 1 = (nx + 1) % 60 → RLg t k (noteG g s f a) := by
    intro t ht t0 t1
    unfold RLg
    rw [t0, t1, e1]
    refine ⟨rfl, by omega, by omega, by omega, by omega, fun i i0 i1 => ?_⟩
    rw [(ht _ i).1, (ht _ i).2.1, (ht _ i).2.2, up_s, up_s, up_s]
    by_cases z : i = 0
    · subst z
      rw [if_pos (by omega), if_pos (by omega), if_pos (by omega), show m + 1 - 1 - 0 = m by omega]
      exact ⟨w1.symm, w2.symm, w3.symm⟩
    · rw [if_neg (by omega), if_neg (by omega), if_neg (by omega)]
      have r := h.row (i - 1) (by omega) (by omega)
      rw [hnx, show (nx - 1 - (i - 1)) % 60 = ((nx + 1) % 60 - 1 - i) % 60 by omega] at r
      have q0 := old (m + 1 - 1 - i) 0 (by omega) (by omega) (by omega) (by omega)
      have q1 := old (m + 1 - 1 - i) 1 (by omega) (by omega) (by omega) (by omega)
      have q2 := old (m + 1 - 1 - i) 2 (by omega) (by omega) (by omega) (by omega)
      rw [r.1, r.2.1, r.2.2, show 346 + 3 * (m + 1 - 1 - i) = 346 + 3 * (m + 1 - 1 - i) + 0 by omega, q0, show 347 + 3 * (m + 1 - 1 - i) = 346 + 3 * (m + 1 - 1 - i) + 1 by omega, q1, show 348 + 3 * (m + 1 - 1 - i) = 346 + 3 * (m + 1 - 1 - i) + 2 by omega, q2]
      exact ⟨congrArg g (by omega), congrArg g (by omega), congrArg g (by omega)⟩
  have e4 : up (up (up (up σ 27 k 0 nx s) 28 k 0 nx f) 29 k 0 nx a) 26 k 0 1 ((nx + 1) % 60) 26 k 0 0 = g 345 := by
    rw [up_s, if_neg (by omega), up_o (by decide), up_o (by decide), up_o (by decide), len]
  rw [e4]
  refine And.intro (fun hz => K _ ?_ (rd _ (fun x i => ⟨?_, ?_, ?_⟩) ?_ ?_)) (fun hz => K _ ?_ (rd _ (fun x i => ⟨?_, ?_, ?_⟩) ?_ ?_))
  · (repeat' (first | exact Off_refl _ _ | refine Off_up ?_ ⟨by omega, rfl, rfl⟩))
  · rw [up_o (by decide), up_o (by decide), up_o (by decide), up_s]
  · rw [up_o (by decide), up_o (by decide), up_s, up_s, up_o (by decide)]
  · rw [up_o (by decide), up_s, up_s, up_o (by decide), up_o (by decide)]
  · rw [e4]; omega
  · rw [up_s, if_pos rfl]
  · (repeat' (first | exact Off_refl _ _ | refine Off_up ?_ ⟨by omega, rfl, rfl⟩))
  · rw [up_o (by decide), up_o (by decide), up_o (by decide), up_o (by decide), up_s]
  · rw [up_o (by decide), up_o (by decide), up_o (by decide), up_s, up_s, up_o (by decide)]
  · rw [up_o (by decide), up_o (by decide), up_s, up_s, up_o (by decide), up_o (by decide)]
  · rw [up_s, if_pos rfl, wr_id (by omega)]; omega
  · rw [up_s, if_neg (by omega), up_s, if_pos rfl]
theorem C_note (h : RX σ k P g) (s f a : Int) {F : ST → Prop} (K : ∀ t, Off (SLg k) σ t → RX t k P (noteG g s f a) → F t) : wpM m_Log_write [lgh k, .inl s, .inl f, .inl a] σ (asV F) := by
  have hw := h.1
  have l0 := hw.lg.l0
  have p1 := hw.ok.p1
  have c1 := hw.ok.c1
  refine C_Lg_write hw.lg s f a (fun t o r => K t o ⟨?_, fun c hc => ?_⟩)
  · have q : ∀ (t' : Nat) (i x : Int), t' < 26 → t t' k i x = σ t' k i x := fun t' i x ht => o t' k i x (fun z => by omega)
    unfold RW
    rw [q 12 0 0 (by omega), q 12 0 1 (by omega), q 12 0 2 (by omega), q 12 0 3 (by omega), q 12 0 4 (by omega), note_lo l0 (by omega), note_lo l0 (by omega)]
    refine ⟨hw.ok, hw.np, hw.nc, hw.nh, hw.ver, hw.ser, fun p a b => ?_, fun p a b => ?_, fun p a b => ?_, fun p a b => ?_, r⟩
    · exact (hw.pg p a b).same (fun s => q 14 _ _ (by omega)) (fun s => q 15 _ _ (by omega)) (fun j x y => note_lo l0 (by omega))
    · exact (hw.rm p a b).same (fun s => q 17 _ _ (by omega)) (fun s => q 18 _ _ (by omega)) (fun s => q 19 _ _ (by omega)) (fun j x y => note_lo l0 (by omega))
    · exact (hw.co p a b).same (h.2 p ⟨a, b⟩) (fun s => q 21 _ _ (by omega)) (fun s => q 22 _ _ (by omega)) (fun s => q 23 _ _ (by omega)) (fun j x y => note_lo l0 (by omega))
    · exact (hw.cp p a b).same (fun s => q 25 _ _ (by omega)) (fun j x y => note_lo l0 (by omega))
  · have e : co (noteG g s f a) c 4 = co g c 4 := note_lo l0 (by omega)
    rw [e]; exact h.2 c hc
theorem GW.ext {g' : Int → Int} (hg : GW P g n) (hk : MPok P) (e : ∀ x, 0 ≤ x → x < 345 → g' x = g x) : GW P g' n := by
  have p1 := hk.p1
  have c1 := hk.c1
  have V : ∀ q j, 0 ≤ q → q < 4 → 0 ≤ j → j < 23 → rm g' q j = rm g q j := fun q j a b x y => e _ (by omega) (by omega)
  have U : ∀ q j, isPg P q → 0 ≤ j → j < 11 → pg g' q j = pg g q j := fun q j hq a b => e _ (by omega) (by omega)
  exact ⟨hg.p.same0 (fun q j hq a b _ => U q j hq a (by omega)) (fun q hq => by rw [U q 4 hq (by omega) (by omega)]; exact hg.p.vl q hq) (fun q j a b c => V q j a b (by omega) (by omega)), hg.n.same0 V (e _ (by omega) (by omega)) (e _ (by omega) (by omega)), hg.c.same hk (fun d j hd j0 j1 => e _ (by omega) (by omega)) (fun q j hq a b _ => U q j hq a (by omega)) (fun q a b => by rw [V q 0 a b (by omega) (by omega), V q 5 a b (by omega) (by omega)]; omega), hg.s.same (fun d j d0 d1 j0 j1 => e _ (by omega) (by omega)) (fun q j hq a b => U q j hq (by omega) b) (fun q j a b c => V q j a b (by omega) (by omega)) ⟨hg.n.v0.1, hg.n.s0.1⟩ (e _ (by omega) (by omega)) (e _ (by omega) (by omega))⟩
/-- the reference's store stays what it was where 46, 43 and isMachine do -/
theorem ZS.keepo {σ' : ST} (h : ZS σ P g) (h46 : ∀ s, σ' 46 0 0 s = σ 46 0 0 s) (h43 : ∀ s, σ' 43 0 0 s = σ 43 0 0 s) (h40 : σ' 40 0 0 11 = σ 40 0 0 11) : ZS σ' P g := by
  unfold ZS
  rw [h43, h43, h43, h43, h40]
  exact ⟨h.ok, fun s a b => by rw [h46]; exact h.now s a b, h.np, h.nc, h.nh, h.key, h.mac, h.zr, h.zc⟩
theorem L_Z_keep54 {u : Int} (hu : 0 ≤ u ∧ u < 40) {F : ST → Prop} : ∀ (n : Nat) (i : Int) (σ : ST), i + n = 526 → 0 ≤ i → σ 40 0 0 18 = u → (∀ s, (∀ t k' i' x, ¬ (t = 48 ∧ k' = 0 ∧ i' = 0) → ¬ (t = 40 ∧ k' = 0 ∧ i' = 0 ∧ x = 18) → s t k' i' x = σ t k' i' x) → s 40 0 0 18 = u + 1 → (∀ x, s 48 0 0 x = if 526 * u + i ≤ x ∧ x < 526 * u + 526 then σ 46 0 0 (x - 526 * u) else σ 48 0 0 x) → F s) → wp m_Z_keep (54, [some zz, some (.inl i)], [], σ) (asV F)
  | 0, i, σ, h, hi, e, K => by
    refine T_Z_keep_54 _ _ _ _ _ ?_
    rw [e, wr_id (x := u + 1) (by omega)]
    refine And.intro (fun _ => K _ (fun t k' i' x h1 h2 => ?_) (by rw [up_s, if_pos rfl]) (fun x => ?_)) (fun q => absurd (show (526 : Int) ≤ i by omega) q)
    · unfold up
      rw [if_neg h2]
    · rw [up_o (by decide), if_neg (by omega)]
  | n + 1, i, σ, h, hi, e, K => by
    refine T_Z_keep_54 _ _ _ _ _ ?_
    rw [e, wr_id (x := 526 * u) (by omega), wr_id (x := 526 * u + i) (by omega), wr_id (x := i + 1) (by omega)]
    refine And.intro (fun q => absurd q (by omega)) (fun _ => And.intro (by omega) (And.intro (by omega) ?_))
    refine L_Z_keep54 hu n (i + 1) _ (by omega) (by omega) (by rw [up_o (by decide), e]) (fun s a1 a2 a3 => K s (fun t k' i' x h1 h2 => ?_) a2 (fun x => ?_))
    · rw [a1 t k' i' x h1 h2, up_ne h1]
    · rw [a3 x, up_s, up_o (by decide)]
      by_cases z : x = 526 * u + i
      · rw [if_neg (by omega), if_pos z, if_pos (by omega), show x - 526 * u = i by omega]
      · rw [if_neg z]
        by_cases y : 526 * u + (i + 1) ≤ x ∧ x < 526 * u + 526
        · rw [if_pos y, if_pos (by omega)]
        · rw [if_neg y, if_neg (by omega)]
theorem L_Z_keep13 {F : ST → Prop} : ∀ (n : Nat) (i : Int) (σ : ST), i + n = 21040 → 526 ≤ i → σ 40 0 0 18 = 40 → (∀ s, (∀ t k' i' x, ¬ (t = 48 ∧ k' = 0 ∧ i' = 0) → ¬ (t = 40 ∧ k' = 0 ∧ i' = 0 ∧ x = 18) → s t k' i' x = σ t k' i' x) → s 40 0 0 18 = 39 → (∀ x, s 48 0 0 x = if i - 526 ≤ x ∧ x < 20514 then σ 48 0 0 (x + 526) else σ 48 0 0 x) → wp m_Z_keep (54, [some zz, some (.inl 0)], [], s) (asV F)) → wp m_Z_keep (13, [some zz, some (.inl i)], [], σ) (asV F)
  | 0, i, σ, h, hi, e, K => by
    refine T_Z_keep_13 _ _ _ _ _ ?_
    rw [e, wr_id (x := 40 - 1) (by omega)]
    refine And.intro (fun _ => K _ (fun t k' i' x h1 h2 => ?_) (by rw [up_s, if_pos rfl]; rfl) (fun x => ?_)) (fun q => absurd (show (21040 : Int) ≤ i by omega) q)
    · unfold up
      rw [if_neg h2]
    · rw [up_o (by decide), if_neg (by omega)]
  | n + 1, i, σ, h, hi, e, K => by
    refine T_Z_keep_13 _ _ _ _ _ ?_
    rw [wr_id (x := i - 526) (by omega), wr_id (x := i + 1) (by omega)]
    refine And.intro (fun q => absurd q (by omega)) (fun _ => And.intro (by omega) (And.intro (by omega) ?_))
    refine L_Z_keep13 n (i + 1) _ (by omega) (by omega) (by rw [up_o (by decide), e]) (fun s a1 a2 a3 => K s (fun t k' i' x h1 h2 => ?_) a2 (fun x => ?_))
    · rw [a1 t k' i' x h1 h2, up_ne h1]
    · rw [a3 x, up_s, up_s]
      by_cases z : x = i - 526
      · have c1 : ¬ (i + 1 - 526 ≤ x ∧ x < 20514) := by omega
        have c2 : i - 526 ≤ x ∧ x < 20514 := by omega
        rw [if_neg c1, if_pos z, if_pos c2, show x + 526 = i by omega]
      · by_cases y : i + 1 - 526 ≤ x ∧ x < 20514
        · have c1 : ¬ (x + 526 = i - 526) := by omega
          have c2 : i - 526 ≤ x ∧ x < 20514 := by omega
          rw [if_pos y, if_pos c2, if_neg c1]
        · have c2 : ¬ (i - 526 ≤ x ∧ x < 20514) := by omega
          rw [if_neg y, if_neg c2, if_neg z]
theorem A_Z_keep {u : Int} (hu : 0 ≤ u ∧ u ≤ 40) (e : σ 40 0 0 18 = u) {F : ST → Prop} (K : ∀ s, (∀ t k' i' x, ¬ (t = 48 ∧ k' = 0 ∧ i' = 0) → ¬ (t = 40 ∧ k' = 0 ∧ i' = 0 ∧ x = 18) → s t k' i' x = σ t k' i' x) → s 40 0 0 18 = (if u = 40 then 40 else u + 1) → (∀ j x, 0 ≤ j → j < (if u = 40 then 39 else u) → 0 ≤ x → x < 526 → s 48 0 0 (526 * j + x) = σ 48 0 0 (526 * (if u = 40 then j + 1 else j) + x)) → (∀ x, 0 ≤ x → x < 526 → s 48 0 0 (526 * (if u = 40 then 39 else u) + x) = σ 46 0 0 x) → F s) : wpM m_Z_keep [zz] σ (asV F) := by
  refine T_Z_keep _ _ _ _ ?_
  rw [e]
  by_cases h4 : u = 40
  · rw [if_pos h4, if_pos h4] at K
    refine And.intro (fun q => absurd h4 q) (fun _ => ?_)
    refine L_Z_keep13 20514 526 σ (by omega) (by omega) (by omega) (fun s a1 a2 a3 => ?_)
    refine L_Z_keep54 (u := 39) (by omega) 526 0 s (by omega) (by omega) a2 (fun s2 b1 b2 b3 => K s2 (fun t k' i' x h1 h2 => (b1 t k' i' x h1 h2).trans (a1 t k' i' x h1 h2)) b2 (fun j x j0 j1 x0 x1 => ?_) (fun x x0 x1 => ?_))
    · rw [if_pos h4, b3, if_neg (by omega), a3, if_pos (by omega)]
      exact congrArg _ (by omega)
    · rw [b3, if_pos (by omega), show 526 * 39 + x - 526 * 39 = x by omega, a1 46 0 0 x (by omega) (by omega)]
  · rw [if_neg h4, if_neg h4] at K
    refine And.intro (fun _ => ?_) (fun q => absurd h4 q)
    refine L_Z_keep54 (u := u) (by omega) 526 0 σ (by omega) (by omega) e (fun s b1 b2 b3 => K s b1 b2 (fun j x j0 j1 x0 x1 => ?_) (fun x x0 x1 => ?_))
    · rw [if_neg h4, b3, if_neg (by omega)]
    · rw [b3, if_pos (by omega), show 526 * u + x - 526 * u = x by omega]
end LOGS
