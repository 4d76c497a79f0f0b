/-! text: the pair -/
section TXC
variable {σ s : ST} {P : MP} {g : Int → Int} {n : Int}
theorem gz_GW (hok : MPok P) (hh : P.np ≠ 0 → 1 ≤ P.nh) (h0 : 0 ≤ n) (h1 : n ≤ 100000) : GW P gz n := by
  have p1 := hok.p1
  have p0 := hok.p0
  have c1 := hok.c1
  have hn := hok.h0
  have nr : ∀ r, ¬ isRm gz r := fun r z => by
    have := gz_rm (k := 0) z.1.1 z.1.2 (by omega) (by omega)
    exact absurd (this.symm.trans z.2) (by decide)
  have ny : ∀ c, ¬ isCp gz c := fun r z => by
    have := gz_cp (k := 0) z.1.1 z.1.2 (by omega) (by omega)
    exact absurd (this.symm.trans z.2) (by decide)
  have kz : ∀ p k, isPg P p → 0 ≤ k → k < 11 → pg gz p k = if k = 1 ∨ k = 2 ∨ k = 5 then -1 else 0 := fun p k hp a b => gz_pg hp.1 (by have := hp.2; omega) a b
  have k0 : ∀ p, isPg P p → pg gz p 0 = 0 := fun p hp => (kz p 0 hp (by omega) (by omega)).trans (if_neg (by omega))
  have cz : ∀ c k, isCo P c → 0 ≤ k → k < 11 → co gz c k = if k = 1 ∨ k = 2 ∨ k = 3 then -1 else 0 := fun c k hc a b => gz_co hc.1 (by have := hc.2; omega) a b
  refine ⟨⟨fun p hp => ?_, fun p hp _ => ?_, fun p hp _ => ?_, fun p hp q => ?_, fun p hp q => ?_, fun p q hp _ z => ?_, fun p q hp _ z => ?_, fun r a hr => absurd hr (nr r), fun r hr => absurd hr (nr r), fun r a b => Or.inl (gz_rm a b (by omega) (by omega)), fun r hr => absurd hr (nr r), fun p hp => ?_⟩, ⟨fun r a b => ?_, fun r a h0 h1 h2 h3 => ?_, fun r a b => ?_, ?_, ?_, hh, h1, fun r a b c d e => gz_rm b c (by rw [gz_rm b c (by omega) (by omega)] at d; omega) (by omega)⟩, ⟨fun c hc => ?_, fun c hc z => ?_, fun c d hc _ z => ?_, fun c hc => ?_, fun c i hc a b => ?_⟩, ⟨fun c a b => Or.inl (gz_cp a b (by omega) (by omega)), fun c hc => absurd hc (ny c), fun p x hp z => ?_, fun p x q y hp z => ?_, fun r hr => absurd hr (nr r), fun r q hr => absurd hr (nr r), fun c r hc => absurd hc (ny c), fun c d hc => absurd hc (ny c), fun c d r hc => absurd hc (ny c)⟩⟩
  · rw [k0 p hp]; omega
  · rw [kz p 2 hp (by omega) (by omega), kz p 5 hp (by omega) (by omega)]; exact ⟨rfl, rfl⟩
  · rw [kz p 1 hp (by omega) (by omega)]; rfl
  · rw [k0 p hp] at q; omega
  · rw [k0 p hp] at q; omega
  · rw [k0 p hp] at z; omega
  · rw [k0 p hp] at z; omega
  · rw [kz p 4 hp (by omega) (by omega)]; exact ⟨by decide, by decide⟩
  · rw [gz_rm a b (by omega) (by omega)]; omega
  · rw [gz_rm h0 h1 (by omega) (by omega)]; omega
  · rw [gz_rm a b (by omega) (by omega)]; omega
  · rw [gz_hi (by omega)]; omega
  · rw [gz_hi (by omega)]; omega
  · rw [cz c 0 hc (by omega) (by omega)]; exact ⟨by decide, by decide⟩
  · rw [cz c 1 hc (by omega) (by omega)] at z; exact absurd rfl z
  · rw [cz c 1 hc (by omega) (by omega)] at z; exact absurd rfl z
  · rw [cz c 4 hc (by omega) (by omega), if_neg (by omega)]; omega
  · rw [cz c 4 hc (by omega) (by omega), if_neg (by omega)] at b; omega
  · rw [k0 p hp] at z; omega
  · rw [k0 p hp] at z; omega
theorem PR_text0 : PRf m_X_text m_Z_text [.inl 0] := by
  intro σ n hI hn F K
  obtain ⟨P, g, h⟩ := hI
  have t0 := h.t
  have le := h.w.n.le
  have n0 : 0 ≤ n := by have := h.w.n.v0; omega
  refine T_X_text _ _ _ _ _ ?_
  refine And.intro (fun q => absurd rfl q) (fun _ => ?_)
  refine T_X_takeMachine _ _ _ _ ?_
  refine X_f0 t0 (fun s1 f1 h1 => ?_)
  refine And.intro (fun q => ?_) (fun q => ?_)
  · have r1 := h1 q
    obtain ⟨ok0, ok1, ok2⟩ := maV_ok t0.HH q
    refine And.intro ⟨by omega, by omega, by omega, by omega, by omega⟩ (And.intro (Or.inr rfl) (And.intro (Or.inl rfl) (And.intro ⟨by omega, by omega⟩ (And.intro ⟨by omega, by omega⟩ (And.intro ⟨by omega, by omega⟩ ?_)))))
    have e7 : ∀ k, 0 ≤ k → k < 4 → up (up (up (cpy (up s1 1 0 0 0 0) 3 0 0 0 7 0 0 0 4) 0 0 0 2 1) 0 0 0 9 0) 0 0 0 12 0 7 0 0 k = (maV (hT σ)).2 k := by
      intro k a b
      rw [up_o (by decide), up_o (by decide), up_o (by decide)]
      unfold cpy
      rw [if_pos (by omega), up_o (by decide), show 0 + (k - 0) = k by omega]
      exact r1 k a b
    have fo : ∀ (t : Nat) (k i x : Int), ¬ (t = 1 ∨ t = 3 ∨ t = 4 ∨ (t = 5 ∨ t = 6) ∧ k = 4 ∨ t = 7 ∨ (t = 0 ∧ (x = 2 ∨ x = 9 ∨ x = 12))) → up (up (up (cpy (up s1 1 0 0 0 0) 3 0 0 0 7 0 0 0 4) 0 0 0 2 1) 0 0 0 9 0) 0 0 0 12 0 t k i x = σ t k i x := by
      intro t k i x hn
      rw [show up (up (up (cpy (up s1 1 0 0 0 0) 3 0 0 0 7 0 0 0 4) 0 0 0 2 1) 0 0 0 9 0) 0 0 0 12 0 t k i x = cpy (up s1 1 0 0 0 0) 3 0 0 0 7 0 0 0 4 t k i x by (unfold up; rw [if_neg (by omega), if_neg (by omega), if_neg (by omega)]), cpy_o (by omega), up_o (by omega)]
      exact f1 t k i x (by omega)
    have e02 : up (up (up (cpy (up s1 1 0 0 0 0) 3 0 0 0 7 0 0 0 4) 0 0 0 2 1) 0 0 0 9 0) 0 0 0 12 0 0 0 0 2 = 1 := by rw [up_s, if_neg (by decide), up_s, if_neg (by decide), up_s, if_pos rfl]
    have e09 : up (up (up (cpy (up s1 1 0 0 0 0) 3 0 0 0 7 0 0 0 4) 0 0 0 2 1) 0 0 0 9 0) 0 0 0 12 0 0 0 0 9 = 0 := by rw [up_s, if_neg (by decide), up_s, if_pos rfl]
    have e12 : up (up (up (cpy (up s1 1 0 0 0 0) 3 0 0 0 7 0 0 0 4) 0 0 0 2 1) 0 0 0 9 0) 0 0 0 12 0 0 0 0 12 = 0 := by rw [up_s, if_pos rfl]
    have e1 : up (up (up (cpy (up s1 1 0 0 0 0) 3 0 0 0 7 0 0 0 4) 0 0 0 2 1) 0 0 0 9 0) 0 0 0 12 0 1 0 0 0 = 0 := by rw [up_o (by decide), up_o (by decide), up_o (by decide), cpy_o (by decide), up_s, if_pos rfl]
    generalize up (up (up (cpy (up s1 1 0 0 0 0) 3 0 0 0 7 0 0 0 4) 0 0 0 2 1) 0 0 0 9 0) 0 0 0 12 0 = s2 at e7 fo e02 e09 e12 e1 ⊢
    rw [e7 0 (by omega) (by omega), e7 1 (by omega) (by omega), e7 2 (by omega) (by omega)]
    obtain ⟨P2, hP2⟩ : ∃ P2 : MP, P2 = ((maV (hT σ)).2 0, (maV (hT σ)).2 1, (maV (hT σ)).2 2, (maV (hT σ)).2 3) := ⟨_, rfl⟩
    have y0 : (maV (hT σ)).2 0 = P2.np := by rw [hP2]; rfl
    have y1 : (maV (hT σ)).2 1 = P2.nc := by rw [hP2]; rfl
    have y2 : (maV (hT σ)).2 2 = P2.nh := by rw [hP2]; rfl
    have y3 : (maV (hT σ)).2 3 = P2.key := by rw [hP2]; rfl
    rw [y0] at ok0
    rw [y1] at ok1
    rw [y2] at ok2
    have mok : MPok P2 := ⟨by omega, by omega, by omega, by omega, by omega, by omega, fun z => absurd z (by omega)⟩
    rw [y0, y1, y2]
    refine C_Wbegin mok (fun s3 f3 x3 => And.intro ⟨by omega, by omega⟩ ?_)
    have g3 : ∀ (t : Nat) (k i x : Int), ¬ (t = 1 ∨ t = 3 ∨ t = 4 ∨ (t = 5 ∨ t = 6) ∧ k = 4 ∨ t = 7 ∨ (t = 0 ∧ (x = 2 ∨ x = 9 ∨ x = 12)) ∨ (12 ≤ t ∧ t ≤ 29 ∧ k = 0)) → s3 t k i x = σ t k i x := fun t k i x hn => (f3 t k i x (by omega)).trans (fo t k i x (by omega))
    rw [show s3 7 0 0 0 = P2.np by rw [f3 _ _ _ _ (by omega), e7 0 (by omega) (by omega)]; exact y0]
    show wpM m_Z_text _ _ _
    refine T_Z_text _ _ _ _ _ ?_
    refine And.intro (fun z => absurd rfl z) (fun _ => ?_)
    refine Z_f0 t0 (g3 _ _ _ _ (by omega)) (fun y => g3 _ _ _ _ (by omega)) (fun s4 f4 h4 => ?_)
    refine And.intro (fun z => absurd q z) (fun _ => ?_)
    have r4 := h4 q
    have w4 : ∀ k, 0 ≤ k → k < 4 → up s4 40 0 0 2 0 42 0 0 k = (maV (hT σ)).2 k := fun k a b => (up_o (by decide)).trans (r4 k a b)
    refine Z_takeM (P := P2) mok (by omega) ((w4 0 (by omega) (by omega)).trans y0) ((w4 1 (by omega) (by omega)).trans y1) ((w4 2 (by omega) (by omega)).trans y2) ((w4 3 (by omega) (by omega)).trans y3) (fun s5 f5 z5 a18 a23 r5 => ?_)
    have g5 : ∀ (t : Nat) (k i x : Int), ¬ (t = 43 ∨ t = 46 ∨ t = 42 ∨ t = 40 ∧ x ≠ 14 ∧ x ≠ 20) → s5 t k i x = s3 t k i x := fun t k i x hn => by
      rw [f5 _ _ _ _ (by omega), show up s4 40 0 0 2 0 t k i x = s4 t k i x by (unfold up; rw [if_neg (by omega)])]
      exact f4 _ _ _ _ (by omega)
    have g6 : ∀ (t : Nat) (k i x : Int), ¬ (t = 1 ∨ t = 3 ∨ t = 4 ∨ (t = 5 ∨ t = 6) ∧ k = 4 ∨ t = 7 ∨ (t = 0 ∧ (x = 2 ∨ x = 9 ∨ x = 12)) ∨ (12 ≤ t ∧ t ≤ 29 ∧ k = 0) ∨ t = 43 ∨ t = 46 ∨ t = 42 ∨ t = 40 ∧ x ≠ 14 ∧ x ≠ 20) → s5 t k i x = σ t k i x := fun t k i x hn => (g5 t k i x (by omega)).trans (g3 t k i x (by omega))
    have m5 : ∀ k, 0 ≤ k → k < 4 → s5 43 0 0 k = (maV (hT σ)).2 k := fun k a b => (r5 k a b).trans (w4 k a b)
    have t2 : s5 40 0 0 2 = 0 := by rw [f5 _ _ _ _ (by omega), up_s, if_pos rfl]
    have t1 : s5 1 0 0 0 = 0 := by rw [g5 _ _ _ _ (by omega), f3 _ _ _ _ (by omega)]; exact e1
    have m2 : s5 0 0 0 2 = 1 := by rw [g5 _ _ _ _ (by omega), f3 _ _ _ _ (by omega)]; exact e02
    have m9 : s5 0 0 0 9 = 0 := by rw [g5 _ _ _ _ (by omega), f3 _ _ _ _ (by omega)]; exact e09
    have m12 : s5 0 0 0 12 = 0 := by rw [g5 _ _ _ _ (by omega), f3 _ _ _ _ (by omega)]; exact e12
    refine K _ _ ⟨P2, gz, z5, x3.keepo (fun t i x a b => g5 _ _ _ _ (by omega)), gz_GW mok (fun _ => by omega) (by omega) hn, ⟨?_, fun i a b => ?_⟩, fun i a b => ?_, ?_, h.s.keep (g6 _ _ _ _ (by omega)) (g6 _ _ _ _ (by omega)) (fun m a b => g6 _ _ _ _ (by omega)) (fun m x a b => g6 _ _ _ _ (by omega)) (fun x a => g6 _ _ _ _ (by omega)) (fun x a => g6 _ _ _ _ (by omega)), ?_, ?_⟩
    · rw [m2, ← b2_h (show P2.np ≠ 0 by omega)]
      rfl
    · rw [m5 i a b, g5 _ _ _ _ (by omega), f3 _ _ _ _ (by omega)]
      exact e7 i a b
    · rw [g6 _ _ _ _ (by omega), g6 _ _ _ _ (by omega)]
      exact h.r.eq i a b
    · unfold TPi
      rw [t1, t2]
      exact ⟨rfl, by omega, by omega, fun i a b => absurd b (by omega)⟩
    · unfold UNi
      rw [a18, m12, g6 0 0 0 11 (by omega)]
      exact ⟨by omega, by omega, rfl, h.u.p0, h.u.p1, fun _ => rfl, fun j a b => absurd b (by omega)⟩
    · unfold IMi
      rw [m9, a23]
      exact ⟨rfl, fun z => absurd rfl z⟩
  · show wpM m_Z_text _ _ _
    refine T_Z_text _ _ _ _ _ ?_
    refine And.intro (fun z => absurd rfl z) (fun _ => ?_)
    refine Z_f0 t0 (f1 _ _ _ _ (by omega)) (fun y => f1 _ _ _ _ (by omega)) (fun s2 f2 _ => ?_)
    refine And.intro (fun _ => ?_) (fun z => absurd q z)
    refine T_Z_text_22 _ _ _ _ _ ?_
    refine And.intro (fun _ => ?_) (fun z => absurd (show (0 : Int) ≠ 1 by decide) z)
    have f : ∀ (t : Nat) (k i x : Int), ¬ (t = 1 ∨ t = 3 ∨ t = 4 ∨ (t = 5 ∨ t = 6) ∧ k = 4 ∨ (t = 40 ∧ 3 ≤ x ∧ x ≤ 8) ∨ t = 42) → s2 t k i x = σ t k i x := fun t k i x hn => (f2 t k i x (by omega)).trans (f1 t k i x (by omega))
    exact K _ _ ⟨P, g, IVg.mono (h.keept (fun t k i x hn => f t k i x (by omega)) (t0.keep ((f2 _ _ _ _ (by omega)).trans (f1 _ _ _ _ (by omega))) (f _ _ _ _ (by omega)) (fun x => f _ _ _ _ (by omega)) (fun x => f _ _ _ _ (by omega)))) (by omega) (by omega)⟩
theorem PR_text (x : Int) : PRf m_X_text m_Z_text [.inl x] := by
  by_cases x0 : x = 0
  · rw [x0]; exact PR_text0
  by_cases x1 : x = 1
  · rw [x1]; exact PR_text1
  intro σ n hI hn F K
  obtain ⟨P, g, h⟩ := hI
  refine T_X_text _ _ _ _ _ ?_
  refine And.intro (fun _ => And.intro (fun _ => ?_) (fun q => absurd x1 q)) (fun q => absurd x0 q)
  show wpM m_Z_text _ _ _
  refine T_Z_text _ _ _ _ _ ?_
  refine And.intro (fun _ => ?_) (fun q => absurd x0 q)
  refine T_Z_text_22 _ _ _ _ _ ?_
  exact And.intro (fun _ => K _ _ ⟨P, g, h.mono (by omega) (by omega)⟩) (fun q => absurd x1 q)
end TXC
