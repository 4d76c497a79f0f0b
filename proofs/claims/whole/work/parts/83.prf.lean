/-! perform on both -/
def uN (u : Int) : Int := if u = 40 then 40 else u + 1
def pushH (H : Int → Int → Int) (u : Int) (g : Int → Int) : Int → Int → Int := fun j => if u = 40 then (if j = 39 then g else H (j + 1)) else if j = u then g else H j
def XU (s : ST) (P : MP) (H : Int → Int → Int) (n u : Int) : Prop := (0 ≤ u) ∧ (u ≤ 40) ∧ (s 0 0 0 12 = u) ∧ (0 ≤ s 0 0 0 11) ∧ (s 0 0 0 11 < 41) ∧ (∀ j, 0 ≤ j → j < u → RX s (3 + (s 0 0 0 11 - u + j) % 41) P (H j) ∧ GW P (H j) n)
theorem XU.u0 {s : ST} {P : MP} {H : Int → Int → Int} {n u : Int} (h : XU s P H n u) : 0 ≤ u := h.1
theorem XU.u1 {s : ST} {P : MP} {H : Int → Int → Int} {n u : Int} (h : XU s P H n u) : u ≤ 40 := h.2.1
theorem XU.eq {s : ST} {P : MP} {H : Int → Int → Int} {n u : Int} (h : XU s P H n u) : s 0 0 0 12 = u := h.2.2.1
theorem XU.p0 {s : ST} {P : MP} {H : Int → Int → Int} {n u : Int} (h : XU s P H n u) : 0 ≤ s 0 0 0 11 := h.2.2.2.1
theorem XU.p1 {s : ST} {P : MP} {H : Int → Int → Int} {n u : Int} (h : XU s P H n u) : s 0 0 0 11 < 41 := h.2.2.2.2.1
theorem XU.row {s : ST} {P : MP} {H : Int → Int → Int} {n u : Int} (h : XU s P H n u) : ∀ j, 0 ≤ j → j < u → RX s (3 + (s 0 0 0 11 - u + j) % 41) P (H j) ∧ GW P (H j) n := h.2.2.2.2.2
def ZU (s : ST) (H : Int → Int → Int) (u : Int) : Prop := (s 40 0 0 18 = u) ∧ (∀ j x, 0 ≤ j → j < u → 0 ≤ x → x < 526 → s 48 0 0 (526 * j + x) = H j x)
theorem ZU.eq {s : ST} {H : Int → Int → Int} {u : Int} (h : ZU s H u) : s 40 0 0 18 = u := h.1
theorem ZU.row {s : ST} {H : Int → Int → Int} {u : Int} (h : ZU s H u) : ∀ j x, 0 ≤ j → j < u → 0 ≤ x → x < 526 → s 48 0 0 (526 * j + x) = H j x := h.2
abbrev XF (σ s : ST) : Prop := ∀ (t : Nat) (k i x : Int), ¬ ((11 ≤ t ∧ t ≤ 29 ∧ (k = 0 ∨ 3 ≤ k)) ∨ (t = 0 ∧ (x = 11 ∨ x = 12))) → s t k i x = σ t k i x
section PRF
variable {σ s s' : ST} {P : MP} {g : Int → Int} {H : Int → Int → Int} {n m u i k : Int}
theorem XU.mono {n' : Int} (h : XU s P H n u) (h1 : n ≤ n') (h2 : n' ≤ 100000) : XU s P H n' u := ⟨h.u0, h.u1, h.eq, h.p0, h.p1, fun j a b => ⟨(h.row j a b).1, (h.row j a b).2.mono h1 h2⟩⟩
theorem XU.keep (h : XU s P H n u) (e11 : s' 0 0 0 11 = s 0 0 0 11) (e12 : s' 0 0 0 12 = s 0 0 0 12) (e : ∀ (t : Nat) (k i x : Int), 12 ≤ t → t ≤ 29 → 3 ≤ k → k ≠ 3 + s 0 0 0 11 → s' t k i x = s t k i x) : XU s' P H n u := by
  have u0 := h.u0
  have u1 := h.u1
  have p0 := h.p0
  have p1 := h.p1
  unfold XU
  rw [e11, e12]
  exact ⟨u0, u1, h.eq, p0, p1, fun j a b => ⟨(h.row j a b).1.keepo (fun t i x y z => e t _ i x y z (by omega) (by omega)), (h.row j a b).2⟩⟩
theorem XU.push {pn : Int} (h : XU s P H n u) (hn : n + 1 ≤ 100000) (hg : GW P g n) (ep : s 0 0 0 11 = pn) (e11 : s' 0 0 0 11 = (pn + 1) % 41) (e12 : s' 0 0 0 12 = uN u) (e : ∀ (t : Nat) (k i x : Int), 12 ≤ t → t ≤ 29 → 3 ≤ k → k ≠ 3 + pn → s' t k i x = s t k i x) (xp : RX s' (3 + pn) P g) : XU s' P (pushH H u g) (n + 1) (uN u) := by
  have u0 := h.u0
  have u1 := h.u1
  have p0 := h.p0
  have p1 := h.p1
  have row := h.row
  rw [ep] at p0 p1 row
  unfold XU
  rw [e11, e12]
  unfold uN pushH
  by_cases h4 : u = 40
  · rw [if_pos h4]
    refine ⟨by omega, by omega, rfl, by omega, by omega, fun j a b => ?_⟩
    rw [if_pos h4]
    by_cases hj : j = 39
    · rw [if_pos hj, show 3 + ((pn + 1) % 41 - 40 + j) % 41 = 3 + pn by omega]
      exact ⟨xp, hg.mono (by omega) hn⟩
    · rw [if_neg hj, show 3 + ((pn + 1) % 41 - 40 + j) % 41 = 3 + (pn - u + (j + 1)) % 41 by omega]
      have r := row (j + 1) (by omega) (by omega)
      exact ⟨r.1.keepo (fun t i x y z => e t _ i x y z (by omega) (by omega)), r.2.mono (by omega) hn⟩
  · rw [if_neg h4]
    refine ⟨by omega, by omega, rfl, by omega, by omega, fun j a b => ?_⟩
    rw [if_neg h4]
    by_cases hj : j = u
    · rw [if_pos hj, show 3 + ((pn + 1) % 41 - (u + 1) + j) % 41 = 3 + pn by omega]
      exact ⟨xp, hg.mono (by omega) hn⟩
    · rw [if_neg hj, show 3 + ((pn + 1) % 41 - (u + 1) + j) % 41 = 3 + (pn - u + j) % 41 by omega]
      have r := row j (by omega) (by omega)
      exact ⟨r.1.keepo (fun t i x y z => e t _ i x y z (by omega) (by omega)), r.2.mono (by omega) hn⟩
theorem SCi.off (hs : SCi s) (f : XF s s') : SCi s' := hs.keep (f _ _ _ _ (by omega)) (f _ _ _ _ (by omega)) (fun _ _ _ => f _ _ _ _ (by omega)) (fun _ _ _ _ => f _ _ _ _ (by omega)) (fun _ _ => f _ _ _ _ (by omega)) (fun _ _ => f _ _ _ _ (by omega))
theorem C_X_step (h0 : RX s 0 P g) (hg : GW P g n) (hk : MPok P) (hn : n + 1 ≤ 100000) (hu : XU s P H n u) (hs : SCi s) (hm : 0 ≤ m ∧ m < s 40 0 0 14) (hi : 0 ≤ i ∧ i < s 45 0 0 m) {F : Int → ST → Prop} (K0 : whyS (s 44 0 0) P g m i ≠ -1 → ∀ s', XF s s' → RX s' 0 P g → XU s' P H n u → F 0 s') (K1 : whyS (s 44 0 0) P g m i = -1 → ∀ s', XF s s' → RX s' 0 P (notS (s 44 0 0) P g m i) → XU s' P (pushH H u g) (n + 1) (uN u) → GW P (notS (s 44 0 0) P g m i) (n + 1) → F 1 s') : wpM m_X_doesStep [xx, .inr (.inr (5, m, 0)), .inl i] s (asI F) := by
  have p0 := hu.p0
  have p1 := hu.p1
  have sr := hs.srt m i hm.1 hm.2 hi.1 hi.2
  refine T_X_doesStep _ _ _ _ _ _ _ ?_
  refine C_past h0 ⟨p0, p1⟩ rfl (fun s1 o1 r1 => ?_)
  have x1 : RX s1 0 P g := h0.keepo (fun t i x a b => o1 t 0 i x (fun z => by have := z.1; omega))
  have f1 : XF s s1 := fun t k i x hn => o1 t k i x (fun z => hn (Or.inl ⟨by have := z.2.1; omega, z.2.2, Or.inr (by have := z.1; omega)⟩))
  have hs1 := hs.off f1
  have a44 : s1 44 0 0 = s 44 0 0 := funext fun x => f1 _ _ _ _ (by omega)
  have a45 : s1 45 0 0 m = s 45 0 0 m := f1 _ _ _ _ (by omega)
  have a14 : s1 40 0 0 14 = s 40 0 0 14 := f1 _ _ _ _ (by omega)
  refine C_A_step x1 hg hs1 (by rw [a14]; exact hm) (by rw [a45]; exact hi) (fun s2 v o2 hno hdo => ?_)
  rw [a44] at hno hdo
  have f2 : ∀ (t : Nat) (k i x : Int), ¬ ((11 ≤ t ∧ t ≤ 29) ∧ (k = 0 ∨ k = 3 + s 0 0 0 11)) → s2 t k i x = s t k i x := fun t k i x hn => (o2 t k i x (fun z => hn ⟨z.2, Or.inl z.1⟩)).trans (o1 t k i x (fun z => hn ⟨⟨by have := z.2.1; omega, z.2.2⟩, Or.inr z.1⟩))
  have f2' : XF s s2 := fun t k i x hn => f2 t k i x (by omega)
  have hs2 := hs.off f2'
  have b44 : s2 44 0 0 = s 44 0 0 := funext fun x => f2' _ _ _ _ (by omega)
  have b45 : s2 45 0 0 m = s 45 0 0 m := f2' _ _ _ _ (by omega)
  have b14 : s2 40 0 0 14 = s 40 0 0 14 := f2' _ _ _ _ (by omega)
  have t0 := S_told hs2 (m := m) (i := i) (by rw [b14]; exact hm) (by rw [b45]; exact hi) (w := 0) (by omega)
  have t1 := S_told hs2 (m := m) (i := i) (by rw [b14]; exact hm) (by rw [b45]; exact hi) (w := 1) (by omega)
  rw [Int.add_zero] at t0
  rw [b44] at t0 t1
  refine PU.I t0 ?_
  refine PU.I t1 ?_
  by_cases hy : whyS (s 44 0 0) P g m i = -1
  · obtain ⟨e1, r2, ev⟩ := hdo hy
    subst ev
    have gd : GW P (doS (s 44 0 0) P g m i) (n + 1) := G_do hg hk hn sr.1 (by omega) hy
    have x2 : RX s2 0 P (doS (s 44 0 0) P g m i) := gd.x r2
    have lg := x2.1.lg
    refine C_keeps1 x2 e1 ⟨p0, p1⟩ (f2 0 0 0 11 (by omega)) (u := u) ⟨hu.u0, hu.u1⟩ ((f2 0 0 0 12 (by omega)).trans hu.eq) _ _ _ (fun s3 f3 e11 e12 x3 => ?_)
    have f3' : ∀ (t : Nat) (k i x : Int), ¬ ((11 ≤ t ∧ t ≤ 29) ∧ (k = 0 ∨ k = 3 + s 0 0 0 11)) → ¬ (t = 0 ∧ (x = 11 ∨ x = 12)) → s3 t k i x = s t k i x := fun t k i x h1 h2 => (f3 t k i x (fun z => h1 (by omega)) h2).trans (f2 t k i x h1)
    refine And.intro (Or.inr rfl) (K1 hy s3 (fun t k i x hn => f3' t k i x (by omega) (by omega)) x3 (hu.push hn hg rfl e11 e12 (fun t k i x a b c d => f3' t k i x (by omega) (by omega)) ?_) (gd.ext hk (fun x a b => note_lo lg.l0 b)))
    refine r1.keepo (fun t i x a b => ?_)
    rw [f3 _ _ _ _ (by omega) (by omega), o2 t _ i x (fun z => by have := z.1; omega)]
  · obtain ⟨e1, r2⟩ := hno hy
    refine C_keeps0 (by rw [e1]; exact hy) _ _ _ ?_
    exact And.intro (Or.inl rfl) (K0 hy s2 f2' r2 (hu.keep (f2 _ _ _ _ (by omega)) (f2 _ _ _ _ (by omega)) (fun t k i x a b c d => f2 _ _ _ _ (by omega))))
end PRF
