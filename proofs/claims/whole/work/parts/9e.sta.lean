/-! the start: both stores hold what a fresh component and a fresh reference hold -/
abbrev P0 : MP := (0, 0, 0, 0)
abbrev g0 : Int → Int := fun _ => 0
theorem np0 {p : Int} : ¬ isPg P0 p := by
  rintro ⟨h1, h2⟩
  have h2 : p < 0 := h2
  omega
theorem nc0 {p : Int} : ¬ isCo P0 p := by
  rintro ⟨h1, h2⟩
  have h2 : p < 0 := h2
  omega
theorem nr0 {r : Int} : ¬ isRm g0 r := fun h => absurd (show (0 : Int) = 1 from h.2) (by decide)
theorem ny0 {r : Int} : ¬ isCp g0 r := fun h => absurd (show (0 : Int) = 1 from h.2) (by decide)
theorem σ0_25 {k i : Int} : σ0 25 k i 0 = 0 := by
  unfold σ0
  rw [if_neg (by decide)]
theorem MPok0 : MPok P0 := ⟨by decide, by decide, by decide, by decide, by decide, by decide, fun _ => rfl⟩
theorem ZS0 : ZS σ0 P0 g0 := ⟨MPok0, fun s _ _ => σ0_0 (by decide) _ _ _, σ0_0 (by decide) _ _ _, σ0_0 (by decide) _ _ _, σ0_0 (by decide) _ _ _, σ0_0 (by decide) _ _ _, (by rw [σ0_0 (by decide)]; exact b2_l (fun h => h rfl)), fun _ _ _ _ => rfl, fun _ _ _ _ => rfl⟩
theorem RW0 : RW σ0 0 P0 g0 := ⟨MPok0, σ0_0 (by decide) _ _ _, σ0_0 (by decide) _ _ _, σ0_0 (by decide) _ _ _, σ0_0 (by decide) _ _ _, σ0_0 (by decide) _ _ _,
  fun p h1 h2 => absurd (⟨h1, h2⟩ : isPg P0 p) np0, fun r h1 h2 => ⟨by rw [σ0_0 (by decide)]; exact b2_l (fun h => absurd (show (0 : Int) = 1 from h) (by decide)), fun h => absurd (⟨⟨h1, h2⟩, h⟩ : isRm g0 r) nr0⟩,
  fun c h1 h2 => absurd (⟨h1, h2⟩ : isCo P0 c) nc0, fun c h1 h2 => ⟨by rw [σ0_25]; exact b2_l (fun h => absurd (show (0 : Int) = 1 from h) (by decide)), fun h => absurd (⟨⟨h1, h2⟩, h⟩ : isCp g0 c) ny0⟩,
  σ0_0 (by decide) _ _ _, (by decide), (by decide), (by rw [σ0_0 (by decide)]; decide), (by rw [σ0_0 (by decide)]; decide), fun i h1 h2 => absurd (show i < 0 from h2) (by omega)⟩
theorem RX0 : RX σ0 0 P0 g0 := ⟨RW0, fun c h => absurd h nc0⟩
theorem GP0 : GP P0 g0 := by
  unfold GP
  refine ⟨fun p h => absurd h np0, fun p h => absurd h np0, fun p h => absurd h np0, fun p h => absurd h np0, fun p h => absurd h np0, fun p q h => absurd h np0, fun p q h => absurd h np0, fun r a h => absurd h nr0, fun r h => absurd h nr0, fun r _ _ => Or.inl rfl, fun r h => absurd h nr0, fun p h => absurd h np0⟩
theorem GN0 : GN P0 g0 0 := by
  unfold GN
  exact ⟨fun r _ _ => ⟨Int.le_refl 0, (by decide : (0 : Int) ≤ 8)⟩, fun r a _ _ _ _ => ⟨Int.le_refl 0, Int.le_refl 0⟩, fun r _ _ => ⟨Int.le_refl 0, Int.le_refl 0⟩, ⟨Int.le_refl 0, Int.le_refl 0⟩, ⟨Int.le_refl 0, Int.le_refl 0⟩, fun h => absurd rfl h, by decide, fun r a _ _ _ _ => rfl⟩
theorem GC0 : GC P0 g0 := by
  unfold GC
  exact ⟨fun c h => absurd h nc0, fun c h => absurd h nc0, fun c d h => absurd h nc0, fun c h => absurd h nc0, fun c i h => absurd h nc0⟩
theorem GS0 : GS P0 g0 := by
  unfold GS
  exact ⟨fun c _ _ => Or.inl rfl, fun c h => absurd h ny0, fun p s h => absurd h np0, fun p s q t h => absurd h np0, fun r h => absurd h nr0, fun r q h => absurd h nr0, fun c r h => absurd h ny0, fun c d h => absurd h ny0, fun c d r h => absurd h ny0⟩
theorem GW0 : GW P0 g0 0 := ⟨GP0, GN0, GC0, GS0⟩
theorem z0 {t : Nat} (h : t ≠ 14 ∧ t ≠ 21 ∧ t ≠ 25 ∧ t ≠ 11) {k i s : Int} : σ0 t k i s = 0 := σ0_0 h k i s
theorem INV0 : INV σ0 0 := by
  refine ⟨P0, g0, ZS0, RX0, GW0, ⟨?_, fun i _ _ => by rw [z0 (t := 7) (by decide), z0 (t := 43) (by decide)]⟩, fun i _ _ => by rw [z0 (t := 10) (by decide), z0 (t := 47) (by decide)], ⟨?_, ?_, ?_, fun i h1 h2 => ?_⟩, ⟨?_, ?_, ?_, fun m h1 h2 => ?_, fun m i j h1 h2 => ?_, fun m i h1 h2 => ?_, fun m i h1 h2 => ?_, fun m i h1 h2 => ?_⟩, ⟨?_, ?_, ?_, ?_, ?_, fun _ => ?_, fun j h1 h2 => ?_⟩, ⟨?_, fun h => ?_⟩⟩
  · rw [z0 (t := 0) (by decide)]
    exact b2_l (fun h => h rfl)
  · rw [z0 (t := 1) (by decide), z0 (t := 40) (by decide)]
  · rw [z0 (t := 40) (by decide)]
    decide
  · rw [z0 (t := 40) (by decide)]
    decide
  · rw [z0 (t := 40) (by decide)] at h2
    omega
  · rw [z0 (t := 0) (by decide), z0 (t := 40) (by decide)]
  · rw [z0 (t := 40) (by decide)]
    decide
  · rw [z0 (t := 40) (by decide)]
    decide
  · rw [z0 (t := 40) (by decide)] at h2
    omega
  · rw [z0 (t := 40) (by decide)] at h2
    omega
  · rw [z0 (t := 40) (by decide)] at h2
    omega
  · rw [z0 (t := 40) (by decide)] at h2
    omega
  · rw [z0 (t := 40) (by decide)] at h2
    omega
  · rw [z0 (t := 40) (by decide)]
    decide
  · rw [z0 (t := 40) (by decide)]
    decide
  · rw [z0 (t := 0) (by decide), z0 (t := 40) (by decide)]
  · rw [z0 (t := 0) (by decide)]
    decide
  · rw [z0 (t := 0) (by decide)]
    decide
  · rw [z0 (t := 40) (by decide)]
  · rw [z0 (t := 40) (by decide)] at h2
    omega
  · rw [z0 (t := 0) (by decide), z0 (t := 40) (by decide)]
  · rw [z0 (t := 40) (by decide)] at h
    exact absurd rfl h
