/-! a world in which one room, one copy was written -/
abbrev SCp (k c : Int) : Nat → Int → Int → Prop := fun t k' q => (t = 25) ∧ k' = k ∧ q = c
theorem RW_room {σ σ' : ST} {k : Int} {P : MP} {g g' : Int → Int} {p : Int} (hw : RW σ k P g) (hn : ∀ c, isCo P c → co g c 4 ≤ 3) (h0 : 0 ≤ p) (h1 : p < 4) (ho : Off (SRm k p) σ σ') (hg : ∀ s, ¬ (110 + 23 * p ≤ s ∧ s < 110 + 23 * p + 23) → g' s = g s) (hp : RRm σ' k p g') : RW σ' k P g' := by
  have o : ∀ (t : Nat) (k' i s : Int), ¬ ((t = 17 ∨ t = 18 ∨ t = 19) ∧ k' = k ∧ i = p) → σ' t k' i s = σ t k' i s := ho
  have n : ∀ (t : Nat) (k' i s : Int), t ≠ 17 → t ≠ 18 → t ≠ 19 → σ' t k' i s = σ t k' i s := fun t k' i s a1 a2 a3 => o t k' i s (fun z => z.1.elim a1 (fun z => z.elim a2 a3))
  unfold RW
  rw [n 12 k 0 0 (by decide) (by decide) (by decide), n 12 k 0 1 (by decide) (by decide) (by decide), n 12 k 0 2 (by decide) (by decide) (by decide), n 12 k 0 3 (by decide) (by decide) (by decide), n 12 k 0 4 (by decide) (by decide) (by decide), hg 343 (by omega), hg 344 (by omega)]
  refine ⟨hw.ok, hw.np, hw.nc, hw.nh, hw.ver, hw.ser, fun q a b => ?_, fun r a b => ?_, fun c a b => ?_, fun c a b => ?_, ?_⟩
  · exact (hw.pg q a b).same (fun s => n 14 k q s (by decide) (by decide) (by decide)) (fun s => n 15 k q s (by decide) (by decide) (by decide)) (fun j x y => hg _ (by have := hw.ok.p1; omega))
  · by_cases e : r = p
    · rw [e]
      exact hp
    · exact (hw.rm r a b).same (fun s => o 17 k r s (fun z => e z.2.2)) (fun s => o 18 k r s (fun z => e z.2.2)) (fun s => o 19 k r s (fun z => e z.2.2)) (fun j x y => hg _ (by omega))
  · exact (hw.co c a b).same (hn c ⟨a, b⟩) (fun s => n 21 k c s (by decide) (by decide) (by decide)) (fun s => n 22 k c s (by decide) (by decide) (by decide)) (fun s => n 23 k c s (by decide) (by decide) (by decide)) (fun j x y => hg _ (by have := hw.ok.c1; omega))
  · exact (hw.cp c a b).same (fun s => n 25 k c s (by decide) (by decide) (by decide)) (fun j x y => hg _ (by omega))
  · have l := hw.lg
    unfold RLg
    rw [n 26 k 0 0 (by decide) (by decide) (by decide), n 26 k 0 1 (by decide) (by decide) (by decide), hg 345 (by omega)]
    refine ⟨l.len, l.l0, l.l1, l.n0, l.n1, fun i x y => ?_⟩
    rw [n 27 k 0 _ (by decide) (by decide) (by decide), n 28 k 0 _ (by decide) (by decide) (by decide), n 29 k 0 _ (by decide) (by decide) (by decide), hg (346 + 3 * (g 345 - 1 - i)) (by omega), hg (347 + 3 * (g 345 - 1 - i)) (by omega), hg (348 + 3 * (g 345 - 1 - i)) (by omega)]
    exact l.row i x y
theorem RW_copy {σ σ' : ST} {k : Int} {P : MP} {g g' : Int → Int} {p : Int} (hw : RW σ k P g) (hn : ∀ c, isCo P c → co g c 4 ≤ 3) (h0 : 0 ≤ p) (h1 : p < 12) (ho : Off (SCp k p) σ σ') (hg : ∀ s, ¬ (235 + 9 * p ≤ s ∧ s < 235 + 9 * p + 9) → g' s = g s) (hp : RCp σ' k p g') : RW σ' k P g' := by
  have o : ∀ (t : Nat) (k' i s : Int), ¬ ((t = 25) ∧ k' = k ∧ i = p) → σ' t k' i s = σ t k' i s := ho
  have n : ∀ (t : Nat) (k' i s : Int), t ≠ 25 → σ' t k' i s = σ t k' i s := fun t k' i s a1 => o t k' i s (fun z => a1 z.1)
  unfold RW
  rw [n 12 k 0 0 (by decide), n 12 k 0 1 (by decide), n 12 k 0 2 (by decide), n 12 k 0 3 (by decide), n 12 k 0 4 (by decide), hg 343 (by omega), hg 344 (by omega)]
  refine ⟨hw.ok, hw.np, hw.nc, hw.nh, hw.ver, hw.ser, fun q a b => ?_, fun r a b => ?_, fun c a b => ?_, fun c a b => ?_, ?_⟩
  · exact (hw.pg q a b).same (fun s => n 14 k q s (by decide)) (fun s => n 15 k q s (by decide)) (fun j x y => hg _ (by have := hw.ok.p1; omega))
  · exact (hw.rm r a b).same (fun s => n 17 k r s (by decide)) (fun s => n 18 k r s (by decide)) (fun s => n 19 k r s (by decide)) (fun j x y => hg _ (by omega))
  · exact (hw.co c a b).same (hn c ⟨a, b⟩) (fun s => n 21 k c s (by decide)) (fun s => n 22 k c s (by decide)) (fun s => n 23 k c s (by decide)) (fun j x y => hg _ (by have := hw.ok.c1; omega))
  · by_cases e : c = p
    · rw [e]
      exact hp
    · exact (hw.cp c a b).same (fun s => o 25 k c s (fun z => e z.2.2)) (fun j x y => hg _ (by omega))
  · have l := hw.lg
    unfold RLg
    rw [n 26 k 0 0 (by decide), n 26 k 0 1 (by decide), hg 345 (by omega)]
    refine ⟨l.len, l.l0, l.l1, l.n0, l.n1, fun i x y => ?_⟩
    rw [n 27 k 0 _ (by decide), n 28 k 0 _ (by decide), n 29 k 0 _ (by decide), hg (346 + 3 * (g 345 - 1 - i)) (by omega), hg (347 + 3 * (g 345 - 1 - i)) (by omega), hg (348 + 3 * (g 345 - 1 - i)) (by omega)]
    exact l.row i x y
