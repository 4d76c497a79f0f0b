/-! fault on both; what reading may write -/
def hT (σ : ST) : Int → Int := fun x => if x < σ 40 0 0 2 then σ 41 0 0 x else -1
section PFA
variable {σ s : ST} {P : MP} {g : Int → Int} {n : Int}
theorem TPi.HH (t : TPi σ) : HH (hT σ) (σ 40 0 0 2) := by
  refine ⟨t.l0, t.l1, fun x hx => if_neg (by omega), fun x a b => ?_⟩
  unfold hT
  rw [if_pos b]
  exact (t.byt x a b).2
theorem TPi.hx (t : TPi σ) : ∀ x, 0 ≤ x → x < σ 40 0 0 2 → σ 2 0 0 x = hT σ x := fun x a b => by
  unfold hT
  rw [if_pos b]
  exact (t.byt x a b).1
theorem TPi.hz (t : TPi σ) : ∀ x, 0 ≤ x → x < σ 40 0 0 2 → σ 41 0 0 x = hT σ x := fun x a b => by
  unfold hT
  rw [if_pos b]
theorem X_f0 (t : TPi σ) {F : Int → ST → Prop} (K : ∀ s', Fc σ s' → ((maV (hT σ)).1 = -1 → ∀ k, 0 ≤ k → k < 4 → s' 3 0 0 k = (maV (hT σ)).2 k) → F (maV (hT σ)).1 s') : wpM m_Tape_faultAs [tp, .inl 0] σ (asI F) := C_fault0 t.HH t.len t.hx K
theorem X_f1 (t : TPi σ) {F : Int → ST → Prop} (K : ∀ s', Fc σ s' → ((scV (hT σ)).1 = -1 → s' 5 4 0 0 = (scV (hT σ)).2.1 ∧ ∀ y, 0 ≤ y → y < 6 * (scV (hT σ)).2.1 → s' 6 4 0 y = (scV (hT σ)).2.2 y) → F (scV (hT σ)).1 s') : wpM m_Tape_faultAs [tp, .inl 1] σ (asI F) := C_fault1 t.HH t.len t.hx K
theorem Z_f0 (t : TPi σ) (e0 : s 40 0 0 2 = σ 40 0 0 2) (eb : ∀ x, s 41 0 0 x = σ 41 0 0 x) {F : Int → ST → Prop} (K : ∀ s', Fz s s' → ((maV (hT σ)).1 = -1 → ∀ k, 0 ≤ k → k < 4 → s' 42 0 0 k = (maV (hT σ)).2 k) → F (maV (hT σ)).1 s') : wpM m_Z_readMachine [zz] s (asI F) := Z_rmach t.HH e0 (fun x a b => (eb x).trans (t.hz x a b)) K
theorem Z_f1 (t : TPi σ) {m : Int} (m0 : 0 ≤ m) (m1 : m < 5) (e0 : s 40 0 0 2 = σ 40 0 0 2) (eb : ∀ x, s 41 0 0 x = σ 41 0 0 x) {F : Int → ST → Prop} (K : ∀ s', Fy m s s' → ((scV (hT σ)).1 = -1 → s' 45 0 0 m = (scV (hT σ)).2.1 ∧ ∀ y, 0 ≤ y → y < 6 * (scV (hT σ)).2.1 → s' 44 0 0 (72 * m + y) = (scV (hT σ)).2.2 y) → F (scV (hT σ)).1 s') : wpM m_Z_readScript [zz, .inl m] s (asI F) := Z_rscr t.HH m0 m1 e0 (fun x a b => (eb x).trans (t.hz x a b)) K
theorem PR_fault (x : Int) : PRf m_X_fault m_Z_fault [.inl x] := by
  intro σ n hI hn F K
  obtain ⟨P, g, h⟩ := hI
  have t0 := h.t
  refine T_X_fault _ _ _ _ _ ?_
  refine And.intro (fun q => ?_) (fun q => And.intro (fun q1 => ?_) (fun q1 => ?_))
  · subst q
    refine X_f0 t0 (fun s1 f1 _ => ?_)
    show wpM m_Z_fault _ _ _
    refine T_Z_fault _ _ _ _ _ ?_
    refine And.intro (fun q => absurd rfl q) (fun _ => ?_)
    refine Z_f0 t0 (f1 _ _ _ _ (by omega)) (fun y => f1 _ _ _ _ (by omega)) (fun s2 f2 _ => ?_)
    have f : ∀ (t : Nat) (k i x : Int), ¬ (t = 1 ∨ t = 3 ∨ t = 4 ∨ (t = 5 ∨ t = 6) ∧ k = 4 ∨ (t = 40 ∧ 3 ≤ x ∧ x ≤ 8) ∨ t = 42) → s2 t k i x = σ t k i x := fun t k i x hn => (f2 t k i x (by omega)).trans (f1 t k i x (by omega))
    exact K _ _ ⟨P, g, IVg.mono (h.keept (fun t k i x hn => f t k i x (by omega)) (t0.keep ((f2 _ _ _ _ (by omega)).trans (f1 _ _ _ _ (by omega))) (f _ _ _ _ (by omega)) (fun x => f _ _ _ _ (by omega)) (fun x => f _ _ _ _ (by omega)))) (by omega) (by omega)⟩
  · subst q1
    refine X_f1 t0 (fun s1 f1 _ => ?_)
    show wpM m_Z_fault _ _ _
    refine T_Z_fault _ _ _ _ _ ?_
    refine And.intro (fun _ => And.intro (fun q => absurd rfl q) (fun _ => ?_)) (fun q => absurd (show (1 : Int) ≠ 0 by decide) q)
    refine Z_f1 t0 (by omega) (by omega) (f1 _ _ _ _ (by omega)) (fun y => f1 _ _ _ _ (by omega)) (fun s2 f2 _ => ?_)
    have f : ∀ (t : Nat) (k i x : Int), ¬ (t = 1 ∨ t = 3 ∨ t = 4 ∨ (t = 5 ∨ t = 6) ∧ k = 4 ∨ (t = 40 ∧ 3 ≤ x ∧ x ≤ 8) ∨ (t = 44 ∧ 288 ≤ x) ∨ (t = 45 ∧ 4 ≤ x)) → s2 t k i x = σ t k i x := fun t k i x hn => (f2 t k i x (by omega)).trans (f1 t k i x (by omega))
    exact K _ _ ⟨P, g, IVg.mono (h.keept (fun t k i x hn => f t k i x (by omega)) (t0.keep ((f2 _ _ _ _ (by omega)).trans (f1 _ _ _ _ (by omega))) (f _ _ _ _ (by omega)) (fun x => f _ _ _ _ (by omega)) (fun x => f _ _ _ _ (by omega)))) (by omega) (by omega)⟩
  · show wpM m_Z_fault _ _ _
    refine T_Z_fault _ _ _ _ _ ?_
    exact And.intro (fun _ => And.intro (fun _ => K _ _ ⟨P, g, h.mono (by omega) (by omega)⟩) (fun z => absurd q1 z)) (fun z => absurd q z)
end PFA
