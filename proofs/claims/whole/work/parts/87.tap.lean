/-! the tape: bytes of a number; end on both -/
theorem sh_same {x h : Int} (hh : h = 0 ∨ h = 8 ∨ h = 16 ∨ h = 24) : i_and (i_ush x h) 255 = i_and (i_shr x h) 255 := by
  have key : ∀ n : Nat, n < 25 → i_and (i_ush x (n : Int)) 255 = i_and (i_shr x (n : Int)) 255 := by
    intro n hn
    have e1 : Int32.ofInt (n : Int) = nI n := by
      rw [Int32.ofInt_eq_ofNat]
      rfl
    unfold i_and i_ush i_shr
    rw [n_bk, n_bk, e1, show Int32.ofInt 255 = 255 from rfl]
    refine congrArg Int32.toInt (b_ext (fun i hi => ?_))
    rw [b_and, b_and, b_255]
    by_cases h8 : i < 8
    · have a := b_ushr n (by omega) (Int32.ofInt x) i
      have b := b_sshr n (by omega) (Int32.ofInt x) hi
      rw [if_pos (by omega)] at b
      rw [b]
      exact congrArg (fun z => z && decide (i < 8)) a
    · rw [decide_eq_false h8, Bool.and_false, Bool.and_false]
  rcases hh with rfl | rfl | rfl | rfl
  · exact key 0 (by omega)
  · exact key 8 (by omega)
  · exact key 16 (by omega)
  · exact key 24 (by omega)
section TAP
variable {σ s : ST} {P : MP} {g : Int → Int} {n : Int}
theorem IVg.keept (hI : IVg σ P g n) (fr : ∀ (t : Nat) (k i x : Int), ¬ (t = 1 ∨ t = 2 ∨ t = 3 ∨ t = 4 ∨ ((t = 5 ∨ t = 6) ∧ k = 4) ∨ t = 41 ∨ t = 42 ∨ (t = 40 ∧ x ≠ 11 ∧ x ≠ 14 ∧ x ≠ 18 ∧ x ≠ 23) ∨ (t = 44 ∧ 288 ≤ x) ∨ (t = 45 ∧ 4 ≤ x)) → s t k i x = σ t k i x) (ht : TPi s) : IVg s P g n := by
  have le := hI.w.n.le
  exact ⟨hI.z.keepo (fun x => fr _ _ _ _ (by omega)) (fun x => fr _ _ _ _ (by omega)) (fr _ _ _ _ (by omega)), hI.x.keepo (fun t i x a b => fr _ _ _ _ (by omega)), hI.w, hI.m.keep (fr _ _ _ _ (by omega)) (fun x => fr _ _ _ _ (by omega)) (fun x => fr _ _ _ _ (by omega)), fun i a b => by rw [fr _ _ _ _ (by omega), fr _ _ _ _ (by omega)]; exact hI.r.eq i a b, ht, hI.s.keep (fr _ _ _ _ (by omega)) (fr _ _ _ _ (by omega)) (fun m a b => fr _ _ _ _ (by omega)) (fun m x a b => fr _ _ _ _ (by omega)) (fun x a => fr _ _ _ _ (by omega)) (fun x a => fr _ _ _ _ (by omega)), hI.u.keep (by omega) le (fr _ _ _ _ (by omega)) (fr _ _ _ _ (by omega)) (fr _ _ _ _ (by omega)) (fun x => fr _ _ _ _ (by omega)) (fun t k i x a b c d => fr _ _ _ _ (by omega)), hI.i.keep (by omega) le (fr _ _ _ _ (by omega)) (fr _ _ _ _ (by omega)) (fun x => fr _ _ _ _ (by omega)) (fun t i x a b => fr _ _ _ _ (by omega))⟩
theorem PR_end (x : Int) : PRf m_X_end m_Z_end [.inl x] := by
  intro σ n hI hn F K
  obtain ⟨P, g, h⟩ := hI
  have tl := h.t.len
  have t0 := h.t.l0
  have t1 := h.t.l1
  have tb := h.t.byt
  have neg : ¬ (0 ≤ x ∧ x ≤ σ 40 0 0 2) → wpM m_Z_end [zz, .inl x] σ (asI fun r' s' => F 0 r' s') := by
    intro hk
    refine T_Z_end _ _ _ _ _ ?_
    refine PU.I (P_Z_in _ _ _ _) ?_
    exact And.intro (fun q => absurd (b2_l hk).symm q) (fun _ => And.intro (Or.inl rfl) (K 0 σ ⟨P, g, h.mono (by omega) (by omega)⟩))
  refine T_X_end _ _ _ _ _ ?_
  rw [tl]
  refine And.intro (fun q => And.intro (Or.inl rfl) (neg (by omega))) (fun q1 => And.intro (fun q2 => And.intro (Or.inr rfl) ?_) (fun q => And.intro (Or.inl rfl) (neg (by omega))))
  show wpM m_Z_end _ _ _
  refine T_Z_end _ _ _ _ _ ?_
  have e2 : up σ 1 0 0 0 x 40 0 0 2 = σ 40 0 0 2 := up_o (by decide)
  rw [e2]
  refine PU.I (P_Z_in _ _ _ _) ?_
  refine And.intro (fun _ => And.intro (Or.inr rfl) ?_) (fun q => absurd q (by rw [← b2_h (show 0 ≤ x ∧ x ≤ σ 40 0 0 2 by omega)]; decide))
  refine K _ _ ⟨P, g, IVg.mono (h.keept (fun t k i x hn => by rw [show up (up σ 1 0 0 0 _) 40 0 0 2 _ t k i x = up σ 1 0 0 0 _ t k i x by (unfold up; rw [if_neg (by omega)])]; exact up_o (by omega)) ?_) (by omega) (by omega)⟩
  refine ⟨?_, ?_, ?_, fun i a b => ?_⟩
  · rw [up_o (by decide), up_s, if_pos rfl, up_s, if_pos rfl]
  · rw [up_s, if_pos rfl]; omega
  · rw [up_s, if_pos rfl]; omega
  · rw [up_s, if_pos rfl] at b
    rw [up_o (by decide), up_o (by decide), up_o (by decide), up_o (by decide)]
    exact tb i a (by omega)
end TAP
