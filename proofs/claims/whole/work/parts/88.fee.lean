/-! feed: the bytes -/
def byF (x k : Int) : Int := i_and (i_shr x (24 - 8 * k)) 255
def byG (x1 x2 x3 x4 x5 j : Int) : Int := byF (if 4 ≤ j then (if 8 ≤ j then (if 12 ≤ j then (if 16 ≤ j then x5 else x4) else x3) else x2) else x1) (j % 4)
def cB (B : Int → Int) : Nat → Int → Int
  | 0, _ => 0
  | d + 1, j => (if B j = 0 then 0 else 1) + cB B d (j + 1)
def apF (B : Int → Int) : Nat → Int → (Int → Int) × Int → (Int → Int) × Int
  | 0, _, p => p
  | d + 1, j, p => apF B d (j + 1) (if B j = 0 then p else (put p.1 p.2 (B j), p.2 + 1))
theorem and_255 (z : Int) : 0 ≤ i_and z 255 ∧ i_and z 255 ≤ 255 := by
  have h1 : (Int32.ofInt z &&& Int32.ofInt 255).toBitVec.toNat ≤ 255 := by
    rw [Int32.toBitVec_and, BitVec.toNat_and]
    exact Nat.le_trans Nat.and_le_right (by decide)
  have h2 : (Int32.ofInt z &&& Int32.ofInt 255).toBitVec.toInt = ((Int32.ofInt z &&& Int32.ofInt 255).toBitVec.toNat : Int) := BitVec.toInt_eq_toNat_of_lt (by omega)
  have h3 : i_and z 255 = (Int32.ofInt z &&& Int32.ofInt 255).toBitVec.toInt := rfl
  omega
theorem byF_in (x k : Int) : 0 ≤ byF x k ∧ byF x k ≤ 255 := and_255 _
theorem byG_in (x1 x2 x3 x4 x5 j : Int) : 0 ≤ byG x1 x2 x3 x4 x5 j ∧ byG x1 x2 x3 x4 x5 j ≤ 255 := byF_in _ _
theorem cB_in {B : Int → Int} : ∀ (d : Nat) (j : Int), 0 ≤ cB B d j ∧ cB B d j ≤ d
  | 0, _ => ⟨by unfold cB; omega, by unfold cB; omega⟩
  | d + 1, j => by
    have r := cB_in (B := B) d (j + 1)
    unfold cB
    split <;> omega
theorem cB_add {B : Int → Int} (b : Nat) : ∀ (a : Nat) (j : Int), cB B (a + b) j = cB B a j + cB B b (j + a)
  | 0, j => by rw [Nat.zero_add, show j + ((0 : Nat) : Int) = j by omega]; unfold cB; (cases b <;> (try unfold cB) <;> omega)
  | a + 1, j => by
    have r := cB_add (B := B) b a (j + 1)
    rw [show a + 1 + b = (a + b) + 1 by omega, show j + ((a + 1 : Nat) : Int) = j + 1 + a by omega]
    show (if B j = 0 then 0 else 1) + cB B (a + b) (j + 1) = (if B j = 0 then 0 else 1) + cB B a (j + 1) + cB B b (j + 1 + a)
    rw [r]; omega
theorem cB_ext {B C : Int → Int} (k : Int) : ∀ (d : Nat) (j : Int), (∀ i, j ≤ i → i < j + d → B (i + k) = C i) → cB B d (j + k) = cB C d j
  | 0, _, _ => rfl
  | d + 1, j, h => by
    have r := cB_ext k d (j + 1) (fun i a b => h i (by omega) (by omega))
    unfold cB
    rw [h j (by omega) (by omega), show j + k + 1 = j + 1 + k by omega, r]
theorem apF_add {B : Int → Int} (b : Nat) : ∀ (a : Nat) (j : Int) (p : (Int → Int) × Int), apF B (a + b) j p = apF B b (j + a) (apF B a j p)
  | 0, j, p => by rw [Nat.zero_add, show j + ((0 : Nat) : Int) = j by omega]; rfl
  | a + 1, j, p => by
    have r := apF_add (B := B) b a (j + 1) (if B j = 0 then p else (put p.1 p.2 (B j), p.2 + 1))
    rw [show a + 1 + b = (a + b) + 1 by omega, show j + ((a + 1 : Nat) : Int) = j + 1 + a by omega]
    exact r
theorem apF_ext {B C : Int → Int} (k : Int) : ∀ (d : Nat) (j : Int) (p : (Int → Int) × Int), (∀ i, j ≤ i → i < j + d → B (i + k) = C i) → apF B d (j + k) p = apF C d j p
  | 0, _, _, _ => rfl
  | d + 1, j, p, h => by
    have r := fun p => apF_ext k d (j + 1) p (fun i a b => h i (by omega) (by omega))
    unfold apF
    rw [h j (by omega) (by omega), show j + k + 1 = j + 1 + k by omega, r]
theorem apF_2 {B : Int → Int} : ∀ (d : Nat) (j : Int) (p : (Int → Int) × Int), (apF B d j p).2 = p.2 + cB B d j
  | 0, _, p => by show p.2 = p.2 + 0; omega
  | d + 1, j, p => by
    have r := apF_2 (B := B) d (j + 1) (if B j = 0 then p else (put p.1 p.2 (B j), p.2 + 1))
    unfold apF cB
    rw [r]
    by_cases h : B j = 0
    · rw [if_pos h, if_pos h]; omega
    · rw [if_neg h, if_neg h]
      show p.2 + 1 + _ = _
      omega
section FEE
variable {σ s : ST}
theorem L_bytesOf {x : Int} {Q : Option AV → ST → Prop} : ∀ (d : Nat) (k w : Int), k + d = 4 → 0 ≤ k → 0 ≤ w ∧ w ≤ k → Q (some (.inl (w + cB (byF x) d k))) σ → wp m_X_bytesOf (5, [some (.inl x), some (.inl w), some (.inl (24 - 8 * k))], [], σ) Q
  | d, k, w, hd, k0, hw, hQ => by
    refine T_X_bytesOf_5 _ _ _ _ _ ?_
    match d, hd, hQ with
    | 0, hd, hQ =>
      rw [show w + cB (byF x) 0 k = w from Int.add_zero w] at hQ
      exact And.intro (fun _ => hQ) (fun q => absurd (show 24 - 8 * k < 0 by omega) q)
    | d + 1, hd, hQ =>
      unfold cB at hQ
      refine And.intro (fun q => absurd q (by omega)) (fun _ => ?_)
      rw [sh_same (by omega), wr_id (x := 24 - 8 * k + -8) (by omega), show 24 - 8 * k + -8 = 24 - 8 * (k + 1) by omega]
      have e : i_and (i_shr x (24 - 8 * k)) 255 = byF x k := rfl
      rw [e]
      refine And.intro (fun q => ?_) (fun q => ?_)
      · rw [if_pos q] at hQ
        exact L_bytesOf d (k + 1) w (by omega) (by omega) (by omega) (by rw [show w + cB (byF x) d (k + 1) = w + (0 + cB (byF x) d (k + 1)) by omega]; exact hQ)
      · rw [if_neg q] at hQ
        rw [wr_id (by omega)]
        exact L_bytesOf d (k + 1) (w + 1) (by omega) (by omega) (by omega) (by rw [show w + 1 + cB (byF x) d (k + 1) = w + (1 + cB (byF x) d (k + 1)) by omega]; exact hQ)
theorem P_bytesOf (x : Int) (σ : ST) : PU m_X_bytesOf [.inl x] σ (cB (byF x) 4 0) := by
  refine PU.mk fun Q hQ => T_X_bytesOf _ _ _ ?_
  exact L_bytesOf 4 0 0 (by omega) (by omega) (by omega) (hQ _ (by omega))
theorem P_byteOf (x1 x2 x3 x4 x5 : Int) {j : Int} (h0 : 0 ≤ j) (h1 : j < 20) (σ : ST) : PU m_Z_byteOf [.inl x1, .inl x2, .inl x3, .inl x4, .inl x5, .inl j] σ (byG x1 x2 x3 x4 x5 j) := by
  refine PU.mk fun Q hQ => T_Z_byteOf _ _ _ _ _ _ _ _ ?_
  have er : i_rem j 4 = j % 4 := by rw [i_rem_eq ⟨by omega, by omega⟩ (by omega) (by omega), Int.tmod_eq_emod_of_nonneg h0]
  have ew : wr (24 - wr (8 * i_rem j 4)) = 24 - 8 * (j % 4) := by rw [er, wr_id (x := 8 * (j % 4)) (by omega), wr_id (by omega)]
  have fin : ∀ t, byG x1 x2 x3 x4 x5 j = byF t (j % 4) → wp m_Z_byteOf (45, [some (.inl x1), some (.inl x2), some (.inl x3), some (.inl x4), some (.inl x5), some (.inl j), none], [.inl t], σ) Q := by
    intro t e
    refine T_Z_byteOf_45 _ _ _ _ _ _ _ _ _ _ ?_
    rw [ew]
    exact And.intro (by decide) (hQ _ e.symm)
  unfold byG at fin
  refine And.intro (fun q => And.intro (fun q2 => And.intro (fun q3 => And.intro (fun q4 => ?_) (fun q4 => ?_)) (fun q3 => ?_)) (fun q2 => ?_)) (fun q => ?_)
  · rw [if_pos q, if_pos q2, if_pos q3, if_pos q4] at fin; exact fin _ rfl
  · rw [if_pos q, if_pos q2, if_pos q3, if_neg q4] at fin; exact fin _ rfl
  · rw [if_pos q, if_pos q2, if_neg q3] at fin; exact fin _ rfl
  · rw [if_pos q, if_neg q2] at fin; exact fin _ rfl
  · rw [if_neg q] at fin; exact fin _ rfl
end FEE
