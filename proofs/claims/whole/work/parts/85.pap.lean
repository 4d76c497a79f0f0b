/-! paper on both -/
def fC (c : Int → Int) (m : Int) : Nat → Int → Int
  | 0, _ => -1
  | d + 1, i => if c (6 * (12 * m + i)) = 0 then i else fC c m d (i + 1)
def vA (c : Int → Int) (m f a : Int) : Nat → Int
  | 0 => 0
  | e + 1 => if c (6 * (12 * m + (f + 1 + e))) = 2 ∧ c (6 * (12 * m + (f + 1 + e)) + 2) = a then c (6 * (12 * m + (f + 1 + e)) + 5) else vA c m f a e
def pM1 (c : Int → Int) (m f : Int) (e : Nat) (w : Int) : Int := if c (6 * (12 * m + (f + 1 + e))) = 2 then mAdd w (c (6 * (12 * m + (f + 1 + e)) + 2)) (c (6 * (12 * m + (f + 1 + e)) + 3)) (c (6 * (12 * m + (f + 1 + e)) + 4)) else if c (6 * (12 * m + (f + 1 + e))) = 3 then mExt w (vA c m f (c (6 * (12 * m + (f + 1 + e)) + 2)) e) else w
def pM (c : Int → Int) (m f : Int) : Nat → Nat → Int → Int
  | 0, _, w => w
  | d + 1, e, w => pM c m f d (e + 1) (pM1 c m f e w)
def papV (c : Int → Int) (m len : Int) : Int := if fC c m len.toNat 0 = -1 then -1000000 else pM c m (fC c m len.toNat 0) (len - fC c m len.toNat 0 - 1).toNat 0 (wr (7 + c (6 * (12 * m + fC c m len.toNat 0) + 1)))
theorem fC_in {c : Int → Int} {m : Int} : ∀ (d : Nat) (i : Int), fC c m d i = -1 ∨ (i ≤ fC c m d i ∧ fC c m d i < i + d)
  | 0, _ => Or.inl rfl
  | d + 1, i => by
    unfold fC
    have r := fC_in (c := c) (m := m) d (i + 1)
    split <;> omega
section PAP
variable {σ s : ST} {P : MP} {m : Int}
theorem S_sort (hs : SCi σ) (hm : 0 ≤ m ∧ m < σ 40 0 0 14) {i : Int} (hi : 0 ≤ i ∧ i < σ 45 0 0 m) : PU m_Script_told [.inr (.inr (5, m, 0)), .inl i, .inl 0] σ (σ 44 0 0 (6 * (12 * m + i))) := (S_told hs hm hi (w := 0) (by omega)).to (by rw [Int.add_zero])
theorem Z_sort (hs : SCi σ) (hm : 0 ≤ m ∧ m < σ 40 0 0 14) {i : Int} (hi : 0 ≤ i ∧ i < σ 45 0 0 m) : PU m_Z_stepOf [zz, .inl m, .inl i, .inl 0] σ (σ 44 0 0 (6 * (12 * m + i))) := (Z_stepOf hs hm hi (w := 0) (by omega)).to (by rw [Int.add_zero])
theorem L_fC (hs : SCi σ) (hm : 0 ≤ m ∧ m < σ 40 0 0 14) {Q : Option AV → ST → Prop} : ∀ (d : Nat) (i : Int), i + d = σ 45 0 0 m → 0 ≤ i → Q (some (.inl (fC (σ 44 0 0) m d i))) σ → wp m_Script_firstCreate (2, [some (.inr (.inr (5, m, 0))), some (.inl i)], [], σ) Q
  | d, i, hd, i0, hQ => by
    have ln := hs.len m hm.1 hm.2
    refine T_Script_firstCreate_2 _ _ _ _ _ ?_
    rw [ln.1]
    match d, hd, hQ with
    | 0, hd, hQ => exact And.intro (fun _ => hQ) (fun q => absurd (show σ 45 0 0 m ≤ i by omega) q)
    | d + 1, hd, hQ =>
      unfold fC at hQ
      refine And.intro (fun q => absurd q (by omega)) (fun _ => ?_)
      refine PU.I (S_sort hs hm ⟨i0, by omega⟩) ?_
      refine And.intro (fun q => ?_) (fun q => ?_)
      · rw [if_neg q] at hQ
        rw [wr_id (by omega)]
        exact L_fC hs hm d (i + 1) (by omega) (by omega) hQ
      · rw [if_pos (Classical.not_not.1 q)] at hQ
        exact hQ
theorem L_vA (hs : SCi σ) (hm : 0 ≤ m ∧ m < σ 40 0 0 14) {f x : Int} (hf : 0 ≤ f) (hx : 0 ≤ x ∧ x < σ 45 0 0 m) {Q : Option AV → ST → Prop} : ∀ (e : Nat), f + 1 + e ≤ x → Q (some (.inl (vA (σ 44 0 0) m f (σ 44 0 0 (6 * (12 * m + x) + 2)) e))) σ → wp m_Script_valueAhead (4, [some (.inr (.inr (5, m, 0))), some (.inl f), some (.inl x), some (.inl (f + e))], [], σ) Q
  | e, he, hQ => by
    have ln := hs.len m hm.1 hm.2
    refine T_Script_valueAhead_4 _ _ _ _ _ _ _ ?_
    match e, he, hQ with
    | 0, he, hQ => exact And.intro (fun _ => hQ) (fun q => absurd (show f + ((0 : Nat) : Int) ≤ f by omega) q)
    | e + 1, he, hQ =>
      unfold vA at hQ
      rw [show f + ((e + 1 : Nat) : Int) = f + 1 + e by omega]
      refine And.intro (fun q => absurd q (by omega)) (fun _ => ?_)
      have hi : 0 ≤ f + 1 + (e : Int) ∧ f + 1 + (e : Int) < σ 45 0 0 m := by omega
      have nx : wr (f + 1 + (e : Int) + (-1)) = f + e := by rw [wr_id (by omega)]; omega
      refine PU.I (S_sort hs hm hi) ?_
      rw [nx]
      refine And.intro (fun q => ?_) (fun q => ?_)
      · rw [if_neg (fun z => q z.1)] at hQ
        exact L_vA hs hm hf hx e (by omega) hQ
      · refine PU.I (S_told hs hm hi (w := 2) (by omega)) ?_
        refine PU.I (S_told hs hm hx (w := 2) (by omega)) ?_
        refine And.intro (fun q2 => ?_) (fun q2 => ?_)
        · rw [if_neg (fun z => q2 z.2)] at hQ
          exact L_vA hs hm hf hx e (by omega) hQ
        · refine PU.I (S_told hs hm hi (w := 5) (by omega)) ?_
          rw [if_pos ⟨Classical.not_not.1 q, Classical.not_not.1 q2⟩] at hQ
          exact hQ
theorem P_Ahead (hs : SCi σ) (hm : 0 ≤ m ∧ m < σ 40 0 0 14) {f : Int} (hf : 0 ≤ f) (e : Nat) (he : f + 1 + e < σ 45 0 0 m) : PU m_Script_valueAhead [.inr (.inr (5, m, 0)), .inl f, .inl (f + 1 + e)] σ (vA (σ 44 0 0) m f (σ 44 0 0 (6 * (12 * m + (f + 1 + e)) + 2)) e) := by
  have ln := hs.len m hm.1 hm.2
  refine PU.mk fun Q hQ => T_Script_valueAhead _ _ _ _ _ _ ?_
  rw [wr_id (by omega), show f + 1 + (e : Int) - 1 = f + e by omega]
  exact L_vA hs hm hf ⟨by omega, he⟩ e (by omega) (hQ _ rfl)
theorem L_pM (hs : SCi σ) (hm : 0 ≤ m ∧ m < σ 40 0 0 14) {f : Int} (hf : 0 ≤ f) {Q : Option AV → ST → Prop} : ∀ (d e : Nat) (w : Int) (o4 : Option AV), f + 1 + e + d = σ 45 0 0 m → Q (some (.inl (pM (σ 44 0 0) m f d e w))) σ → wp m_Script_paperMeasure (27, [some (.inr (.inr (5, m, 0))), some (.inl f), some (.inl w), some (.inl (f + 1 + e)), o4], [], σ) Q
  | d, e, w, o4, hd, hQ => by
    have ln := hs.len m hm.1 hm.2
    refine T_Script_paperMeasure_27 _ _ _ _ _ _ _ _ ?_
    rw [ln.1]
    match d, hd, hQ with
    | 0, hd, hQ => exact And.intro (fun _ => hQ) (fun q => absurd (show σ 45 0 0 m ≤ f + 1 + (e : Int) by omega) q)
    | d + 1, hd, hQ =>
      unfold pM at hQ
      have hi : 0 ≤ f + 1 + (e : Int) ∧ f + 1 + (e : Int) < σ 45 0 0 m := by omega
      have nx : wr (f + 1 + (e : Int) + 1) = f + 1 + ((e + 1 : Nat) : Int) := by rw [wr_id (by omega)]; omega
      refine And.intro (fun q => absurd q (by omega)) (fun _ => ?_)
      refine PU.I (S_sort hs hm hi) ?_
      refine And.intro (fun q => ?_) (fun q => ?_)
      · refine T_Script_paperMeasure_72 _ _ _ _ _ _ _ _ ?_
        rw [nx]
        unfold pM1 at hQ
        rw [if_neg q] at hQ
        refine And.intro (fun q3 => ?_) (fun q3 => ?_)
        · rw [if_neg q3] at hQ
          exact L_pM hs hm hf d (e + 1) _ _ (by omega) hQ
        · rw [if_pos (Classical.not_not.1 q3)] at hQ
          refine PU.I (P_Ahead hs hm hf e hi.2) ?_
          refine PU.I (C_X_ext _ _ _) ?_
          exact L_pM hs hm hf d (e + 1) _ _ (by omega) hQ
      · refine PU.I (S_told hs hm hi (w := 2) (by omega)) ?_
        refine PU.I (S_told hs hm hi (w := 3) (by omega)) ?_
        refine PU.I (S_told hs hm hi (w := 4) (by omega)) ?_
        refine PU.I (C_X_add _ _ _ _ _) ?_
        refine T_Script_paperMeasure_72 _ _ _ _ _ _ _ _ ?_
        rw [nx]
        unfold pM1 at hQ
        rw [if_pos (Classical.not_not.1 q)] at hQ
        exact And.intro (fun _ => L_pM hs hm hf d (e + 1) _ _ (by omega) hQ) (fun q3 => absurd q3 (by omega))
theorem X_rd_paper (hs : SCi σ) (m : Int) : PU m_X_paper [xx, .inl m] σ (if 0 ≤ m ∧ m < σ 40 0 0 14 then papV (σ 44 0 0) m (σ 45 0 0 m) else -1000000) := by
  refine PU.mk fun Q hQ => T_X_paper _ _ _ _ _ ?_
  refine PU.I (X_isScript hs m) ?_
  by_cases hm : 0 ≤ m ∧ m < σ 40 0 0 14
  · have c1 := hs.c1
    have ln := hs.len m hm.1 hm.2
    have fi := fC_in (c := σ 44 0 0) (m := m) (σ 45 0 0 m).toNat 0
    rw [if_pos hm] at hQ
    refine And.intro (fun _ => And.intro ⟨by omega, by omega⟩ ?_) (fun q => absurd q (by rw [← b2_h hm]; decide))
    refine T_Script_paperMeasure _ _ _ _ ?_
    refine T_Script_firstCreate _ _ _ _ ?_
    refine L_fC hs hm (σ 45 0 0 m).toNat 0 (by omega) (by omega) ?_
    unfold papV at hQ
    refine And.intro (fun q => ?_) (fun q => ?_)
    · rw [if_neg q] at hQ
      refine PU.I (S_told hs hm (i := fC (σ 44 0 0) m (σ 45 0 0 m).toNat 0) (by omega) (w := 1) (by omega)) ?_
      rw [wr_id (x := fC (σ 44 0 0) m (σ 45 0 0 m).toNat 0 + 1) (by omega), show fC (σ 44 0 0) m (σ 45 0 0 m).toNat 0 + 1 = fC (σ 44 0 0) m (σ 45 0 0 m).toNat 0 + 1 + ((0 : Nat) : Int) by omega]
      exact L_pM hs hm (by omega) _ 0 _ _ (by omega) (hQ _ rfl)
    · rw [if_pos (Classical.not_not.1 q)] at hQ
      exact hQ _ rfl
  · rw [if_neg hm] at hQ
    exact And.intro (fun q => absurd (b2_l hm).symm q) (fun _ => hQ _ rfl)
end PAP
