/-! sets, sums and the rest that is told of all, on both -/
section RDB
variable {σ : ST} {k : Int} {P : MP} {g : Int → Int} {n : Int}
theorem L_Z_freeSet (hz : ZS σ P g) (Q : Option AV → ST → Prop) : ∀ (n : Nat) (i a : Int), i + n = P.np → 0 ≤ i → in32 a → (∀ x, x = bf (fun p => pg g p 0 = 0) n i a → Q (some (.inl x)) σ) → wp m_Z_freeSet (4, [some zz, some (.inl a), some (.inl i)], [], σ) Q
  | 0, i, a, h, h0, ha, hQ => by
    have e0 := hz.np
    have e1 := hz.nc
    refine T_Z_freeSet_4 _ _ _ _ _ _ ?_
    (repeat' (first | (refine And.intro ?_ ?_) | (intro hzq; simp only [b2_e0, b2_e1, Classical.not_not, ne_eq] at hzq) | (intro hzq) | exact Or.inl rfl | exact Or.inr rfl)) <;> try omega
    exact hQ _ rfl
  | n + 1, i, a, h, h0, ha, hQ => by
    have e0 := hz.np
    have e1 := hz.nc
    have e2 := hz.ok.p1
    have e3 := hz.ok.c1
    refine T_Z_freeSet_4 _ _ _ _ _ _ ?_
    rw [i_or_0 ha]
    (repeat' (first | (refine And.intro ?_ ?_) | (intro hzq; simp only [b2_e0, b2_e1, Classical.not_not, ne_eq] at hzq) | (intro hzq) | exact Or.inl rfl | exact Or.inr rfl | refine PU.I (P_Z_ofPage hz (by omega) (by omega) (by omega) (by omega)) ?_)) <;> try omega
    all_goals (simp (disch := omega) only [wr_id]; first | exact L_Z_freeSet hz Q n (i + 1) _ (by omega) (by omega) (i_or_32 _ _) (fun x e => hQ x (by rw [e, bf_y (by omega)])) | exact L_Z_freeSet hz Q n (i + 1) _ (by omega) (by omega) ha (fun x e => hQ x (by rw [e, bf_n (by omega)])))
theorem P_Z_freeSet (hz : ZS σ P g) : PU m_Z_freeSet [zz] σ (bf (fun p => pg g p 0 = 0) P.np.toNat 0 0) := by
  have e1 := hz.ok.c0
  have e2 := hz.ok.p0
  exact PU.mk fun Q hQ => T_Z_freeSet _ _ _ _ (L_Z_freeSet hz Q (P.np.toNat) 0 0 (by omega) (by omega) in32_0 hQ)
theorem L_W_freePages (hw : RW σ k P g) (Q : Option AV → ST → Prop) : ∀ (n : Nat) (i a : Int), i + n = P.np → 0 ≤ i → in32 a → (∀ x, x = bf (fun p => pg g p 0 = 0) n i a → Q (some (.inl x)) σ) → wp m_World_freePages (4, [some (ww k), some (.inl a), some (.inl i)], [], σ) Q
  | 0, i, a, h, h0, ha, hQ => by
    have e0 := hw.np
    have e1 := hw.nc
    refine T_World_freePages_4 _ _ _ _ _ _ ?_
    (repeat' (first | (refine And.intro ?_ ?_) | (intro hzq; simp only [b2_e0, b2_e1, Classical.not_not, ne_eq] at hzq) | (intro hzq) | exact Or.inl rfl | exact Or.inr rfl)) <;> try omega
    exact hQ _ rfl
  | n + 1, i, a, h, h0, ha, hQ => by
    have e0 := hw.np
    have e1 := hw.nc
    have e2 := hw.ok.p1
    have e3 := hw.ok.c1
    have e4 := (hw.pg i (by omega) (by omega)).kind
    refine T_World_freePages_4 _ _ _ _ _ _ ?_
    (repeat' (first | (refine And.intro ?_ ?_) | (intro hzq; simp only [b2_e0, b2_e1, Classical.not_not, ne_eq] at hzq) | (intro hzq) | exact Or.inl rfl | exact Or.inr rfl | refine PU.I (P_W_isPage hw _) ?_)) <;> try omega
    all_goals (simp (disch := omega) only [wr_id]; first | exact L_W_freePages hw Q n (i + 1) _ (by omega) (by omega) (i_or_32 _ _) (fun x e => hQ x (by rw [e, bf_y (by omega)])) | exact L_W_freePages hw Q n (i + 1) _ (by omega) (by omega) ha (fun x e => hQ x (by rw [e, bf_n (by omega)])))
theorem P_W_freePages (hw : RW σ k P g) : PU m_World_freePages [ww k] σ (bf (fun p => pg g p 0 = 0) P.np.toNat 0 0) := by
  have e1 := hw.ok.c0
  have e2 := hw.ok.p0
  exact PU.mk fun Q hQ => T_World_freePages _ _ _ _ (L_W_freePages hw Q (P.np.toNat) 0 0 (by omega) (by omega) in32_0 hQ)
theorem L_Z_roomSet (hz : ZS σ P g) (Q : Option AV → ST → Prop) : ∀ (n : Nat) (i a : Int), i + n = 4 → 0 ≤ i → in32 a → (∀ x, x = bf (fun r => rm g r 0 = 1) n i a → Q (some (.inl x)) σ) → wp m_Z_roomSet (4, [some zz, some (.inl a), some (.inl i)], [], σ) Q
  | 0, i, a, h, h0, ha, hQ => by
    have e0 := hz.np
    have e1 := hz.nc
    refine T_Z_roomSet_4 _ _ _ _ _ _ ?_
    (repeat' (first | (refine And.intro ?_ ?_) | (intro hzq; simp only [b2_e0, b2_e1, Classical.not_not, ne_eq] at hzq) | (intro hzq) | exact Or.inl rfl | exact Or.inr rfl)) <;> try omega
    exact hQ _ rfl
  | n + 1, i, a, h, h0, ha, hQ => by
    have e0 := hz.np
    have e1 := hz.nc
    have e2 := hz.ok.p1
    have e3 := hz.ok.c1
    refine T_Z_roomSet_4 _ _ _ _ _ _ ?_
    rw [i_or_0 ha]
    (repeat' (first | (refine And.intro ?_ ?_) | (intro hzq; simp only [b2_e0, b2_e1, Classical.not_not, ne_eq] at hzq) | (intro hzq) | exact Or.inl rfl | exact Or.inr rfl | refine PU.I (P_Z_isRoom hz _) ?_)) <;> try omega
    all_goals (simp (disch := omega) only [wr_id]; first | exact L_Z_roomSet hz Q n (i + 1) _ (by omega) (by omega) (i_or_32 _ _) (fun x e => hQ x (by rw [e, bf_y (by omega)])) | exact L_Z_roomSet hz Q n (i + 1) _ (by omega) (by omega) ha (fun x e => hQ x (by rw [e, bf_n (by omega)])))
theorem P_Z_roomSet (hz : ZS σ P g) : PU m_Z_roomSet [zz] σ (bf (fun r => rm g r 0 = 1) 4 0 0) := by
  have e1 := hz.ok.c0
  have e2 := hz.ok.p0
  exact PU.mk fun Q hQ => T_Z_roomSet _ _ _ _ (L_Z_roomSet hz Q (4) 0 0 (by omega) (by omega) in32_0 hQ)
theorem L_W_roomsThere (hw : RW σ k P g) (Q : Option AV → ST → Prop) : ∀ (n : Nat) (i a : Int), i + n = 4 → 0 ≤ i → in32 a → (∀ x, x = bf (fun r => rm g r 0 = 1) n i a → Q (some (.inl x)) σ) → wp m_World_roomsThere (4, [some (ww k), some (.inl a), some (.inl i)], [], σ) Q
  | 0, i, a, h, h0, ha, hQ => by
    have e0 := hw.np
    have e1 := hw.nc
    refine T_World_roomsThere_4 _ _ _ _ _ _ ?_
    (repeat' (first | (refine And.intro ?_ ?_) | (intro hzq; simp only [b2_e0, b2_e1, Classical.not_not, ne_eq] at hzq) | (intro hzq) | exact Or.inl rfl | exact Or.inr rfl)) <;> try omega
    exact hQ _ rfl
  | n + 1, i, a, h, h0, ha, hQ => by
    have e0 := hw.np
    have e1 := hw.nc
    have e2 := hw.ok.p1
    have e3 := hw.ok.c1
    have e4 := bz_iff (hw.rm i (by omega) (by omega)).there
    refine T_World_roomsThere_4 _ _ _ _ _ _ ?_
    (repeat' (first | (refine And.intro ?_ ?_) | (intro hzq; simp only [b2_e0, b2_e1, Classical.not_not, ne_eq] at hzq) | (intro hzq) | exact Or.inl rfl | exact Or.inr rfl)) <;> try omega
    all_goals (simp (disch := omega) only [wr_id]; first | exact L_W_roomsThere hw Q n (i + 1) _ (by omega) (by omega) (i_or_32 _ _) (fun x e => hQ x (by rw [e, bf_y (by omega)])) | exact L_W_roomsThere hw Q n (i + 1) _ (by omega) (by omega) ha (fun x e => hQ x (by rw [e, bf_n (by omega)])))
theorem P_W_roomsThere (hw : RW σ k P g) : PU m_World_roomsThere [ww k] σ (bf (fun r => rm g r 0 = 1) 4 0 0) := by
  have e1 := hw.ok.c0
  have e2 := hw.ok.p0
  exact PU.mk fun Q hQ => T_World_roomsThere _ _ _ _ (L_W_roomsThere hw Q (4) 0 0 (by omega) (by omega) in32_0 hQ)
theorem L_Z_insideSet (hz : ZS σ P g) (Q : Option AV → ST → Prop) : ∀ (n : Nat) (i a : Int), i + n = P.nc → 0 ≤ i → in32 a → (∀ x, x = bf (fun c => co g c 1 ≠ -1) n i a → Q (some (.inl x)) σ) → wp m_Z_insideSet (4, [some zz, some (.inl a), some (.inl i)], [], σ) Q
  | 0, i, a, h, h0, ha, hQ => by
    have e0 := hz.np
    have e1 := hz.nc
    refine T_Z_insideSet_4 _ _ _ _ _ _ ?_
    (repeat' (first | (refine And.intro ?_ ?_) | (intro hzq; simp only [b2_e0, b2_e1, Classical.not_not, ne_eq] at hzq) | (intro hzq) | exact Or.inl rfl | exact Or.inr rfl)) <;> try omega
    exact hQ _ rfl
  | n + 1, i, a, h, h0, ha, hQ => by
    have e0 := hz.np
    have e1 := hz.nc
    have e2 := hz.ok.p1
    have e3 := hz.ok.c1
    refine T_Z_insideSet_4 _ _ _ _ _ _ ?_
    rw [i_or_0 ha]
    (repeat' (first | (refine And.intro ?_ ?_) | (intro hzq; simp only [b2_e0, b2_e1, Classical.not_not, ne_eq] at hzq) | (intro hzq) | exact Or.inl rfl | exact Or.inr rfl | refine PU.I (P_Z_isInside hz (by omega) (by omega)) ?_)) <;> try omega
    all_goals (simp (disch := omega) only [wr_id]; first | exact L_Z_insideSet hz Q n (i + 1) _ (by omega) (by omega) (i_or_32 _ _) (fun x e => hQ x (by rw [e, bf_y (by omega)])) | exact L_Z_insideSet hz Q n (i + 1) _ (by omega) (by omega) ha (fun x e => hQ x (by rw [e, bf_n (by omega)])))
theorem P_Z_insideSet (hz : ZS σ P g) : PU m_Z_insideSet [zz] σ (bf (fun c => co g c 1 ≠ -1) P.nc.toNat 0 0) := by
  have e1 := hz.ok.c0
  have e2 := hz.ok.p0
  exact PU.mk fun Q hQ => T_Z_insideSet _ _ _ _ (L_Z_insideSet hz Q (P.nc.toNat) 0 0 (by omega) (by omega) in32_0 hQ)
theorem L_W_coresInsideAny (hw : RW σ k P g) (hy : ∀ c, isCo P c → co g c 1 ≠ -1 → isRm g (co g c 1)) (Q : Option AV → ST → Prop) : ∀ (n : Nat) (i a : Int), i + n = P.nc → 0 ≤ i → in32 a → (∀ x, x = bf (fun c => co g c 1 ≠ -1) n i a → Q (some (.inl x)) σ) → wp m_World_coresInsideAny (4, [some (ww k), some (.inl a), some (.inl i)], [], σ) Q
  | 0, i, a, h, h0, ha, hQ => by
    have e0 := hw.np
    have e1 := hw.nc
    refine T_World_coresInsideAny_4 _ _ _ _ _ _ ?_
    (repeat' (first | (refine And.intro ?_ ?_) | (intro hzq; simp only [b2_e0, b2_e1, Classical.not_not, ne_eq] at hzq) | (intro hzq) | exact Or.inl rfl | exact Or.inr rfl)) <;> try omega
    exact hQ _ rfl
  | n + 1, i, a, h, h0, ha, hQ => by
    have e0 := hw.np
    have e1 := hw.nc
    have e2 := hw.ok.p1
    have e3 := hw.ok.c1
    have e4 := hy i ⟨by omega, by omega⟩
    refine T_World_coresInsideAny_4 _ _ _ _ _ _ ?_
    (repeat' (first | (refine And.intro ?_ ?_) | (intro hzq; simp only [b2_e0, b2_e1, Classical.not_not, ne_eq] at hzq) | (intro hzq) | exact Or.inl rfl | exact Or.inr rfl | refine PU.I (P_W_isInside hw _) ?_)) <;> try omega
    all_goals (simp (disch := omega) only [wr_id]; first | exact L_W_coresInsideAny hw hy Q n (i + 1) _ (by omega) (by omega) (i_or_32 _ _) (fun x e => hQ x (by rw [e, bf_y (by omega)])) | exact L_W_coresInsideAny hw hy Q n (i + 1) _ (by omega) (by omega) ha (fun x e => hQ x (by rw [e, bf_n (by omega)])))
theorem P_W_coresInsideAny (hw : RW σ k P g) (hy : ∀ c, isCo P c → co g c 1 ≠ -1 → isRm g (co g c 1)) : PU m_World_coresInsideAny [ww k] σ (bf (fun c => co g c 1 ≠ -1) P.nc.toNat 0 0) := by
  have e1 := hw.ok.c0
  have e2 := hw.ok.p0
  exact PU.mk fun Q hQ => T_World_coresInsideAny _ _ _ _ (L_W_coresInsideAny hw hy Q (P.nc.toNat) 0 0 (by omega) (by omega) in32_0 hQ)
theorem L_Z_copySet (hz : ZS σ P g) (Q : Option AV → ST → Prop) : ∀ (n : Nat) (i a : Int), i + n = 12 → 0 ≤ i → in32 a → (∀ x, x = bf (fun c => cp g c 0 = 1) n i a → Q (some (.inl x)) σ) → wp m_Z_copySet (4, [some zz, some (.inl a), some (.inl i)], [], σ) Q
  | 0, i, a, h, h0, ha, hQ => by
    have e0 := hz.np
    have e1 := hz.nc
    refine T_Z_copySet_4 _ _ _ _ _ _ ?_
    (repeat' (first | (refine And.intro ?_ ?_) | (intro hzq; simp only [b2_e0, b2_e1, Classical.not_not, ne_eq] at hzq) | (intro hzq) | exact Or.inl rfl | exact Or.inr rfl)) <;> try omega
    exact hQ _ rfl
  | n + 1, i, a, h, h0, ha, hQ => by
    have e0 := hz.np
    have e1 := hz.nc
    have e2 := hz.ok.p1
    have e3 := hz.ok.c1
    refine T_Z_copySet_4 _ _ _ _ _ _ ?_
    rw [i_or_0 ha]
    (repeat' (first | (refine And.intro ?_ ?_) | (intro hzq; simp only [b2_e0, b2_e1, Classical.not_not, ne_eq] at hzq) | (intro hzq) | exact Or.inl rfl | exact Or.inr rfl | refine PU.I (P_Z_isCopy hz _) ?_)) <;> try omega
    all_goals (simp (disch := omega) only [wr_id]; first | exact L_Z_copySet hz Q n (i + 1) _ (by omega) (by omega) (i_or_32 _ _) (fun x e => hQ x (by rw [e, bf_y (by omega)])) | exact L_Z_copySet hz Q n (i + 1) _ (by omega) (by omega) ha (fun x e => hQ x (by rw [e, bf_n (by omega)])))
theorem P_Z_copySet (hz : ZS σ P g) : PU m_Z_copySet [zz] σ (bf (fun c => cp g c 0 = 1) 12 0 0) := by
  have e1 := hz.ok.c0
  have e2 := hz.ok.p0
  exact PU.mk fun Q hQ => T_Z_copySet _ _ _ _ (L_Z_copySet hz Q (12) 0 0 (by omega) (by omega) in32_0 hQ)
theorem L_W_copiesThere (hw : RW σ k P g) (Q : Option AV → ST → Prop) : ∀ (n : Nat) (i a : Int), i + n = 12 → 0 ≤ i → in32 a → (∀ x, x = bf (fun c => cp g c 0 = 1) n i a → Q (some (.inl x)) σ) → wp m_World_copiesThere (4, [some (ww k), some (.inl a), some (.inl i)], [], σ) Q
  | 0, i, a, h, h0, ha, hQ => by
    have e0 := hw.np
    have e1 := hw.nc
    refine T_World_copiesThere_4 _ _ _ _ _ _ ?_
    (repeat' (first | (refine And.intro ?_ ?_) | (intro hzq; simp only [b2_e0, b2_e1, Classical.not_not, ne_eq] at hzq) | (intro hzq) | exact Or.inl rfl | exact Or.inr rfl)) <;> try omega
    exact hQ _ rfl
  | n + 1, i, a, h, h0, ha, hQ => by
    have e0 := hw.np
    have e1 := hw.nc
    have e2 := hw.ok.p1
    have e3 := hw.ok.c1
    have e4 := bz_iff (hw.cp i (by omega) (by omega)).there
    refine T_World_copiesThere_4 _ _ _ _ _ _ ?_
    (repeat' (first | (refine And.intro ?_ ?_) | (intro hzq; simp only [b2_e0, b2_e1, Classical.not_not, ne_eq] at hzq) | (intro hzq) | exact Or.inl rfl | exact Or.inr rfl)) <;> try omega
    all_goals (simp (disch := omega) only [wr_id]; first | exact L_W_copiesThere hw Q n (i + 1) _ (by omega) (by omega) (i_or_32 _ _) (fun x e => hQ x (by rw [e, bf_y (by omega)])) | exact L_W_copiesThere hw Q n (i + 1) _ (by omega) (by omega) ha (fun x e => hQ x (by rw [e, bf_n (by omega)])))
theorem P_W_copiesThere (hw : RW σ k P g) : PU m_World_copiesThere [ww k] σ (bf (fun c => cp g c 0 = 1) 12 0 0) := by
  have e1 := hw.ok.c0
  have e2 := hw.ok.p0
  exact PU.mk fun Q hQ => T_World_copiesThere _ _ _ _ (L_W_copiesThere hw Q (12) 0 0 (by omega) (by omega) in32_0 hQ)
theorem L_Z_blockedSet (hz : ZS σ P g) (Q : Option AV → ST → Prop) : ∀ (n : Nat) (i a : Int), i + n = P.np → 0 ≤ i → in32 a → (∀ x, x = bf (fun p => pg g p 5 ≠ -1) n i a → Q (some (.inl x)) σ) → wp m_Z_blockedSet (4, [some zz, some (.inl a), some (.inl i)], [], σ) Q
  | 0, i, a, h, h0, ha, hQ => by
    have e0 := hz.np
    have e1 := hz.nc
    refine T_Z_blockedSet_4 _ _ _ _ _ _ ?_
    (repeat' (first | (refine And.intro ?_ ?_) | (intro hzq; simp only [b2_e0, b2_e1, Classical.not_not, ne_eq] at hzq) | (intro hzq) | exact Or.inl rfl | exact Or.inr rfl)) <;> try omega
    exact hQ _ rfl
  | n + 1, i, a, h, h0, ha, hQ => by
    have e0 := hz.np
    have e1 := hz.nc
    have e2 := hz.ok.p1
    have e3 := hz.ok.c1
    refine T_Z_blockedSet_4 _ _ _ _ _ _ ?_
    rw [i_or_0 ha]
    (repeat' (first | (refine And.intro ?_ ?_) | (intro hzq; simp only [b2_e0, b2_e1, Classical.not_not, ne_eq] at hzq) | (intro hzq) | exact Or.inl rfl | exact Or.inr rfl | refine PU.I (P_Z_ofPage hz (by omega) (by omega) (by omega) (by omega)) ?_)) <;> try omega
    all_goals (simp (disch := omega) only [wr_id]; first | exact L_Z_blockedSet hz Q n (i + 1) _ (by omega) (by omega) (i_or_32 _ _) (fun x e => hQ x (by rw [e, bf_y (by omega)])) | exact L_Z_blockedSet hz Q n (i + 1) _ (by omega) (by omega) ha (fun x e => hQ x (by rw [e, bf_n (by omega)])))
theorem P_Z_blockedSet (hz : ZS σ P g) : PU m_Z_blockedSet [zz] σ (bf (fun p => pg g p 5 ≠ -1) P.np.toNat 0 0) := by
  have e1 := hz.ok.c0
  have e2 := hz.ok.p0
  exact PU.mk fun Q hQ => T_Z_blockedSet _ _ _ _ (L_Z_blockedSet hz Q (P.np.toNat) 0 0 (by omega) (by omega) in32_0 hQ)
theorem L_W_blockedPages (hw : RW σ k P g) (Q : Option AV → ST → Prop) : ∀ (n : Nat) (i a : Int), i + n = P.np → 0 ≤ i → in32 a → (∀ x, x = bf (fun p => pg g p 5 ≠ -1) n i a → Q (some (.inl x)) σ) → wp m_World_blockedPages (4, [some (ww k), some (.inl a), some (.inl i)], [], σ) Q
  | 0, i, a, h, h0, ha, hQ => by
    have e0 := hw.np
    have e1 := hw.nc
    refine T_World_blockedPages_4 _ _ _ _ _ _ ?_
    (repeat' (first | (refine And.intro ?_ ?_) | (intro hzq; simp only [b2_e0, b2_e1, Classical.not_not, ne_eq] at hzq) | (intro hzq) | exact Or.inl rfl | exact Or.inr rfl)) <;> try omega
    exact hQ _ rfl
  | n + 1, i, a, h, h0, ha, hQ => by
    have e0 := hw.np
    have e1 := hw.nc
    have e2 := hw.ok.p1
    have e3 := hw.ok.c1
    have e4 := bz_iff (hw.pg i (by omega) (by omega)).blk
    refine T_World_blockedPages_4 _ _ _ _ _ _ ?_
    (repeat' (first | (refine And.intro ?_ ?_) | (intro hzq; simp only [b2_e0, b2_e1, Classical.not_not, ne_eq] at hzq) | (intro hzq) | exact Or.inl rfl | exact Or.inr rfl | refine PU.I (P_W_isPage hw _) ?_)) <;> try omega
    all_goals (simp (disch := omega) only [wr_id]; first | exact L_W_blockedPages hw Q n (i + 1) _ (by omega) (by omega) (i_or_32 _ _) (fun x e => hQ x (by rw [e, bf_y (by omega)])) | exact L_W_blockedPages hw Q n (i + 1) _ (by omega) (by omega) ha (fun x e => hQ x (by rw [e, bf_n (by omega)])))
theorem P_W_blockedPages (hw : RW σ k P g) : PU m_World_blockedPages [ww k] σ (bf (fun p => pg g p 5 ≠ -1) P.np.toNat 0 0) := by
  have e1 := hw.ok.c0
  have e2 := hw.ok.p0
  exact PU.mk fun Q hQ => T_World_blockedPages _ _ _ _ (L_W_blockedPages hw Q (P.np.toNat) 0 0 (by omega) (by omega) in32_0 hQ)
end RDB
/-- empty slots, of all -/
def esF (g : Int → Int) : Nat → Int → Int → Int
  | 0, _, a => a
  | n + 1, i, a => esF g n (i + 1) (if pg g i 0 = 4 then a + nEmpty g i else a)
theorem nEmpty_in (g : Int → Int) (p : Int) : 0 ≤ nEmpty g p ∧ nEmpty g p ≤ 4 := by
  have key : ∀ (c : Int → Prop) [DecidablePred c] (n : Nat) (i a : Int), nf c n i a ≤ a + n := by
    intro c _ n
    induction n with
    | zero => intro i a; exact Int.le_of_eq (by show a = a + 0; omega)
    | succ n ih =>
      intro i a
      by_cases hc : c i
      · rw [nf_y hc]
        have := ih (i + 1) (a + 1)
        omega
      · rw [nf_n hc]
        have := ih (i + 1) a
        omega
  have a1 := nf_ge (c := fun s => pg g p (7 + s) = 0) 4 0 0
  have a2 := key (fun s => pg g p (7 + s) = 0) 4 0 0
  unfold nEmpty
  omega
/-- the fullest room -/
def fuF (P : MP) (g : Int → Int) : Nat → Int → Int → Int
  | 0, _, b => b
  | n + 1, i, b => fuF P g n (i + 1) (if isRm g i ∧ (b = -1 ∨ nPages P g b 1 < nPages P g i 1) then i else b)
section RDC
variable {σ : ST} {P : MP} {g : Int → Int} {n : Int}
theorem L_Z_eos (hz : ZS σ P g) (Q : Option AV → ST → Prop) : ∀ (n : Nat) (i a : Int), i + n = P.np → 0 ≤ i → 0 ≤ a ∧ a ≤ 4 * i → (∀ x, x = esF g n i a → Q (some (.inl x)) σ) → wp m_Z_emptyOfAll (4, [some zz, some (.inl a), some (.inl i)], [], σ) Q
  | 0, i, a, h, h0, ha, hQ => by
    have e0 := hz.np
    refine T_Z_emptyOfAll_4 _ _ _ _ _ _ ?_
    (repeat' (first | (refine And.intro ?_ ?_) | (intro hzq; simp only [b2_e0, b2_e1, Classical.not_not, ne_eq] at hzq) | (intro hzq) | exact Or.inl rfl | exact Or.inr rfl)) <;> try omega
    exact hQ _ rfl
  | n + 1, i, a, h, h0, ha, hQ => by
    have e0 := hz.np
    have e2 := hz.ok.p1
    have e3 := nEmpty_in g i
    refine T_Z_emptyOfAll_4 _ _ _ _ _ _ ?_
    rw [show a + 0 = a by omega]
    unfold esF at hQ
    (repeat' (first | (refine And.intro ?_ ?_) | (intro hzq; simp only [b2_e0, b2_e1, Classical.not_not, ne_eq] at hzq) | (intro hzq) | exact Or.inl rfl | exact Or.inr rfl | refine PU.I (P_Z_ofPage hz (by omega) (by omega) (by omega) (by omega)) ?_ | refine PU.I (Q_nEmpty hz (by omega) (by omega)) ?_)) <;> try omega
    all_goals (simp (disch := omega) only [wr_id])
    · rw [if_neg (by omega)] at hQ
      exact L_Z_eos hz Q n (i + 1) _ (by omega) (by omega) (by omega) hQ
    · rw [if_pos (by omega)] at hQ
      exact L_Z_eos hz Q n (i + 1) _ (by omega) (by omega) (by omega) hQ
theorem P_Z_eos (hz : ZS σ P g) : PU m_Z_emptyOfAll [zz] σ (esF g P.np.toNat 0 0) := by
  have e1 := hz.ok.p0
  exact PU.mk fun Q hQ => T_Z_emptyOfAll _ _ _ _ (L_Z_eos hz Q P.np.toNat 0 0 (by omega) (by omega) (by omega) hQ)
theorem L_W_eos (hw : RW σ 0 P g) (Q : Option AV → ST → Prop) : ∀ (n : Nat) (i a : Int), i + n = P.np → 0 ≤ i → 0 ≤ a ∧ a ≤ 4 * i → (∀ x, x = esF g n i a → Q (some (.inl x)) σ) → wp m_World_emptySlots (4, [some (ww 0), some (.inl a), some (.inl i)], [], σ) Q
  | 0, i, a, h, h0, ha, hQ => by
    have e0 := hw.np
    refine T_World_emptySlots_4 _ _ _ _ _ _ ?_
    (repeat' (first | (refine And.intro ?_ ?_) | (intro hzq; simp only [b2_e0, b2_e1, Classical.not_not, ne_eq] at hzq) | (intro hzq) | exact Or.inl rfl | exact Or.inr rfl)) <;> try omega
    exact hQ _ rfl
  | n + 1, i, a, h, h0, ha, hQ => by
    have e0 := hw.np
    have e2 := hw.ok.p1
    have e3 := nEmpty_in g i
    have x := hw.pg i (by omega) (by omega)
    refine T_World_emptySlots_4 _ _ _ _ _ _ ?_
    unfold esF at hQ
    (repeat' (first | (refine And.intro ?_ ?_) | (intro hzq; simp only [b2_e0, b2_e1, Classical.not_not, ne_eq] at hzq) | (intro hzq) | exact Or.inl rfl | exact Or.inr rfl | refine PU.I (P_W_isSlots hw _) ?_ | refine PU.I (P_P_emptySlots x) ?_)) <;> try omega
    all_goals (simp (disch := omega) only [wr_id])
    all_goals (first | (rw [if_neg (by omega)] at hQ; exact L_W_eos hw Q n (i + 1) _ (by omega) (by omega) (by omega) hQ) | (rw [if_pos (by omega)] at hQ; exact L_W_eos hw Q n (i + 1) _ (by omega) (by omega) (by omega) hQ))
theorem P_W_eos (hw : RW σ 0 P g) : PU m_World_emptySlots [ww 0] σ (esF g P.np.toNat 0 0) := by
  have e1 := hw.ok.p0
  exact PU.mk fun Q hQ => T_World_emptySlots _ _ _ _ (L_W_eos hw Q P.np.toNat 0 0 (by omega) (by omega) (by omega) hQ)
theorem nP_in (P : MP) (g : Int → Int) (r w : Int) : 0 ≤ nPages P g r w := nf_ge _ _ _
theorem nH_eq (hg : GW P g n) {r : Int} (hr : 0 ≤ r) : nHere P g r = nPages P g r 1 := by
  unfold nHere nPages
  refine nf_iff _ _ _ (fun j a b => ?_)
  have hj : isPg P j := ⟨a, by omega⟩
  have e1 := hg.p.no1 j hj
  omega
theorem L_Z_fu (hz : ZS σ P g) (Q : Option AV → ST → Prop) : ∀ (n : Nat) (i b : Int), i + n = 4 → 0 ≤ i → (∀ x, x = fuF P g n i b → Q (some (.inl x)) σ) → wp m_Z_fullest (4, [some zz, some (.inl b), some (.inl i)], [], σ) Q
  | 0, i, a, h, h0, hQ => by
    refine T_Z_fullest_4 _ _ _ _ _ _ ?_
    (repeat' (first | (refine And.intro ?_ ?_) | (intro hzq; simp only [b2_e0, b2_e1, Classical.not_not, ne_eq] at hzq) | (intro hzq) | exact Or.inl rfl | exact Or.inr rfl)) <;> try omega
    exact hQ _ rfl
  | n + 1, i, a, h, h0, hQ => by
    refine T_Z_fullest_4 _ _ _ _ _ _ ?_
    unfold fuF at hQ
    (repeat' (first | (refine And.intro ?_ ?_) | (intro hzq; simp only [b2_e0, b2_e1, Classical.not_not, ne_eq] at hzq) | (intro hzq) | exact Or.inl rfl | exact Or.inr rfl | refine PU.I (P_Z_isRoom hz _) ?_ | refine PU.I (Q_nPages hz _ _) ?_)) <;> try omega
    all_goals (simp (disch := omega) only [wr_id])
    all_goals (first | (rw [if_neg (by omega)] at hQ; exact L_Z_fu hz Q n (i + 1) _ (by omega) (by omega) hQ) | (rw [if_pos (by omega)] at hQ; exact L_Z_fu hz Q n (i + 1) _ (by omega) (by omega) hQ))
theorem P_Z_fu (hz : ZS σ P g) : PU m_Z_fullest [zz] σ (fuF P g 4 0 (-1)) :=
  PU.mk fun Q hQ => T_Z_fullest _ _ _ _ (L_Z_fu hz Q 4 0 (-1) (by omega) (by omega) hQ)
theorem L_W_fu (hw : RW σ 0 P g) (hg : GW P g n) (Q : Option AV → ST → Prop) : ∀ (m : Nat) (i b v : Int), i + m = 4 → 0 ≤ i → (b = -1 → v = -1) → (b ≠ -1 → v = nPages P g b 1) → (∀ x, x = fuF P g m i b → Q (some (.inl x)) σ) → wp m_World_fullestRoom (6, [some (ww 0), some (.inl b), some (.inl v), some (.inl i)], [], σ) Q
  | 0, i, b, v, h, h0, h1, h2, hQ => by
    refine T_World_fullestRoom_6 _ _ _ _ _ _ _ ?_
    (repeat' (first | (refine And.intro ?_ ?_) | (intro hzq; simp only [b2_e0, b2_e1, Classical.not_not, ne_eq] at hzq) | (intro hzq) | exact Or.inl rfl | exact Or.inr rfl)) <;> try omega
    exact hQ _ rfl
  | m + 1, i, b, v, h, h0, h1, h2, hQ => by
    have e1 := nP_in P g i 1
    have e2 := nP_in P g b 1
    refine T_World_fullestRoom_6 _ _ _ _ _ _ _ ?_
    unfold fuF at hQ
    (repeat' (first | (refine And.intro ?_ ?_) | (intro hzq; simp only [b2_e0, b2_e1, Classical.not_not, ne_eq] at hzq) | (intro hzq) | exact Or.inl rfl | exact Or.inr rfl | refine PU.I (P_W_isRoom hw _) ?_ | refine PU.I ((P_W_pagesHere hw _).to (nH_eq hg (by omega))) ?_)) <;> try omega
    all_goals (simp (disch := omega) only [wr_id])
    all_goals (first | (rw [if_neg (by omega)] at hQ; exact L_W_fu hw hg Q m (i + 1) _ _ (by omega) (by omega) (by omega) (by omega) hQ) | (rw [if_pos (by omega)] at hQ; exact L_W_fu hw hg Q m (i + 1) _ _ (by omega) (by omega) (by omega) (fun _ => rfl) hQ))
theorem P_W_fu (hw : RW σ 0 P g) (hg : GW P g n) : PU m_World_fullestRoom [ww 0] σ (fuF P g 4 0 (-1)) :=
  PU.mk fun Q hQ => T_World_fullestRoom _ _ _ _ (L_W_fu hw hg Q 4 0 (-1) (-1) (by omega) (by omega) (fun _ => rfl) (fun z => absurd rfl z) hQ)
def v_all (x : Int) (_ : ST) (P : MP) (g : Int → Int) : Int := if P.np = 0 then -1000000 else if x = 0 then bf (fun p => pg g p 0 = 0) P.np.toNat 0 0 else if x = 1 then bf (fun r => rm g r 0 = 1) 4 0 0 else if x = 2 then bf (fun c => co g c 1 ≠ -1) P.nc.toNat 0 0 else if x = 3 then bf (fun c => cp g c 0 = 1) 12 0 0 else if x = 4 then g 343 else if x = 5 then g 344 else if x = 6 then esF g P.np.toNat 0 0 else if x = 7 then bf (fun p => pg g p 5 ≠ -1) P.np.toNat 0 0 else if x = 8 then fuF P g 4 0 (-1) else -1000000
theorem X_rd_all (h : IVg σ P g n) (x : Int) : PU m_X_all [xx, .inl x] σ (v_all x σ P g) := by
  have hb := bz_iff h.m.has
  have hw := h.x.1
  have e3 := hw.ver
  have e4 := hw.ser
  refine PU.mk fun Q hQ => T_X_all _ _ _ _ _ ?_
  (repeat' (first | (refine And.intro ?_ ?_) | (intro hzq; simp only [b2_e0, b2_e1, Classical.not_not, ne_eq] at hzq) | (intro hzq) | exact Or.inl rfl | exact Or.inr rfl | refine PU.I (P_W_freePages hw) ?_ | refine PU.I (P_W_roomsThere hw) ?_ | refine PU.I (P_W_coresInsideAny hw (fun c hc z => (h.w.c.ins c hc z).1)) ?_ | refine PU.I (P_W_copiesThere hw) ?_ | refine PU.I (P_W_eos hw) ?_ | refine PU.I (P_W_blockedPages hw) ?_ | refine PU.I (P_W_fu hw h.w) ?_)) <;> try omega
  all_goals (refine hQ _ ?_; unfold v_all; (repeat' split) <;> first | rfl | omega | exact congrArg _ (by omega))
theorem Z_rd_all (h : IVg σ P g n) (x : Int) : PU m_Z_all [zz, .inl x] σ (v_all x σ P g) := by
  have hb := bz_iff h.z.mac
  have e3 := h.z.now 343 (by omega) (by omega)
  have e4 := h.z.now 344 (by omega) (by omega)
  refine PU.mk fun Q hQ => T_Z_all _ _ _ _ _ ?_
  (repeat' (first | (refine And.intro ?_ ?_) | (intro hzq; simp only [b2_e0, b2_e1, Classical.not_not, ne_eq] at hzq) | (intro hzq) | exact Or.inl rfl | exact Or.inr rfl | refine PU.I (P_Z_in _ _ _ _) ?_ | refine PU.I (P_Z_freeSet h.z) ?_ | refine PU.I (P_Z_roomSet h.z) ?_ | refine PU.I (P_Z_insideSet h.z) ?_ | refine PU.I (P_Z_copySet h.z) ?_ | refine PU.I (P_Z_eos h.z) ?_ | refine PU.I (P_Z_blockedSet h.z) ?_ | refine PU.I (P_Z_fu h.z) ?_)) <;> try omega
  all_goals (refine hQ _ ?_; unfold v_all; (repeat' split) <;> first | rfl | omega | exact congrArg _ (by omega))
def v_waits (p : Int) (_ : ST) (P : MP) (g : Int → Int) : Int := if isPg P p ∧ (pg g p 0 = 2 ∨ pg g p 0 = 3) then inSince P g (pg g p 1) (if pg g p 5 = -1 then rm g (pg g p 1) 5 else pg g p 5) else -1
theorem X_rd_waits (h : IVg σ P g n) (p : Int) : PU m_X_waits [xx, .inl p] σ (v_waits p σ P g) := by
  have hw := h.x.1
  have p1 := h.z.ok.p1
  refine PU.mk fun Q hQ => T_X_waits _ _ _ _ _ ?_
  by_cases hp : isPg P p
  · have x := hw.pg p hp.1 hp.2
    by_cases hm : pg g p 0 = 2 ∨ pg g p 0 = 3
    · have ow := (h.w.p.ow p hp (by omega) (by omega)).1
      have y5 := ((hw.rm _ ow.1.1 ow.1.2).y ow.2).epo
      have x6 := bz_iff x.blk
      have x2 := x.own
      have e1 : PU m_World_isRoom [ww 0, .inl (σ 14 0 p 1)] σ (b2 (isRm g (pg g p 1))) := by
        rw [x2]
        exact P_W_isRoom hw _
      unfold v_waits at hQ
      rw [if_pos ⟨hp, hm⟩] at hQ
      by_cases hb : pg g p 5 = -1
      · rw [if_pos hb] at hQ
        have e2 : PU m_World_coresInside [ww 0, .inl (σ 14 0 p 1), .inl (σ 17 0 (σ 14 0 p 1) 5)] σ (inSince P g (pg g p 1) (rm g (pg g p 1) 5)) := by
          rw [x2, y5]
          exact P_W_coresInside hw _ _
        (repeat' (first | (refine And.intro ?_ ?_) | (intro hzq; simp only [b2_e0, b2_e1, Classical.not_not, ne_eq] at hzq) | (intro hzq) | exact Or.inl rfl | exact Or.inr rfl | refine PU.I (P_W_isPage hw _) ?_ | refine PU.I (P_P_hasAddress x) ?_ | refine PU.I (e1) ?_ | refine PU.I (e2) ?_)) <;> try omega
        exact hQ _ rfl
      · rw [if_neg hb] at hQ
        have e2 : PU m_World_coresInside [ww 0, .inl (σ 14 0 p 1), .inl (σ 14 0 p 6)] σ (inSince P g (pg g p 1) (pg g p 5)) := by
          rw [x2, x.bin hb]
          exact P_W_coresInside hw _ _
        (repeat' (first | (refine And.intro ?_ ?_) | (intro hzq; simp only [b2_e0, b2_e1, Classical.not_not, ne_eq] at hzq) | (intro hzq) | exact Or.inl rfl | exact Or.inr rfl | refine PU.I (P_W_isPage hw _) ?_ | refine PU.I (P_P_hasAddress x) ?_ | refine PU.I (e1) ?_ | refine PU.I (e2) ?_)) <;> try omega
        exact hQ _ rfl
    · (repeat' (first | (refine And.intro ?_ ?_) | (intro hzq; simp only [b2_e0, b2_e1, Classical.not_not, ne_eq] at hzq) | (intro hzq) | exact Or.inl rfl | exact Or.inr rfl | refine PU.I (P_W_isPage hw _) ?_ | refine PU.I (P_P_hasAddress x) ?_)) <;> try omega
      all_goals (refine hQ _ ?_; unfold v_waits; (repeat' split) <;> first | rfl | omega | exact congrArg _ (by omega))
  · (repeat' (first | (refine And.intro ?_ ?_) | (intro hzq; simp only [b2_e0, b2_e1, Classical.not_not, ne_eq] at hzq) | (intro hzq) | exact Or.inl rfl | exact Or.inr rfl | refine PU.I (P_W_isPage hw _) ?_)) <;> try omega
    all_goals (refine hQ _ ?_; unfold v_waits; (repeat' split) <;> first | rfl | omega | exact congrArg _ (by omega))
theorem Z_rd_waits (h : IVg σ P g n) (p : Int) : PU m_Z_waits [zz, .inl p] σ (v_waits p σ P g) := by
  have p1 := h.z.ok.p1
  have ow : isPg P p → (pg g p 0 = 2 ∨ pg g p 0 = 3) → 0 ≤ pg g p 1 ∧ pg g p 1 < 4 := fun a b => (h.w.p.ow p a (by omega) (by omega)).1.1
  refine PU.mk fun Q hQ => T_Z_waits _ _ _ _ _ ?_
  (repeat' (first | (refine And.intro ?_ ?_) | (intro hzq; simp only [b2_e0, b2_e1, Classical.not_not, ne_eq] at hzq) | (intro hzq) | exact Or.inl rfl | exact Or.inr rfl | refine PU.I (P_Z_isPage h.z _) ?_ | refine PU.I (P_Z_isMoving h.z (by omega) (by omega)) ?_ | refine PU.I (P_Z_ofPage h.z (by omega) (by omega) (by omega) (by omega)) ?_ | refine PU.I (P_Z_ofRoom h.z (by omega) (by omega) (by omega) (by omega)) ?_ | refine PU.I (Q_inSince h.z _ _) ?_)) <;> try omega
  all_goals (refine hQ _ ?_; unfold v_waits; (repeat' split) <;> first | rfl | omega | exact congrArg _ (by omega))
end RDC
