/-! lies, leaks, victim, on both; the readers' pairs -/
section RDE
variable {σ : ST} {P : MP} {g : Int → Int} {n : Int}
theorem L_X_lies (h : IVg σ P g n) {r : Int} (hr : isRm g r) (Q : Option AV → ST → Prop) : ∀ (m : Nat) (i a : Int), i + m = 8 → 0 ≤ i → in32 a → (∀ x, x = bf (fun a => a < rm g r 2 ∧ rm g r (15 + a) - 1 ≠ -1 ∧ ¬ isPo P g (rm g r (15 + a) - 1) r a) m i a → Q (some (.inl x)) σ) → wp m_X_lies (28, [some xx, some (.inl r), some (rr 0 r), some (.inl a), some (.inl i)], [], σ) Q
  | 0, i, a, h1, h0, ha, hQ => by
    refine T_X_lies_28 _ _ _ _ _ _ _ _ _ ?_
    (repeat' (first | (refine And.intro ?_ ?_) | (intro hzq; simp only [b2_e0, b2_e1, Classical.not_not, ne_eq] at hzq) | (intro hzq) | exact Or.inl rfl | exact Or.inr rfl)) <;> try omega
    exact hQ _ rfl
  | m + 1, i, a, h1, h0, ha, hQ => by
    have y := (h.x.1.rm r hr.1.1 hr.1.2).y hr.2
    have f := h.w.p.rf r hr
    have y8 := y.map i h0 (by omega)
    have no := h.w.p.no (rm g r (15 + i) - 1)
    have e1 : PU m_World_isPageOf [ww 0, .inl (σ 19 0 r i), .inl r, .inl i] σ (b2 (isPo P g (rm g r (15 + i) - 1) r i)) := by
      rw [y8]
      exact (P_W_isPageOf h.x.1 _ _ _).to (b2_iff (by constructor <;> intro z <;> omega))
    refine T_X_lies_28 _ _ _ _ _ _ _ _ _ ?_
    (repeat' (first | (refine And.intro ?_ ?_) | (intro hzq; simp only [b2_e0, b2_e1, Classical.not_not, ne_eq] at hzq) | (intro hzq) | exact Or.inl rfl | exact Or.inr rfl | refine PU.I (P_R_hasAddress y f.1.2 _) ?_ | refine PU.I (e1) ?_)) <;> try omega
    all_goals (simp (disch := omega) only [wr_id]; first | exact L_X_lies h hr Q m (i + 1) _ (by omega) (by omega) (i_or_32 _ _) (fun x e => hQ x (by rw [e, bf_y (by omega)])) | exact L_X_lies h hr Q m (i + 1) _ (by omega) (by omega) ha (fun x e => hQ x (by rw [e, bf_n (by omega)])))
theorem X_rd_lies (h : IVg σ P g n) (r : Int) : PU m_X_lies [xx, .inl r] σ (v_lies r σ P g) := by
  refine PU.mk fun Q hQ => T_X_lies _ _ _ _ _ ?_
  unfold v_lies at hQ
  by_cases hr : isRm g r
  · rw [if_pos hr] at hQ
    (repeat' (first | (refine And.intro ?_ ?_) | (intro hzq; simp only [b2_e0, b2_e1, Classical.not_not, ne_eq] at hzq) | (intro hzq) | exact Or.inl rfl | exact Or.inr rfl | refine PU.I (P_W_isRoom h.x.1 _) ?_)) <;> try omega
    exact L_X_lies h hr Q 8 0 0 (by omega) (by omega) in32_0 hQ
  · rw [if_neg hr] at hQ
    (repeat' (first | (refine And.intro ?_ ?_) | (intro hzq; simp only [b2_e0, b2_e1, Classical.not_not, ne_eq] at hzq) | (intro hzq) | exact Or.inl rfl | exact Or.inr rfl | refine PU.I (P_W_isRoom h.x.1 _) ?_)) <;> try omega
    exact hQ _ rfl
theorem L_Z_lies (h : IVg σ P g n) {r : Int} (hr : isRm g r) (Q : Option AV → ST → Prop) : ∀ (m : Nat) (i a : Int), i + m = rm g r 2 → 0 ≤ i → in32 a → (∀ x, x = bf (fun a => a < rm g r 2 ∧ rm g r (15 + a) - 1 ≠ -1 ∧ ¬ isPo P g (rm g r (15 + a) - 1) r a) m i a → Q (some (.inl x)) σ) → wp m_Z_lies (14, [some zz, some (.inl r), some (.inl a), some (.inl i)], [], σ) Q
  | 0, i, a, h1, h0, ha, hQ => by
    refine T_Z_lies_14 _ _ _ _ _ _ _ ?_
    (repeat' (first | (refine And.intro ?_ ?_) | (intro hzq; simp only [b2_e0, b2_e1, Classical.not_not, ne_eq] at hzq) | (intro hzq) | exact Or.inl rfl | exact Or.inr rfl | refine PU.I (P_Z_ofRoom h.z (by omega) (by omega) (by omega) (by omega)) ?_)) <;> try omega
    exact hQ _ rfl
  | m + 1, i, a, h1, h0, ha, hQ => by
    have f := h.w.p.rf r hr
    refine T_Z_lies_14 _ _ _ _ _ _ _ ?_
    rw [i_or_0 ha]
    (repeat' (first | (refine And.intro ?_ ?_) | (intro hzq; simp only [b2_e0, b2_e1, Classical.not_not, ne_eq] at hzq) | (intro hzq) | exact Or.inl rfl | exact Or.inr rfl | refine PU.I (P_Z_ofRoom h.z (by omega) (by omega) (by omega) (by omega)) ?_ | refine PU.I (P_Z_mapOf h.z h.gr (by omega) (by omega) (by omega) (by omega)) ?_ | refine PU.I (P_Z_isPageOf h.z _ _ _) ?_)) <;> try omega
    all_goals (simp (disch := omega) only [wr_id]; first | exact L_Z_lies h hr Q m (i + 1) _ (by omega) (by omega) (i_or_32 _ _) (fun x e => hQ x (by rw [e, bf_y (by omega)])) | exact L_Z_lies h hr Q m (i + 1) _ (by omega) (by omega) ha (fun x e => hQ x (by rw [e, bf_n (by omega)])))
theorem Z_rd_lies (h : IVg σ P g n) (r : Int) : PU m_Z_lies [zz, .inl r] σ (v_lies r σ P g) := by
  refine PU.mk fun Q hQ => T_Z_lies _ _ _ _ _ ?_
  unfold v_lies at hQ
  by_cases hr : isRm g r
  · have f := h.w.p.rf r hr
    rw [if_pos hr, bf_cut (rm g r 2).toNat 8 0 0 (by omega) (fun j hj z => by have := z.1; omega)] at hQ
    (repeat' (first | (refine And.intro ?_ ?_) | (intro hzq; simp only [b2_e0, b2_e1, Classical.not_not, ne_eq] at hzq) | (intro hzq) | exact Or.inl rfl | exact Or.inr rfl | refine PU.I (P_Z_isRoom h.z _) ?_)) <;> try omega
    exact L_Z_lies h hr Q (rm g r 2).toNat 0 0 (by omega) (by omega) in32_0 hQ
  · rw [if_neg hr] at hQ
    (repeat' (first | (refine And.intro ?_ ?_) | (intro hzq; simp only [b2_e0, b2_e1, Classical.not_not, ne_eq] at hzq) | (intro hzq) | exact Or.inl rfl | exact Or.inr rfl | refine PU.I (P_Z_isRoom h.z _) ?_)) <;> try omega
    exact hQ _ rfl
theorem L_W_leaksOf (h : IVg σ P g n) {c : Int} (hc : isCo P c) (Q : Option AV → ST → Prop) : ∀ (m : Nat) (i a : Int) (o : Option AV), i + m = co g c 4 → 0 ≤ i → (∀ x, x = lkF g c m i a → Q (some (.inl x)) σ) → wp m_World_leaksOf (4, [some (ww 0), some (kk 0 c), some (.inl a), some (.inl i), o], [], σ) Q
  | 0, i, a, o, h1, h0, hQ => by
    have e1 := (h.x.1.co c hc.1 hc.2).cnt
    have h4 := h.x.2 c hc
    refine T_World_leaksOf_4 _ _ _ _ _ _ _ _ _ ?_
    (repeat' (first | (refine And.intro ?_ ?_) | (intro hzq; simp only [b2_e0, b2_e1, Classical.not_not, ne_eq] at hzq) | (intro hzq) | exact Or.inl rfl | exact Or.inr rfl)) <;> try omega
    all_goals exact hQ _ rfl
  | m + 1, i, a, o, h1, h0, hQ => by
    have z := h.x.1.co c hc.1 hc.2
    have e1 := z.cnt
    have h4 := h.x.2 c hc
    have p1 := h.z.ok.p1
    have z6 := z.adr i h0 (by omega)
    have z7 := z.pag i h0 (by omega)
    have s := (h.w.c.see c i hc h0 (by omega)).2.1
    have x6 := bz_iff (h.x.1.pg _ s.1 s.2).blk
    rw [← z7] at x6
    have e2 : PU m_World_isPage [ww 0, .inl (σ 23 0 c i)] σ (b2 (isPg P (co g c (6 + 2 * i)))) := by
      rw [z7]
      exact P_W_isPage h.x.1 _
    unfold lkF at hQ
    refine T_World_leaksOf_4 _ _ _ _ _ _ _ _ _ ?_
    (repeat' (first | (refine And.intro ?_ ?_) | (intro hzq; simp only [b2_e0, b2_e1, Classical.not_not, ne_eq] at hzq) | (intro hzq) | exact Or.inl rfl | exact Or.inr rfl | refine PU.I (e2) ?_)) <;> try omega
    all_goals (rw [wr_id (by omega)])
    · rw [if_neg (by rw [← z7]; omega)] at hQ
      exact L_W_leaksOf h hc Q m (i + 1) a _ (by omega) (by omega) hQ
    · rw [z6]
      rw [if_pos (by rw [← z7]; omega)] at hQ
      exact L_W_leaksOf h hc Q m (i + 1) _ _ (by omega) (by omega) hQ
theorem P_W_leaksOf (h : IVg σ P g n) {c : Int} (hc : isCo P c) : PU m_World_leaksOf [ww 0, kk 0 c] σ (lkF g c (co g c 4).toNat 0 0) := by
  have h5 := (h.w.c.cnt c hc).1
  exact PU.mk fun Q hQ => T_World_leaksOf _ _ _ _ _ _ (L_W_leaksOf h hc Q (co g c 4).toNat 0 0 _ (by omega) (by omega) hQ)
theorem L_X_leaks (h : IVg σ P g n) (r : Int) (Q : Option AV → ST → Prop) : ∀ (m : Nat) (i a : Int), i + m = P.nc → 0 ≤ i → in32 a → (∀ x, x = lkA g r m i a → Q (some (.inl x)) σ) → wp m_X_leaks (17, [some xx, some (.inl r), some (.inl a), some (.inl i)], [], σ) Q
  | 0, i, a, h1, h0, ha, hQ => by
    have e0 := h.x.1.nc
    refine T_X_leaks_17 _ _ _ _ _ _ _ ?_
    (repeat' (first | (refine And.intro ?_ ?_) | (intro hzq; simp only [b2_e0, b2_e1, Classical.not_not, ne_eq] at hzq) | (intro hzq) | exact Or.inl rfl | exact Or.inr rfl)) <;> try omega
    exact hQ _ rfl
  | m + 1, i, a, h1, h0, ha, hQ => by
    have e0 := h.x.1.nc
    have c1 := h.z.ok.c1
    have hc : isCo P i := ⟨h0, by omega⟩
    have z2 := (h.x.1.co i hc.1 hc.2).room
    unfold lkA at hQ
    refine T_X_leaks_17 _ _ _ _ _ _ _ ?_
    (repeat' (first | (refine And.intro ?_ ?_) | (intro hzq; simp only [b2_e0, b2_e1, Classical.not_not, ne_eq] at hzq) | (intro hzq) | exact Or.inl rfl | exact Or.inr rfl | refine PU.I (P_W_isCore h.x.1 _) ?_ | refine PU.I (P_W_leaksOf h hc) ?_)) <;> try omega
    all_goals (rw [wr_id (by omega)])
    · rw [if_neg (by omega)] at hQ
      exact L_X_leaks h r Q m (i + 1) a (by omega) (by omega) ha hQ
    · rw [if_pos (by omega), lkF_0 _ _ _ _ _ ha] at hQ
      exact L_X_leaks h r Q m (i + 1) _ (by omega) (by omega) (i_or_32 _ _) hQ
theorem X_rd_leaks (h : IVg σ P g n) (r : Int) : PU m_X_leaks [xx, .inl r] σ (v_leaks r σ P g) := by
  have c0 := h.z.ok.c0
  refine PU.mk fun Q hQ => T_X_leaks _ _ _ _ _ ?_
  unfold v_leaks at hQ
  by_cases hr : isRm g r
  · rw [if_pos hr] at hQ
    (repeat' (first | (refine And.intro ?_ ?_) | (intro hzq; simp only [b2_e0, b2_e1, Classical.not_not, ne_eq] at hzq) | (intro hzq) | exact Or.inl rfl | exact Or.inr rfl | refine PU.I (P_W_isRoom h.x.1 _) ?_)) <;> try omega
    exact L_X_leaks h r Q P.nc.toNat 0 0 (by omega) (by omega) in32_0 hQ
  · rw [if_neg hr] at hQ
    (repeat' (first | (refine And.intro ?_ ?_) | (intro hzq; simp only [b2_e0, b2_e1, Classical.not_not, ne_eq] at hzq) | (intro hzq) | exact Or.inl rfl | exact Or.inr rfl | refine PU.I (P_W_isRoom h.x.1 _) ?_)) <;> try omega
    exact hQ _ rfl
theorem L_Z_leaks27 (h : IVg σ P g n) {r c : Int} (hc : isCo P c) (hi : co g c 1 = r) (Q : Option AV → ST → Prop) (K : Int → Prop) (G : ∀ (a o : Int), in32 a → K a → wp m_Z_leaks (14, [some zz, some (.inl r), some (.inl a), some (.inl (c + 1)), some (.inl o)], [], σ) Q) : ∀ (m : Nat) (i a : Int), i + m = co g c 4 → 0 ≤ i → in32 a → K (lkF g c m i a) → wp m_Z_leaks (27, [some zz, some (.inl r), some (.inl a), some (.inl c), some (.inl i)], [], σ) Q
  | 0, i, a, h1, h0, ha, hK => by
    have c1 := h.z.ok.c1
    refine T_Z_leaks_27 _ _ _ _ _ _ _ _ ?_
    rw [wr_id (x := c + 1) (by omega)]
    (repeat' (first | (refine And.intro ?_ ?_) | (intro hzq; simp only [b2_e0, b2_e1, Classical.not_not, ne_eq] at hzq) | (intro hzq) | exact Or.inl rfl | exact Or.inr rfl | refine PU.I (P_Z_ofCore h.z (by omega) (by omega) (by omega) (by omega)) ?_)) <;> try omega
    exact G a i ha hK
  | m + 1, i, a, h1, h0, ha, hK => by
    have c1 := h.z.ok.c1
    have p1 := h.z.ok.p1
    have h4 := h.x.2 c hc
    have s := (h.w.c.see c i hc h0 (by omega)).2.1
    have e1 : PU m_Z_ofCore [zz, .inl c, .inl (wr (wr (5 + wr (2 * i)) + 1))] σ (co g c (6 + 2 * i)) := by
      rw [wr_id (x := 2 * i) (by omega), wr_id (x := 5 + 2 * i) (by omega), wr_id (by omega), show 5 + 2 * i + 1 = 6 + 2 * i by omega]
      exact P_Z_ofCore h.z (by omega) (by omega) (by omega) (by omega)
    have e2 : PU m_Z_ofCore [zz, .inl c, .inl (wr (5 + wr (2 * i)))] σ (co g c (5 + 2 * i)) := by
      rw [wr_id (x := 2 * i) (by omega), wr_id (x := 5 + 2 * i) (by omega)]
      exact P_Z_ofCore h.z (by omega) (by omega) (by omega) (by omega)
    unfold lkF at hK
    refine T_Z_leaks_27 _ _ _ _ _ _ _ _ ?_
    rw [wr_id (x := c + 1) (by omega), i_or_0 ha]
    (repeat' (first | (refine And.intro ?_ ?_) | (intro hzq; simp only [b2_e0, b2_e1, Classical.not_not, ne_eq] at hzq) | (intro hzq) | exact Or.inl rfl | exact Or.inr rfl | refine PU.I (e1) ?_ | refine PU.I (e2) ?_ | refine PU.I (P_Z_ofCore h.z (by omega) (by omega) (by omega) (by omega)) ?_ | refine PU.I (P_Z_ofPage h.z (by omega) (by omega) (by omega) (by omega)) ?_)) <;> try omega
    all_goals (rw [wr_id (by omega)])
    · rw [if_neg (by omega)] at hK
      exact L_Z_leaks27 h hc hi Q K G m (i + 1) a (by omega) (by omega) ha hK
    · rw [if_pos (by omega)] at hK
      exact L_Z_leaks27 h hc hi Q K G m (i + 1) _ (by omega) (by omega) (i_or_32 _ _) hK
theorem L_Z_leaks (h : IVg σ P g n) (r : Int) (Q : Option AV → ST → Prop) : ∀ (m : Nat) (i a : Int) (o : Option AV), i + m = P.nc → 0 ≤ i → in32 a → (∀ x, x = lkA g r m i a → Q (some (.inl x)) σ) → wp m_Z_leaks (14, [some zz, some (.inl r), some (.inl a), some (.inl i), o], [], σ) Q
  | 0, i, a, o, h1, h0, ha, hQ => by
    have e0 := h.z.nc
    refine T_Z_leaks_14 _ _ _ _ _ _ _ _ ?_
    refine And.intro (by omega) (And.intro (fun _ => hQ _ rfl) (fun q => absurd (show σ 43 0 0 1 ≤ i by omega) q))
  | m + 1, i, a, o, h1, h0, ha, hQ => by
    have e0 := h.z.nc
    have c1 := h.z.ok.c1
    have hc : isCo P i := ⟨h0, by omega⟩
    have ct := h.w.c.cnt i hc
    refine T_Z_leaks_14 _ _ _ _ _ _ _ _ ?_
    refine And.intro (by omega) (And.intro (fun q => absurd q (by omega)) (fun _ => ?_))
    unfold lkA at hQ
    by_cases hi : co g i 1 = r
    · rw [if_pos hi] at hQ
      exact L_Z_leaks27 h hc hi Q (fun b => ∀ x, x = lkA g r m (i + 1) b → Q (some (.inl x)) σ) (fun b o hb hK => L_Z_leaks h r Q m (i + 1) b _ (by omega) (by omega) hb hK) (co g i 4).toNat 0 a (by omega) (by omega) ha hQ
    · rw [if_neg hi] at hQ
      have h4 := h.x.2 i hc
      refine T_Z_leaks_27 _ _ _ _ _ _ _ _ ?_
      rw [wr_id (x := i + 1) (by omega)]
      refine PU.I (P_Z_ofCore h.z (by omega) (by omega) (by omega) (by omega)) ?_
      refine And.intro (fun _ => L_Z_leaks h r Q m (i + 1) a _ (by omega) (by omega) ha hQ) (fun _ => ?_)
      refine PU.I (P_Z_ofCore h.z (by omega) (by omega) (by omega) (by omega)) ?_
      exact And.intro (fun _ => L_Z_leaks h r Q m (i + 1) a _ (by omega) (by omega) ha hQ) (fun q => absurd hi q)
theorem Z_rd_leaks (h : IVg σ P g n) (r : Int) : PU m_Z_leaks [zz, .inl r] σ (v_leaks r σ P g) := by
  have c0 := h.z.ok.c0
  refine PU.mk fun Q hQ => T_Z_leaks _ _ _ _ _ ?_
  unfold v_leaks at hQ
  by_cases hr : isRm g r
  · rw [if_pos hr] at hQ
    (repeat' (first | (refine And.intro ?_ ?_) | (intro hzq; simp only [b2_e0, b2_e1, Classical.not_not, ne_eq] at hzq) | (intro hzq) | exact Or.inl rfl | exact Or.inr rfl | refine PU.I (P_Z_isRoom h.z _) ?_)) <;> try omega
    exact L_Z_leaks h r Q P.nc.toNat 0 0 _ (by omega) (by omega) in32_0 hQ
  · rw [if_neg hr] at hQ
    (repeat' (first | (refine And.intro ?_ ?_) | (intro hzq; simp only [b2_e0, b2_e1, Classical.not_not, ne_eq] at hzq) | (intro hzq) | exact Or.inl rfl | exact Or.inr rfl | refine PU.I (P_Z_isRoom h.z _) ?_)) <;> try omega
    exact hQ _ rfl
theorem L_X_vict (h : IVg σ P g n) (k : Int) (Q : Option AV → ST → Prop) : ∀ (m : Nat) (i : Int), i + m = P.np → 0 ≤ i → (∀ x, x = vk P g k m i → Q (some (.inl x)) σ) → wp m_X_victimOf (2, [some xx, some (.inl k), some (.inl i)], [], σ) Q
  | 0, i, h1, h0, hQ => by
    have e0 := h.x.1.np
    refine T_X_victimOf_2 _ _ _ _ _ _ ?_
    (repeat' (first | (refine And.intro ?_ ?_) | (intro hzq; simp only [b2_e0, b2_e1, Classical.not_not, ne_eq] at hzq) | (intro hzq) | exact Or.inl rfl | exact Or.inr rfl)) <;> try omega
    exact hQ _ rfl
  | m + 1, i, h1, h0, hQ => by
    have e0 := h.x.1.np
    have p1 := h.z.ok.p1
    have hp : isPg P i := ⟨h0, by omega⟩
    have x1 := (h.x.1.pg i hp.1 hp.2).kind
    unfold vk at hQ
    refine T_X_victimOf_2 _ _ _ _ _ _ ?_
    (repeat' (first | (refine And.intro ?_ ?_) | (intro hzq; simp only [b2_e0, b2_e1, Classical.not_not, ne_eq] at hzq) | (intro hzq) | exact Or.inl rfl | exact Or.inr rfl | refine PU.I (P_W_isPage h.x.1 _) ?_ | refine PU.I (Q_W_canGo h.x.1 h.w hp) ?_)) <;> try omega
    all_goals (try rw [wr_id (by omega)])
    · exact L_X_vict h k Q m (i + 1) (by omega) (by omega) (fun x e => hQ x (e.trans (ff_no (fun z => by have := z.1; omega)).symm))
    · have hn : ¬ canGoG P g i := by assumption
      exact L_X_vict h k Q m (i + 1) (by omega) (by omega) (fun x e => hQ x (e.trans (ff_no (fun z => hn z.2)).symm))
    · have hy : canGoG P g i := by assumption
      exact hQ _ (ff_yes (c := fun p => pg g p 0 = k ∧ canGoG P g p) (n := m) ⟨by omega, hy⟩).symm
theorem P_X_vict (h : IVg σ P g n) (k : Int) : PU m_X_victimOf [xx, .inl k] σ (vk P g k P.np.toNat 0) := by
  have e1 := h.z.ok.p0
  exact PU.mk fun Q hQ => T_X_victimOf _ _ _ _ _ (L_X_vict h k Q P.np.toNat 0 (by omega) (by omega) hQ)
theorem X_rd_victim (h : IVg σ P g n) : PU m_X_victim [xx] σ (v_victim σ P g) := by
  refine PU.mk fun Q hQ => T_X_victim _ _ _ _ ?_
  have go : ∀ x, (x ≠ -1 → v_victim σ P g = x) → (x = -1 → v_victim σ P g = vk P g 1 P.np.toNat 0) → wp m_X_victim (17, [some xx, some (.inl x)], [], σ) Q := by
    intro x h1 h2
    refine T_X_victim_17 _ _ _ _ _ ?_
    exact And.intro (fun z => hQ _ (h1 z).symm) (fun z => PU.I (P_X_vict h 1) (hQ _ (h2 (by omega)).symm))
  have e : v_victim σ P g = (if vk P g 2 P.np.toNat 0 ≠ -1 then vk P g 2 P.np.toNat 0 else if vk P g 3 P.np.toNat 0 ≠ -1 then vk P g 3 P.np.toNat 0 else vk P g 1 P.np.toNat 0) := by
    unfold v_victim
    rw [vcF_eq P g _ _ _ (by omega) (Or.inl rfl), if_neg (fun z => z.1 rfl)]
    (repeat' split) <;> first | rfl | omega
  refine PU.I (P_X_vict h 2) ?_
  refine And.intro (fun z => go _ (fun _ => by rw [e, if_pos z]) (fun q => absurd q z)) (fun z => PU.I (P_X_vict h 3) (go _ (fun q => by rw [e, if_neg z, if_pos q]) (fun q => by rw [e, if_neg z, if_neg (fun y => y q)])))
theorem P_Z_rank (k : Int) (σ : ST) : PU m_Z_rankOf [.inl k] σ (rkG k) := by
  refine PU.mk fun Q hQ => T_Z_rankOf _ _ _ ?_
  (repeat' (first | (refine And.intro ?_ ?_) | (intro hzq; simp only [b2_e0, b2_e1, Classical.not_not, ne_eq] at hzq) | (intro hzq) | exact Or.inl rfl | exact Or.inr rfl)) <;> try omega
  all_goals (refine hQ _ ?_; unfold rkG; (repeat' split) <;> first | rfl | omega | exact congrArg _ (by omega))
theorem L_Z_vict (h : IVg σ P g n) (Q : Option AV → ST → Prop) : ∀ (m : Nat) (i b : Int), i + m = P.np → 0 ≤ i → (b = -1 ∨ isPg P b) → (∀ x, x = vcF P g m i b → Q (some (.inl x)) σ) → wp m_Z_victim (13, [some zz, some (.inl b), some (.inl i)], [], σ) Q
  | 0, i, b, h1, h0, hb, hQ => by
    have e0 := h.z.np
    refine T_Z_victim_13 _ _ _ _ _ _ ?_
    (repeat' (first | (refine And.intro ?_ ?_) | (intro hzq; simp only [b2_e0, b2_e1, Classical.not_not, ne_eq] at hzq) | (intro hzq) | exact Or.inl rfl | exact Or.inr rfl)) <;> try omega
    exact hQ _ rfl
  | m + 1, i, b, h1, h0, hb, hQ => by
    have e0 := h.z.np
    have p1 := h.z.ok.p1
    have hp : isPg P i := ⟨h0, by omega⟩
    have kd := h.w.p.kd i hp
    unfold vcF at hQ
    have no : ¬ ((pg g i 0 ≠ 0 ∧ canGoG P g i) ∧ (b = -1 ∨ rkG (pg g i 0) < rkG (pg g b 0))) → wp m_Z_victim (13, [some zz, some (.inl b), some (.inl (i + 1))], [], σ) Q := by
      intro z
      rw [if_neg z] at hQ
      exact L_Z_vict h Q m (i + 1) b (by omega) (by omega) hb hQ
    have yes : ((pg g i 0 ≠ 0 ∧ canGoG P g i) ∧ (b = -1 ∨ rkG (pg g i 0) < rkG (pg g b 0))) → wp m_Z_victim (13, [some zz, some (.inl i), some (.inl (i + 1))], [], σ) Q := by
      intro z
      rw [if_pos z] at hQ
      exact L_Z_vict h Q m (i + 1) i (by omega) (by omega) (Or.inr hp) hQ
    refine T_Z_victim_13 _ _ _ _ _ _ ?_
    rw [wr_id (by omega)]
    refine And.intro (by omega) (And.intro (fun q => absurd q (by omega)) (fun _ => ?_))
    refine PU.I (P_Z_isUsed h.z _) ?_
    rw [b2_e0]
    refine And.intro (fun u => no (fun z => u ⟨hp, z.1.1⟩)) (fun u => ?_)
    have k1 : pg g i 0 ≠ 0 := (Classical.not_not.mp u).2
    refine PU.I (P_Z_canGo h.z h.gr hp (by omega) (by omega)) ?_
    rw [b2_e0]
    refine And.intro (fun u => no (fun z => u z.1.2)) (fun u => ?_)
    have k2 : canGoG P g i := Classical.not_not.mp u
    refine And.intro (fun e => yes ⟨⟨k1, k2⟩, Or.inl e⟩) (fun e => ?_)
    have hb2 : isPg P b := hb.resolve_left e
    refine PU.I (P_Z_ofPage h.z (by omega) (by omega) (by omega) (by omega)) (PU.I (P_Z_rank _ _) (PU.I (P_Z_ofPage h.z (by omega) (by omega) (by omega) (by omega)) (PU.I (P_Z_rank _ _) ?_)))
    exact And.intro (fun q => no (fun z => z.2.elim e (fun y => by omega))) (fun q => yes ⟨⟨k1, k2⟩, Or.inr (by omega)⟩)
theorem Z_rd_victim (h : IVg σ P g n) : PU m_Z_victim [zz] σ (v_victim σ P g) := by
  have hb := bz_iff h.z.mac
  have p0 := h.z.ok.p0
  refine PU.mk fun Q hQ => T_Z_victim _ _ _ _ ?_
  by_cases hp : P.np = 0
  · (repeat' (first | (refine And.intro ?_ ?_) | (intro hzq; simp only [b2_e0, b2_e1, Classical.not_not, ne_eq] at hzq) | (intro hzq) | exact Or.inl rfl | exact Or.inr rfl)) <;> try omega
    refine hQ _ ?_
    unfold v_victim
    rw [hp]
    rfl
  · (repeat' (first | (refine And.intro ?_ ?_) | (intro hzq; simp only [b2_e0, b2_e1, Classical.not_not, ne_eq] at hzq) | (intro hzq) | exact Or.inl rfl | exact Or.inr rfl)) <;> try omega
    exact L_Z_vict h Q P.np.toNat 0 (-1) (by omega) (by omega) (Or.inl rfl) hQ
end RDE
theorem PR_rule (x : Int) : PRf m_X_rule m_Z_rule [.inl x] := PR_pu (v_rule x) (fun _ _ _ _ h => X_rd_rule h x) (fun _ _ _ _ h => Z_rd_rule h x)
theorem PR_page (p w : Int) : PRf m_X_page m_Z_page [.inl p, .inl w] := PR_pu (v_page p w) (fun _ _ _ _ h => X_rd_page h p w) (fun _ _ _ _ h => Z_rd_page h p w)
theorem PR_version (p s : Int) : PRf m_X_version m_Z_version [.inl p, .inl s] := PR_pu (v_version p s) (fun _ _ _ _ h => X_rd_version h p s) (fun _ _ _ _ h => Z_rd_version h p s)
theorem PR_mapped (r a : Int) : PRf m_X_mapped m_Z_mapped [.inl r, .inl a] := PR_pu (v_mapped r a) (fun _ _ _ _ h => X_rd_mapped h r a) (fun _ _ _ _ h => Z_rd_mapped h r a)
theorem PR_core (c w : Int) : PRf m_X_core m_Z_core [.inl c, .inl w] := PR_pu (v_core c w) (fun _ _ _ _ h => X_rd_core h c w) (fun _ _ _ _ h => Z_rd_core h c w)
theorem PR_seen (c i w : Int) : PRf m_X_seen m_Z_seen [.inl c, .inl i, .inl w] := PR_pu (v_seen c i w) (fun _ _ _ _ h => X_rd_seen h c i w) (fun _ _ _ _ h => Z_rd_seen h c i w)
theorem PR_copyOf (c w : Int) : PRf m_X_copyOf m_Z_copyOf [.inl c, .inl w] := PR_pu (v_copyOf c w) (fun _ _ _ _ h => X_rd_copyOf h c w) (fun _ _ _ _ h => Z_rd_copyOf h c w)
theorem PR_report (c r : Int) : PRf m_X_report m_Z_report [.inl c, .inl r] := PR_pu (v_report c r) (fun _ _ _ _ h => X_rd_report h c r) (fun _ _ _ _ h => Z_rd_report h c r)
theorem PR_proves (c r x y : Int) : PRf m_X_proves m_Z_proves [.inl c, .inl r, .inl x, .inl y] := PR_pu (v_proves c r x y) (fun _ _ _ _ h => X_rd_proves h c r x y) (fun _ _ _ _ h => Z_rd_proves h c r x y)
theorem PR_status (x : Int) : PRf m_X_status m_Z_status [.inl x] := PR_pu (v_status x) (fun _ _ _ _ h => X_rd_status h x) (fun _ _ _ _ h => Z_rd_status h x)
theorem PR_log (i w : Int) : PRf m_X_log m_Z_log [.inl i, .inl w] := PR_pu (v_log i w) (fun _ _ _ _ h => X_rd_log h i w) (fun _ _ _ _ h => Z_rd_log h i w)
theorem PR_alike (r o : Int) : PRf m_X_alike m_Z_alike [.inl r, .inl o] := PR_pu (v_alike r o) (fun _ _ _ _ h => X_rd_alike h r o) (fun _ _ _ _ h => Z_rd_alike h r o)
theorem PR_count (x : Int) : PRf m_X_count m_Z_count [.inl x] := PR_pu (v_count x) (fun _ _ _ _ h => X_rd_count h x) (fun _ _ _ _ h => Z_rd_count h x)
theorem PR_step (m i w : Int) : PRf m_X_step m_Z_step [.inl m, .inl i, .inl w] := PR_pu (v_step m i w) (fun _ _ _ _ h => X_rd_step h m i w) (fun _ _ _ _ h => Z_rd_step h m i w)
theorem PR_all (x : Int) : PRf m_X_all m_Z_all [.inl x] := PR_pu (v_all x) (fun _ _ _ _ h => X_rd_all h x) (fun _ _ _ _ h => Z_rd_all h x)
theorem PR_waits (p : Int) : PRf m_X_waits m_Z_waits [.inl p] := PR_pu (v_waits p) (fun _ _ _ _ h => X_rd_waits h p) (fun _ _ _ _ h => Z_rd_waits h p)
theorem PR_old : PRf m_X_old m_Z_old [] := PR_pu v_old (fun _ _ _ _ h => X_rd_old h) (fun _ _ _ _ h => Z_rd_old h)
theorem PR_twins (c : Int) : PRf m_X_twins m_Z_twins [.inl c] := PR_pu (v_twins c) (fun _ _ _ _ h => X_rd_twins h c) (fun _ _ _ _ h => Z_rd_twins h c)
theorem PR_lies (r : Int) : PRf m_X_lies m_Z_lies [.inl r] := PR_pu (v_lies r) (fun _ _ _ _ h => X_rd_lies h r) (fun _ _ _ _ h => Z_rd_lies h r)
theorem PR_leaks (r : Int) : PRf m_X_leaks m_Z_leaks [.inl r] := PR_pu (v_leaks r) (fun _ _ _ _ h => X_rd_leaks h r) (fun _ _ _ _ h => Z_rd_leaks h r)
theorem PR_victim : PRf m_X_victim m_Z_victim [] := PR_pu v_victim (fun _ _ _ _ h => X_rd_victim h) (fun _ _ _ _ h => Z_rd_victim h)
