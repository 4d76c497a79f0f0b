/-! the reference's readers -/
def GR (P : MP) (g : Int → Int) : Prop := (∀ r, 0 ≤ r → r < 4 → 0 ≤ rm g r 2 ∧ rm g r 2 ≤ 8) ∧ (∀ r a, 0 ≤ r → r < 4 → 0 ≤ a → a < 8 → 0 ≤ rm g r (15 + a) ∧ rm g r (15 + a) ≤ 10) ∧ (∀ r, 0 ≤ r → r < 4 → 0 ≤ rm g r 5 ∧ rm g r 5 ≤ 1000000) ∧ (∀ p, isPg P p → 1 ≤ pg g p 0 → pg g p 0 ≤ 3 → 0 ≤ pg g p 1 ∧ pg g p 1 < 4) ∧ (∀ c, isCo P c → co g c 1 ≠ -1 → 0 ≤ co g c 1 ∧ co g c 1 < 4) ∧ (∀ c, isCo P c → 0 ≤ co g c 4 ∧ co g c 4 ≤ 3) ∧ (∀ c i, isCo P c → 0 ≤ i → i < co g c 4 → 0 ≤ co g c (5 + 2 * i) ∧ co g c (5 + 2 * i) < 8) ∧ (∀ c i, isCo P c → 0 ≤ i → i < co g c 4 → isPg P (co g c (6 + 2 * i)))
theorem GR.rsz {P : MP} {g : Int → Int} (h : GR P g) : ∀ r, 0 ≤ r → r < 4 → 0 ≤ rm g r 2 ∧ rm g r 2 ≤ 8 := h.1
theorem GR.map {P : MP} {g : Int → Int} (h : GR P g) : ∀ r a, 0 ≤ r → r < 4 → 0 ≤ a → a < 8 → 0 ≤ rm g r (15 + a) ∧ rm g r (15 + a) ≤ 10 := h.2.1
theorem GR.epo {P : MP} {g : Int → Int} (h : GR P g) : ∀ r, 0 ≤ r → r < 4 → 0 ≤ rm g r 5 ∧ rm g r 5 ≤ 1000000 := h.2.2.1
theorem GR.own {P : MP} {g : Int → Int} (h : GR P g) : ∀ p, isPg P p → 1 ≤ pg g p 0 → pg g p 0 ≤ 3 → 0 ≤ pg g p 1 ∧ pg g p 1 < 4 := h.2.2.2.1
theorem GR.cin {P : MP} {g : Int → Int} (h : GR P g) : ∀ c, isCo P c → co g c 1 ≠ -1 → 0 ≤ co g c 1 ∧ co g c 1 < 4 := h.2.2.2.2.1
theorem GR.cnt {P : MP} {g : Int → Int} (h : GR P g) : ∀ c, isCo P c → 0 ≤ co g c 4 ∧ co g c 4 ≤ 3 := h.2.2.2.2.2.1
theorem GR.sad {P : MP} {g : Int → Int} (h : GR P g) : ∀ c i, isCo P c → 0 ≤ i → i < co g c 4 → 0 ≤ co g c (5 + 2 * i) ∧ co g c (5 + 2 * i) < 8 := h.2.2.2.2.2.2.1
theorem GR.spg {P : MP} {g : Int → Int} (h : GR P g) : ∀ c i, isCo P c → 0 ≤ i → i < co g c 4 → isPg P (co g c (6 + 2 * i)) := h.2.2.2.2.2.2.2
theorem i_or_32 (x y : Int) : in32 (i_or x y) := n_of _
theorem i_or_0 {x : Int} (h : in32 x) : i_or x 0 = x := by
  unfold i_or
  rw [n_0, Int32.or_zero, n_toInt h]
/-- the set of those that are so; how many -/
def bf (c : Int → Prop) [DecidablePred c] : Nat → Int → Int → Int
  | 0, _, a => a
  | n + 1, i, a => bf c n (i + 1) (if c i then i_or a (i_shl 1 i) else a)
theorem bf_y {c : Int → Prop} [DecidablePred c] {n : Nat} {i a : Int} (h : c i) : bf c (n + 1) i a = bf c n (i + 1) (i_or a (i_shl 1 i)) := by
  show bf c n (i + 1) (if c i then _ else _) = _
  rw [if_pos h]
theorem bf_n {c : Int → Prop} [DecidablePred c] {n : Nat} {i a : Int} (h : ¬ c i) : bf c (n + 1) i a = bf c n (i + 1) a := by
  show bf c n (i + 1) (if c i then _ else _) = _
  rw [if_neg h]
theorem bf_iff {c d : Int → Prop} [DecidablePred c] [DecidablePred d] : ∀ (n : Nat) (i a : Int), (∀ j, i ≤ j → j < i + n → (c j ↔ d j)) → bf c n i a = bf d n i a
  | 0, _, _, _ => rfl
  | n + 1, i, a, h => by
    have h0 := h i (Int.le_refl _) (by omega)
    by_cases hc : c i
    · rw [bf_y hc, bf_y (h0.mp hc)]
      exact bf_iff n (i + 1) _ (fun j x y => h j (by omega) (by omega))
    · rw [bf_n hc, bf_n (fun z => hc (h0.mpr z))]
      exact bf_iff n (i + 1) _ (fun j x y => h j (by omega) (by omega))
def nf (c : Int → Prop) [DecidablePred c] : Nat → Int → Int → Int
  | 0, _, a => a
  | n + 1, i, a => nf c n (i + 1) (if c i then a + 1 else a)
theorem nf_y {c : Int → Prop} [DecidablePred c] {n : Nat} {i a : Int} (h : c i) : nf c (n + 1) i a = nf c n (i + 1) (a + 1) := by
  show nf c n (i + 1) (if c i then _ else _) = _
  rw [if_pos h]
theorem nf_n {c : Int → Prop} [DecidablePred c] {n : Nat} {i a : Int} (h : ¬ c i) : nf c (n + 1) i a = nf c n (i + 1) a := by
  show nf c n (i + 1) (if c i then _ else _) = _
  rw [if_neg h]
theorem nf_iff {c d : Int → Prop} [DecidablePred c] [DecidablePred d] : ∀ (n : Nat) (i a : Int), (∀ j, i ≤ j → j < i + n → (c j ↔ d j)) → nf c n i a = nf d n i a
  | 0, _, _, _ => rfl
  | n + 1, i, a, h => by
    have h0 := h i (Int.le_refl _) (by omega)
    by_cases hc : c i
    · rw [nf_y hc, nf_y (h0.mp hc)]
      exact nf_iff n (i + 1) _ (fun j x y => h j (by omega) (by omega))
    · rw [nf_n hc, nf_n (fun z => hc (h0.mpr z))]
      exact nf_iff n (i + 1) _ (fun j x y => h j (by omega) (by omega))
section ZR2
variable {σ : ST} {P : MP} {g : Int → Int}
theorem P_Z_areSlots (hz : ZS σ P g) (p : Int) : PU m_Z_areSlots [zz, .inl p] σ (b2 (isPg P p ∧ pg g p 0 = 4)) := by
  have e2 := hz.ok.p1
  refine PU.mk fun Q hQ => T_Z_areSlots _ _ _ _ _ ?_
  (repeat' (first | (refine And.intro ?_ ?_) | (intro hzq; simp only [b2_e0, b2_e1, Classical.not_not, ne_eq] at hzq) | (intro hzq) | exact Or.inl rfl | exact Or.inr rfl | refine PU.I (P_Z_isPage hz _) ?_ | refine PU.I (P_Z_ofPage hz (by omega) (by omega) (by omega) (by omega)) ?_)) <;> try omega
  all_goals (first | exact hQ _ (b2_l (by omega)) | exact hQ _ (b2_h (by omega)))
theorem P_Z_isRoom (hz : ZS σ P g) (r : Int) : PU m_Z_isRoom [zz, .inl r] σ (b2 (isRm g r)) := by
  have e1 : P.np = 0 → 0 ≤ r → r < 4 → rm g r 0 = 0 := fun h a b => hz.zr h r a b
  refine PU.mk fun Q hQ => T_Z_isRoom _ _ _ _ _ ?_
  rw [hz.mac]
  (repeat' (first | (refine And.intro ?_ ?_) | (intro hzq; simp only [b2_e0, b2_e1, Classical.not_not, ne_eq] at hzq) | (intro hzq) | exact Or.inl rfl | exact Or.inr rfl | refine PU.I (P_Z_in _ _ _ _) ?_ | refine PU.I (P_Z_ofRoom hz (by omega) (by omega) (by omega) (by omega)) ?_)) <;> try omega
  all_goals (first | exact hQ _ (b2_l (by omega)) | exact hQ _ (b2_h (by omega)))
theorem P_Z_isCopy (hz : ZS σ P g) (r : Int) : PU m_Z_isCopy [zz, .inl r] σ (b2 (isCp g r)) := by
  have e1 : P.np = 0 → 0 ≤ r → r < 12 → cp g r 0 = 0 := fun h a b => hz.zc h r a b
  refine PU.mk fun Q hQ => T_Z_isCopy _ _ _ _ _ ?_
  rw [hz.mac]
  (repeat' (first | (refine And.intro ?_ ?_) | (intro hzq; simp only [b2_e0, b2_e1, Classical.not_not, ne_eq] at hzq) | (intro hzq) | exact Or.inl rfl | exact Or.inr rfl | refine PU.I (P_Z_in _ _ _ _) ?_ | refine PU.I (P_Z_ofCopy hz (by omega) (by omega) (by omega) (by omega)) ?_)) <;> try omega
  all_goals (first | exact hQ _ (b2_l (by omega)) | exact hQ _ (b2_h (by omega)))
theorem P_Z_isCore (hz : ZS σ P g) (p : Int) : PU m_Z_isCore [zz, .inl p] σ (b2 (isCo P p)) := by
  have e0 := hz.nc
  have e1 := hz.ok.c0
  have e2 := hz.ok.c1
  have e3 := hz.ok.z
  refine PU.mk fun Q hQ => T_Z_isCore _ _ _ _ _ ?_
  rw [hz.mac, wr_id (by omega)]
  (repeat' (first | (refine And.intro ?_ ?_) | (intro hzq; simp only [b2_e0, b2_e1, Classical.not_not, ne_eq] at hzq) | (intro hzq) | exact Or.inl rfl | exact Or.inr rfl | refine PU.I (P_Z_in _ _ _ _) ?_)) <;> try omega
  all_goals (first | exact hQ _ (b2_l (by omega)) | exact hQ _ (b2_h (by omega)))
theorem P_Z_isAway (hz : ZS σ P g) {r : Int} (h0 : 0 ≤ r) (h1 : r < 4) : PU m_Z_isAway [zz, .inl r] σ (b2 (rm g r 6 = 1)) := by
  refine PU.mk fun Q hQ => T_Z_isAway _ _ _ _ _ ?_
  (repeat' (first | (refine And.intro ?_ ?_) | (intro hzq; simp only [b2_e0, b2_e1, Classical.not_not, ne_eq] at hzq) | (intro hzq) | exact Or.inl rfl | exact Or.inr rfl | refine PU.I (P_Z_ofRoom hz (by omega) (by omega) (by omega) (by omega)) ?_)) <;> try omega
  all_goals (first | exact hQ _ (b2_l (by omega)) | exact hQ _ (b2_h (by omega)))
theorem P_Z_isInside (hz : ZS σ P g) {c : Int} (h0 : 0 ≤ c) (h1 : c < 3) : PU m_Z_isInside [zz, .inl c] σ (b2 (co g c 1 ≠ -1)) := by
  refine PU.mk fun Q hQ => T_Z_isInside _ _ _ _ _ ?_
  (repeat' (first | (refine And.intro ?_ ?_) | (intro hzq; simp only [b2_e0, b2_e1, Classical.not_not, ne_eq] at hzq) | (intro hzq) | exact Or.inl rfl | exact Or.inr rfl | refine PU.I (P_Z_ofCore hz (by omega) (by omega) (by omega) (by omega)) ?_)) <;> try omega
  all_goals (first | exact hQ _ (b2_l (by omega)) | exact hQ _ (b2_h (by omega)))
theorem P_Z_isAddress (hz : ZS σ P g) (hg : GR P g) {r : Int} (h0 : 0 ≤ r) (h1 : r < 4) (a : Int) : PU m_Z_isAddress [zz, .inl r, .inl a] σ (b2 (0 ≤ a ∧ a < rm g r 2)) := by
  have e1 := hg.rsz r h0 h1
  refine PU.mk fun Q hQ => T_Z_isAddress _ _ _ _ _ _ ?_
  refine PU.I (P_Z_ofRoom hz (by omega) (by omega) (by omega) (by omega)) ?_
  rw [wr_id (by omega)]
  refine PU.I (P_Z_in _ _ _ _) ?_
  exact ⟨b2_01 _, hQ _ (b2_iff (by constructor <;> intro h <;> omega))⟩
theorem P_Z_isMoving (hz : ZS σ P g) {p : Int} (h0 : 0 ≤ p) (h1 : p < 10) : PU m_Z_isMoving [zz, .inl p] σ (b2 (pg g p 0 = 2 ∨ pg g p 0 = 3)) := by
  refine PU.mk fun Q hQ => T_Z_isMoving _ _ _ _ _ ?_
  (repeat' (first | (refine And.intro ?_ ?_) | (intro hzq; simp only [b2_e0, b2_e1, Classical.not_not, ne_eq] at hzq) | (intro hzq) | exact Or.inl rfl | exact Or.inr rfl | refine PU.I (P_Z_ofPage hz (by omega) (by omega) (by omega) (by omega)) ?_)) <;> try omega
  all_goals (first | exact hQ _ (b2_l (by omega)) | exact hQ _ (b2_h (by omega)))
abbrev isPo (P : MP) (g : Int → Int) (p r a : Int) : Prop := isPg P p ∧ (pg g p 0 = 2 ∨ pg g p 0 = 3) ∧ pg g p 1 = r ∧ pg g p 2 = a
theorem P_Z_isPageOf (hz : ZS σ P g) (p r a : Int) : PU m_Z_isPageOf [zz, .inl p, .inl r, .inl a] σ (b2 (isPo P g p r a)) := by
  have e2 := hz.ok.p1
  have key : isPg P p → (pg g p 0 = 2 ∨ pg g p 0 = 3) → ∀ Q : Option AV → ST → Prop, (∀ x, x = b2 (isPo P g p r a) → Q (some (.inl x)) σ) → wp m_Z_isPageOf (28, [some zz, some (.inl p), some (.inl r), some (.inl a)], [], σ) Q := by
    intro h1 h2 Q hQ
    refine T_Z_isPageOf_28 _ _ _ _ _ _ _ ?_
    (repeat' (first | (refine And.intro ?_ ?_) | (intro hzq; simp only [b2_e0, b2_e1, Classical.not_not, ne_eq] at hzq) | (intro hzq) | exact Or.inl rfl | exact Or.inr rfl | refine PU.I (P_Z_ofPage hz (by omega) (by omega) (by omega) (by omega)) ?_)) <;> try omega
    all_goals (first | exact hQ _ (b2_l (by omega)) | exact hQ _ (b2_h (by omega)))
  refine PU.mk fun Q hQ => T_Z_isPageOf _ _ _ _ _ _ _ ?_
  (repeat' (first | (refine And.intro ?_ ?_) | (intro hzq; simp only [b2_e0, b2_e1, Classical.not_not, ne_eq] at hzq) | (intro hzq) | exact Or.inl rfl | exact Or.inr rfl | refine PU.I (P_Z_isPage hz _) ?_ | refine PU.I (P_Z_ofPage hz (by omega) (by omega) (by omega) (by omega)) ?_)) <;> try omega
  all_goals (first | exact key (by omega) (by omega) Q hQ | exact hQ _ (b2_l (by omega)))
theorem L_Z_pageAt (hz : ZS σ P g) (r a : Int) (Q : Option AV → ST → Prop) : ∀ (n : Nat) (i : Int), i + n = P.np → 0 ≤ i → (∀ x, x = ff (fun p => isPo P g p r a) n i → Q (some (.inl x)) σ) → wp m_Z_pageAt (2, [some zz, some (.inl r), some (.inl a), some (.inl i)], [], σ) Q
  | 0, i, h, h0, hQ => by
    have e0 := hz.np
    refine T_Z_pageAt_2 _ _ _ _ _ _ _ ?_
    (repeat' (first | (refine And.intro ?_ ?_) | (intro hzq; simp only [b2_e0, b2_e1, Classical.not_not, ne_eq] at hzq) | (intro hzq) | exact Or.inl rfl | exact Or.inr rfl)) <;> try omega
    exact hQ _ rfl
  | n + 1, i, h, h0, hQ => by
    have e0 := hz.np
    have e2 := hz.ok.p1
    refine T_Z_pageAt_2 _ _ _ _ _ _ _ ?_
    (repeat' (first | (refine And.intro ?_ ?_) | (intro hzq; simp only [b2_e0, b2_e1, Classical.not_not, ne_eq] at hzq) | (intro hzq) | exact Or.inl rfl | exact Or.inr rfl | refine PU.I (P_Z_isPageOf hz _ _ _) ?_)) <;> try omega
    all_goals (first | exact hQ _ (by rw [ff_yes (by omega)]) | (simp (disch := omega) only [wr_id]; exact L_Z_pageAt hz r a Q n (i + 1) (by omega) (by omega) (fun x e => hQ x (by rw [e, ff_no (by omega)]))))
theorem P_Z_pageAt (hz : ZS σ P g) (r a : Int) : PU m_Z_pageAt [zz, .inl r, .inl a] σ (ff (fun p => isPo P g p r a) P.np.toNat 0) := by
  have e1 := hz.ok.p0
  exact PU.mk fun Q hQ => T_Z_pageAt _ _ _ _ _ _ (L_Z_pageAt hz r a Q P.np.toNat 0 (by omega) (by omega) hQ)
theorem L_Z_freeRoom (hz : ZS σ P g) (Q : Option AV → ST → Prop) : ∀ (n : Nat) (i : Int), i + n = 4 → 0 ≤ i → (∀ x, x = ff (fun r => rm g r 0 = 0) n i → Q (some (.inl x)) σ) → wp m_Z_freeRoom (2, [some zz, some (.inl i)], [], σ) Q
  | 0, i, h, h0, hQ => by
    refine T_Z_freeRoom_2 _ _ _ _ _ ?_
    (repeat' (first | (refine And.intro ?_ ?_) | (intro hzq; simp only [b2_e0, b2_e1, Classical.not_not, ne_eq] at hzq) | (intro hzq) | exact Or.inl rfl | exact Or.inr rfl)) <;> try omega
    exact hQ _ rfl
  | n + 1, i, h, h0, hQ => by
    refine T_Z_freeRoom_2 _ _ _ _ _ ?_
    (repeat' (first | (refine And.intro ?_ ?_) | (intro hzq; simp only [b2_e0, b2_e1, Classical.not_not, ne_eq] at hzq) | (intro hzq) | exact Or.inl rfl | exact Or.inr rfl | refine PU.I (P_Z_ofRoom hz (by omega) (by omega) (by omega) (by omega)) ?_)) <;> try omega
    all_goals (first | exact hQ _ (by rw [ff_yes (by omega)]) | (simp (disch := omega) only [wr_id]; exact L_Z_freeRoom hz Q n (i + 1) (by omega) (by omega) (fun x e => hQ x (by rw [e, ff_no (by omega)]))))
theorem P_Z_freeRoom (hz : ZS σ P g) : PU m_Z_freeRoom [zz] σ (ff (fun r => rm g r 0 = 0) 4 0) :=
  PU.mk fun Q hQ => T_Z_freeRoom _ _ _ _ (L_Z_freeRoom hz Q 4 0 (by omega) (by omega) hQ)
theorem L_Z_freePlace (hz : ZS σ P g) (Q : Option AV → ST → Prop) : ∀ (n : Nat) (i : Int), i + n = 12 → 0 ≤ i → (∀ x, x = ff (fun r => cp g r 0 = 0) n i → Q (some (.inl x)) σ) → wp m_Z_freePlace (2, [some zz, some (.inl i)], [], σ) Q
  | 0, i, h, h0, hQ => by
    refine T_Z_freePlace_2 _ _ _ _ _ ?_
    (repeat' (first | (refine And.intro ?_ ?_) | (intro hzq; simp only [b2_e0, b2_e1, Classical.not_not, ne_eq] at hzq) | (intro hzq) | exact Or.inl rfl | exact Or.inr rfl)) <;> try omega
    exact hQ _ rfl
  | n + 1, i, h, h0, hQ => by
    refine T_Z_freePlace_2 _ _ _ _ _ ?_
    (repeat' (first | (refine And.intro ?_ ?_) | (intro hzq; simp only [b2_e0, b2_e1, Classical.not_not, ne_eq] at hzq) | (intro hzq) | exact Or.inl rfl | exact Or.inr rfl | refine PU.I (P_Z_ofCopy hz (by omega) (by omega) (by omega) (by omega)) ?_)) <;> try omega
    all_goals (first | exact hQ _ (by rw [ff_yes (by omega)]) | (simp (disch := omega) only [wr_id]; exact L_Z_freePlace hz Q n (i + 1) (by omega) (by omega) (fun x e => hQ x (by rw [e, ff_no (by omega)]))))
theorem P_Z_freePlace (hz : ZS σ P g) : PU m_Z_freePlace [zz] σ (ff (fun r => cp g r 0 = 0) 12 0) :=
  PU.mk fun Q hQ => T_Z_freePlace _ _ _ _ (L_Z_freePlace hz Q 12 0 (by omega) (by omega) hQ)
theorem L_Z_roomBy (hz : ZS σ P g) (s : Int) (Q : Option AV → ST → Prop) : ∀ (n : Nat) (i : Int), i + n = 4 → 0 ≤ i → (∀ x, x = ff (fun r => rm g r 0 = 1 ∧ rm g r 1 = s) n i → Q (some (.inl x)) σ) → wp m_Z_roomBy (2, [some zz, some (.inl s), some (.inl i)], [], σ) Q
  | 0, i, h, h0, hQ => by
    refine T_Z_roomBy_2 _ _ _ _ _ _ ?_
    (repeat' (first | (refine And.intro ?_ ?_) | (intro hzq; simp only [b2_e0, b2_e1, Classical.not_not, ne_eq] at hzq) | (intro hzq) | exact Or.inl rfl | exact Or.inr rfl)) <;> try omega
    exact hQ _ rfl
  | n + 1, i, h, h0, hQ => by
    refine T_Z_roomBy_2 _ _ _ _ _ _ ?_
    (repeat' (first | (refine And.intro ?_ ?_) | (intro hzq; simp only [b2_e0, b2_e1, Classical.not_not, ne_eq] at hzq) | (intro hzq) | exact Or.inl rfl | exact Or.inr rfl | refine PU.I (P_Z_isRoom hz _) ?_ | refine PU.I (P_Z_ofRoom hz (by omega) (by omega) (by omega) (by omega)) ?_)) <;> try omega
    all_goals (first | exact hQ _ (by rw [ff_yes (by omega)]) | (simp (disch := omega) only [wr_id]; exact L_Z_roomBy hz s Q n (i + 1) (by omega) (by omega) (fun x e => hQ x (by rw [e, ff_no (by omega)]))))
theorem P_Z_roomBy (hz : ZS σ P g) (s : Int) : PU m_Z_roomBy [zz, .inl s] σ (ff (fun r => rm g r 0 = 1 ∧ rm g r 1 = s) 4 0) :=
  PU.mk fun Q hQ => T_Z_roomBy _ _ _ _ _ (L_Z_roomBy hz s Q 4 0 (by omega) (by omega) hQ)
theorem P_Z_mapOf (hz : ZS σ P g) (hg : GR P g) {r a : Int} (h0 : 0 ≤ r) (h1 : r < 4) (h2 : 0 ≤ a) (h3 : a < 8) : PU m_Z_mapOf [zz, .inl r, .inl a] σ (rm g r (15 + a) - 1) := by
  have e1 := hg.map r a h0 h1 h2 h3
  refine PU.mk fun Q hQ => T_Z_mapOf _ _ _ _ _ _ ?_
  rw [wr_id (x := 15 + a) (by omega)]
  refine PU.I (P_Z_ofRoom hz (by omega) (by omega) (by omega) (by omega)) ?_
  rw [wr_id (by omega)]
  exact hQ _ rfl
theorem L_Z_insideOf (hz : ZS σ P g) (r : Int) (Q : Option AV → ST → Prop) : ∀ (n : Nat) (i a : Int), i + n = P.nc → 0 ≤ i → in32 a → (∀ x, x = bf (fun c => co g c 1 = r) n i a → Q (some (.inl x)) σ) → wp m_Z_insideOf (4, [some zz, some (.inl r), some (.inl a), some (.inl i)], [], σ) Q
  | 0, i, a, h, h0, ha, hQ => by
    have e0 := hz.nc
    refine T_Z_insideOf_4 _ _ _ _ _ _ _ ?_
    (repeat' (first | (refine And.intro ?_ ?_) | (intro hzq; simp only [b2_e0, b2_e1, Classical.not_not, ne_eq] at hzq) | (intro hzq) | exact Or.inl rfl | exact Or.inr rfl)) <;> try omega
    exact hQ _ rfl
  | n + 1, i, a, h, h0, ha, hQ => by
    have e0 := hz.nc
    have e2 := hz.ok.c1
    refine T_Z_insideOf_4 _ _ _ _ _ _ _ ?_
    rw [i_or_0 ha]
    (repeat' (first | (refine And.intro ?_ ?_) | (intro hzq; simp only [b2_e0, b2_e1, Classical.not_not, ne_eq] at hzq) | (intro hzq) | exact Or.inl rfl | exact Or.inr rfl | refine PU.I (P_Z_ofCore hz (by omega) (by omega) (by omega) (by omega)) ?_)) <;> try omega
    all_goals (simp (disch := omega) only [wr_id]; first | exact L_Z_insideOf hz r Q n (i + 1) _ (by omega) (by omega) (i_or_32 _ _) (fun x e => hQ x (by rw [e, bf_y (by omega)])) | exact L_Z_insideOf hz r Q n (i + 1) _ (by omega) (by omega) ha (fun x e => hQ x (by rw [e, bf_n (by omega)])))
theorem P_Z_insideOf (hz : ZS σ P g) (r : Int) : PU m_Z_insideOf [zz, .inl r] σ (bf (fun c => co g c 1 = r) P.nc.toNat 0 0) := by
  have e1 := hz.ok.c0
  exact PU.mk fun Q hQ => T_Z_insideOf _ _ _ _ _ (L_Z_insideOf hz r Q P.nc.toNat 0 0 (by omega) (by omega) in32_0 hQ)
theorem L_Z_insideSince (hz : ZS σ P g) (r s : Int) (Q : Option AV → ST → Prop) : ∀ (n : Nat) (i a : Int), i + n = P.nc → 0 ≤ i → in32 a → (∀ x, x = bf (fun c => co g c 1 = r ∧ co g c 3 ≤ s) n i a → Q (some (.inl x)) σ) → wp m_Z_insideSince (5, [some zz, some (.inl r), some (.inl s), some (.inl a), some (.inl i)], [], σ) Q
  | 0, i, a, h, h0, ha, hQ => by
    have e0 := hz.nc
    refine T_Z_insideSince_5 _ _ _ _ _ _ _ _ ?_
    (repeat' (first | (refine And.intro ?_ ?_) | (intro hzq; simp only [b2_e0, b2_e1, Classical.not_not, ne_eq] at hzq) | (intro hzq) | exact Or.inl rfl | exact Or.inr rfl)) <;> try omega
    exact hQ _ rfl
  | n + 1, i, a, h, h0, ha, hQ => by
    have e0 := hz.nc
    have e2 := hz.ok.c1
    refine T_Z_insideSince_5 _ _ _ _ _ _ _ _ ?_
    rw [i_or_0 ha]
    (repeat' (first | (refine And.intro ?_ ?_) | (intro hzq; simp only [b2_e0, b2_e1, Classical.not_not, ne_eq] at hzq) | (intro hzq) | exact Or.inl rfl | exact Or.inr rfl | refine PU.I (P_Z_ofCore hz (by omega) (by omega) (by omega) (by omega)) ?_)) <;> try omega
    all_goals (simp (disch := omega) only [wr_id]; first | exact L_Z_insideSince hz r s Q n (i + 1) _ (by omega) (by omega) (i_or_32 _ _) (fun x e => hQ x (by rw [e, bf_y (by omega)])) | exact L_Z_insideSince hz r s Q n (i + 1) _ (by omega) (by omega) ha (fun x e => hQ x (by rw [e, bf_n (by omega)])))
theorem P_Z_insideSince (hz : ZS σ P g) (r s : Int) : PU m_Z_insideSince [zz, .inl r, .inl s] σ (bf (fun c => co g c 1 = r ∧ co g c 3 ≤ s) P.nc.toNat 0 0) := by
  have e1 := hz.ok.c0
  exact PU.mk fun Q hQ => T_Z_insideSince _ _ _ _ _ _ (L_Z_insideSince hz r s Q P.nc.toNat 0 0 (by omega) (by omega) in32_0 hQ)
theorem L_Z_pagesOf (hz : ZS σ P g) (r w : Int) (Q : Option AV → ST → Prop) : ∀ (n : Nat) (i a : Int), i + n = P.np → 0 ≤ i → 0 ≤ a → a ≤ i → (∀ x, x = nf (fun p => pg g p 0 ≠ 0 ∧ pg g p 1 = r ∧ (w ≠ 0 ∨ pg g p 0 ≠ 1)) n i a → Q (some (.inl x)) σ) → wp m_Z_pagesOf (5, [some zz, some (.inl r), some (.inl w), some (.inl a), some (.inl i)], [], σ) Q
  | 0, i, a, h, h0, ha, hb, hQ => by
    have e0 := hz.np
    refine T_Z_pagesOf_5 _ _ _ _ _ _ _ _ ?_
    (repeat' (first | (refine And.intro ?_ ?_) | (intro hzq; simp only [b2_e0, b2_e1, Classical.not_not, ne_eq] at hzq) | (intro hzq) | exact Or.inl rfl | exact Or.inr rfl)) <;> try omega
    exact hQ _ rfl
  | n + 1, i, a, h, h0, ha, hb, hQ => by
    have e0 := hz.np
    have e2 := hz.ok.p1
    refine T_Z_pagesOf_5 _ _ _ _ _ _ _ _ ?_
    simp only [Int.add_zero]
    (repeat' (first | (refine And.intro ?_ ?_) | (intro hzq; simp only [b2_e0, b2_e1, Classical.not_not, ne_eq] at hzq) | (intro hzq) | exact Or.inl rfl | exact Or.inr rfl | refine PU.I (P_Z_ofPage hz (by omega) (by omega) (by omega) (by omega)) ?_)) <;> try omega
    all_goals (simp (disch := omega) only [wr_id]; first | exact L_Z_pagesOf hz r w Q n (i + 1) _ (by omega) (by omega) (by omega) (by omega) (fun x e => hQ x (by rw [e, nf_y (by omega)])) | exact L_Z_pagesOf hz r w Q n (i + 1) _ (by omega) (by omega) (by omega) (by omega) (fun x e => hQ x (by rw [e, nf_n (by omega)])))
theorem P_Z_pagesOf (hz : ZS σ P g) (r w : Int) : PU m_Z_pagesOf [zz, .inl r, .inl w] σ (nf (fun p => pg g p 0 ≠ 0 ∧ pg g p 1 = r ∧ (w ≠ 0 ∨ pg g p 0 ≠ 1)) P.np.toNat 0 0) := by
  have e1 := hz.ok.p0
  exact PU.mk fun Q hQ => T_Z_pagesOf _ _ _ _ _ _ (L_Z_pagesOf hz r w Q P.np.toNat 0 0 (by omega) (by omega) (by omega) (by omega) hQ)
theorem L_Z_emptySlots (hz : ZS σ P g) {p : Int} (hp0 : 0 ≤ p) (hp1 : p < 10) (Q : Option AV → ST → Prop) : ∀ (n : Nat) (i a : Int), i + n = 4 → 0 ≤ i → 0 ≤ a → a ≤ i → (∀ x, x = nf (fun s => pg g p (7 + s) = 0) n i a → Q (some (.inl x)) σ) → wp m_Z_emptySlots (4, [some zz, some (.inl p), some (.inl a), some (.inl i)], [], σ) Q
  | 0, i, a, h, h0, ha, hb, hQ => by
    refine T_Z_emptySlots_4 _ _ _ _ _ _ _ ?_
    (repeat' (first | (refine And.intro ?_ ?_) | (intro hzq; simp only [b2_e0, b2_e1, Classical.not_not, ne_eq] at hzq) | (intro hzq) | exact Or.inl rfl | exact Or.inr rfl)) <;> try omega
    exact hQ _ rfl
  | n + 1, i, a, h, h0, ha, hb, hQ => by
    refine T_Z_emptySlots_4 _ _ _ _ _ _ _ ?_
    rw [wr_id (x := 7 + i) (by omega)]
    simp only [Int.add_zero]
    (repeat' (first | (refine And.intro ?_ ?_) | (intro hzq; simp only [b2_e0, b2_e1, Classical.not_not, ne_eq] at hzq) | (intro hzq) | exact Or.inl rfl | exact Or.inr rfl | refine PU.I (P_Z_ofPage hz (by omega) (by omega) (by omega) (by omega)) ?_)) <;> try omega
    all_goals (simp (disch := omega) only [wr_id]; first | exact L_Z_emptySlots hz hp0 hp1 Q n (i + 1) _ (by omega) (by omega) (by omega) (by omega) (fun x e => hQ x (by rw [e, nf_y (by omega)])) | exact L_Z_emptySlots hz hp0 hp1 Q n (i + 1) _ (by omega) (by omega) (by omega) (by omega) (fun x e => hQ x (by rw [e, nf_n (by omega)])))
theorem P_Z_emptySlots (hz : ZS σ P g) {p : Int} (hp0 : 0 ≤ p) (hp1 : p < 10) : PU m_Z_emptySlots [zz, .inl p] σ (nf (fun s => pg g p (7 + s) = 0) 4 0 0) :=
  PU.mk fun Q hQ => T_Z_emptySlots _ _ _ _ _ (L_Z_emptySlots hz hp0 hp1 Q 4 0 0 (by omega) (by omega) (by omega) (by omega) hQ)
theorem L_Z_sightOf (hz : ZS σ P g) (hg : GR P g) {c : Int} (hc : isCo P c) (a : Int) (Q : Option AV → ST → Prop) : ∀ (n : Nat) (i : Int), i + n = co g c 4 → 0 ≤ i → (∀ x, x = ff (fun i => co g c (5 + 2 * i) = a) n i → Q (some (.inl x)) σ) → wp m_Z_sightOf (2, [some zz, some (.inl c), some (.inl a), some (.inl i)], [], σ) Q
  | 0, i, h, h0, hQ => by
    have e1 := hg.cnt c hc
    have e2 := hz.ok.c1
    refine T_Z_sightOf_2 _ _ _ _ _ _ _ ?_
    rw [wr_id (x := 2 * i) (by omega), wr_id (x := 5 + 2 * i) (by omega)]
    (repeat' (first | (refine And.intro ?_ ?_) | (intro hzq; simp only [b2_e0, b2_e1, Classical.not_not, ne_eq] at hzq) | (intro hzq) | exact Or.inl rfl | exact Or.inr rfl | refine PU.I (P_Z_ofCore hz (by omega) (by omega) (by omega) (by omega)) ?_)) <;> try omega
    all_goals exact hQ _ rfl
  | n + 1, i, h, h0, hQ => by
    have e1 := hg.cnt c hc
    have e2 := hz.ok.c1
    refine T_Z_sightOf_2 _ _ _ _ _ _ _ ?_
    rw [wr_id (x := 2 * i) (by omega), wr_id (x := 5 + 2 * i) (by omega)]
    (repeat' (first | (refine And.intro ?_ ?_) | (intro hzq; simp only [b2_e0, b2_e1, Classical.not_not, ne_eq] at hzq) | (intro hzq) | exact Or.inl rfl | exact Or.inr rfl | refine PU.I (P_Z_ofCore hz (by omega) (by omega) (by omega) (by omega)) ?_)) <;> try omega
    all_goals (first | exact hQ _ (by rw [ff_yes (by omega)]) | (simp (disch := omega) only [wr_id]; exact L_Z_sightOf hz hg hc a Q n (i + 1) (by omega) (by omega) (fun x e => hQ x (by rw [e, ff_no (by omega)]))))
theorem P_Z_sightOf (hz : ZS σ P g) (hg : GR P g) {c : Int} (hc : isCo P c) (a : Int) : PU m_Z_sightOf [zz, .inl c, .inl a] σ (ff (fun i => co g c (5 + 2 * i) = a) (co g c 4).toNat 0) := by
  have e1 := hg.cnt c hc
  exact PU.mk fun Q hQ => T_Z_sightOf _ _ _ _ _ _ (L_Z_sightOf hz hg hc a Q (co g c 4).toNat 0 (by omega) (by omega) hQ)
end ZR2
