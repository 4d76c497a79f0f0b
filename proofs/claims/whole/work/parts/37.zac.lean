/-! the reference's acts that clear, enter, double, remove -/
def clrF (p : Int) : Nat → Int → (Int → Int) → Int → Int
  | 0, _, g => g
  | n + 1, i, g => clrF p n (i + 1) (sp g p i (if i = 1 ∨ i = 2 ∨ i = 5 then -1 else 0))
def clearG (g : Int → Int) (p : Int) : Int → Int := clrF p 11 0 g
def dblF (c o : Int) : Nat → Int → (Int → Int) → Int → Int
  | 0, _, g => g
  | n + 1, i, g => dblF c o n (i + 1) (sy g o i (cp g c i))
def enterG (g : Int → Int) (c r p : Int) : Int → Int := sp (sc (sc (sc (sc g c 1 r) c 2 p) c 3 (rm g r 5)) c 4 0) p 6 1
def resumeG (g : Int → Int) (c r p : Int) : Int → Int := sp (sc (enterG g c r p) c 0 (pg g p 4)) p 4 0
def mExt (m v : Int) : Int := wr (wr (wr (31 * m) + 1000) + v)
def mAdd (m a k ri : Int) : Int := wr (wr (wr (wr (31 * m) + wr (64 * a)) + wr (8 * k)) + ri)
def removeG (g : Int → Int) (p : Int) : Int → Int := if pg g p 0 = 4 then clearG g p else if pg g p 0 = 1 then clearG (sr g (pg g p 1) 0 0) p else clearG (sr g (pg g p 1) (7 + pg g p 2) 0) p
section ZA
variable {σ0 σ : ST} {P : MP} {g : Int → Int}
theorem fPage_in (P : MP) (g : Int → Int) (h0 : 0 ≤ P.np) : fPage P g = -1 ∨ (0 ≤ fPage P g ∧ fPage P g < P.np ∧ pg g (fPage P g) 0 = 0) := by
  unfold fPage
  rcases ff_at (c := fun p => pg g p 0 = 0) P.np.toNat 0 with h | h
  · exact Or.inl h
  · exact Or.inr ⟨by omega, by omega, h.2.2⟩
theorem fRoom_in (g : Int → Int) : fRoom g = -1 ∨ (0 ≤ fRoom g ∧ fRoom g < 4 ∧ rm g (fRoom g) 0 = 0) := by
  unfold fRoom
  rcases ff_at (c := fun p => rm g p 0 = 0) 4 0 with h | h
  · exact Or.inl h
  · exact Or.inr ⟨by omega, by omega, h.2.2⟩
theorem fPlace_in (g : Int → Int) : fPlace g = -1 ∨ (0 ≤ fPlace g ∧ fPlace g < 12 ∧ cp g (fPlace g) 0 = 0) := by
  unfold fPlace
  rcases ff_at (c := fun p => cp g p 0 = 0) 12 0 with h | h
  · exact Or.inl h
  · exact Or.inr ⟨by omega, by omega, h.2.2⟩
theorem pageAt_in (P : MP) (g : Int → Int) (h0 : 0 ≤ P.np) (r a : Int) : pageAtG P g r a = -1 ∨ isPo P g (pageAtG P g r a) r a := by
  unfold pageAtG
  rcases ff_at (c := fun p => isPo P g p r a) P.np.toNat 0 with h | h
  · exact Or.inl h
  · exact Or.inr h.2.2
theorem L_Z_clear {p : Int} (h0 : 0 ≤ p) (h1 : p < 10) (Q : Option AV → ST → Prop) : ∀ (n : Nat) (i : Int) (g : Int → Int) (σ : ST), i + n = 11 → 0 ≤ i → ZT σ0 σ P g → (∀ s, ZT σ0 s P (clrF p n i g) → Q none s) → wp m_Z_clearPage (2, [some zz, some (.inl p), some (.inl i)], [], σ) Q
  | 0, i, g, σ, h, hi, hz, K => by
    refine T_Z_clearPage_2 _ _ _ _ _ _ ?_
    (repeat' (first | (refine And.intro ?_ ?_) | (intro hzq; simp only [b2_e0, b2_e1, Classical.not_not, ne_eq] at hzq) | (intro hzq) | exact Or.inl rfl | exact Or.inr rfl)) <;> try omega
    exact K σ hz
  | n + 1, i, g, σ, h, hi, hz, K => by
    refine T_Z_clearPage_2 _ _ _ _ _ _ ?_
    have K1 : ∀ v, v = (if i = 1 ∨ i = 2 ∨ i = 5 then (-1 : Int) else 0) → ∀ s, ZT σ0 s P (clrF p n (i + 1) (sp g p i v)) → Q none s := by
      intro v e s hs
      rw [e] at hs
      exact K s hs
    (repeat' (first | (refine And.intro ?_ ?_) | (intro hzq; simp only [b2_e0, b2_e1, Classical.not_not, ne_eq] at hzq) | (intro hzq) | exact Or.inl rfl | exact Or.inr rfl | refine Z_setPage hz (by omega) (by omega) (by omega) (by omega) (fun s hz => ?_))) <;> try omega
    all_goals (rw [wr_id (by omega)]; first | exact L_Z_clear h0 h1 Q n (i + 1) _ _ (by omega) (by omega) hz (K1 _ (by rw [if_pos (by omega)])) | exact L_Z_clear h0 h1 Q n (i + 1) _ _ (by omega) (by omega) hz (K1 _ (by rw [if_neg (by omega)])))
theorem Z_clear (hz : ZT σ0 σ P g) {p : Int} (h0 : 0 ≤ p) (h1 : p < 10) {F : ST → Prop} (K : ∀ s, ZT σ0 s P (clearG g p) → F s) : wpM m_Z_clearPage [zz, .inl p] σ (asV F) := by
  refine T_Z_clearPage _ _ _ _ _ ?_
  exact L_Z_clear h0 h1 _ 11 0 g σ (by omega) (by omega) hz K
theorem A_Z_slots (hz : ZT σ0 σ P g) (hf : fPage P g ≠ -1) {F : Int → ST → Prop} (K : ∀ s, ZT σ0 s P (sp (clearG g (fPage P g)) (fPage P g) 0 4) → F (fPage P g) s) : wpM m_Z_slotsNow [zz] σ (asI F) := by
  have e0 := hz.1.ok.p0
  have e1 := hz.1.ok.p1
  have e2 := fPage_in P g e0
  refine T_Z_slotsNow _ _ _ _ ?_
  refine PU.I (Q_fPage hz.1) ?_
  refine Z_clear hz (by omega) (by omega) (fun s hz => ?_)
  refine Z_setPage hz (by omega) (by omega) (by omega) (by omega) (fun sx hz => ?_)
  exact K _ hz
theorem A_Z_enter (hz : ZT σ0 σ P g) (hg : GR P g) {c r a p : Int} (h0 : 0 ≤ c) (h1 : c < 3) (h2 : 0 ≤ r) (h3 : r < 4) (h4 : 0 ≤ a) (h5 : a < 8) (hp : rm g r (15 + a) - 1 = p) (h6 : 0 ≤ p) (h7 : p < 10) {F : Int → ST → Prop} (K : ∀ s, ZT σ0 s P (enterG g c r p) → F p s) : wpM m_Z_enterNow [zz, .inl c, .inl r, .inl a] σ (asI F) := by
  refine T_Z_enterNow _ _ _ _ _ _ _ ?_
  refine PU.I ((P_Z_mapOf hz.1 hg (by omega) (by omega) (by omega) (by omega)).to hp) ?_
  refine Z_setCore hz (by omega) (by omega) (by omega) (by omega) (fun sx hz => ?_)
  refine Z_setCore hz (by omega) (by omega) (by omega) (by omega) (fun sx hz => ?_)
  refine PU.I (P_Z_ofRoom hz.1 (by omega) (by omega) (by omega) (by omega)) ?_
  have e : rm (sc (sc g c 1 r) c 2 p) r 5 = rm g r 5 := by
    clear K hp
    (simp only [outG, sc, sp, sr, sy, co, pg, rm, cp, put] at *; (repeat' split) <;> first | rfl | omega)
  rw [e]
  refine Z_setCore hz (by omega) (by omega) (by omega) (by omega) (fun sx hz => ?_)
  refine Z_setCore hz (by omega) (by omega) (by omega) (by omega) (fun sx hz => ?_)
  refine Z_setPage hz (by omega) (by omega) (by omega) (by omega) (fun sx hz => ?_)
  exact K _ hz
theorem A_Z_resume (hz : ZT σ0 σ P g) (hg : GR P g) {c r a p : Int} (h0 : 0 ≤ c) (h1 : c < 3) (h2 : 0 ≤ r) (h3 : r < 4) (h4 : 0 ≤ a) (h5 : a < 8) (hp : rm g r (15 + a) - 1 = p) (h6 : 0 ≤ p) (h7 : p < 10) {F : Int → ST → Prop} (K : ∀ s, ZT σ0 s P (resumeG g c r p) → F (pg g p 4) s) : wpM m_Z_resumeNow [zz, .inl c, .inl r, .inl a] σ (asI F) := by
  refine T_Z_resumeNow _ _ _ _ _ _ _ ?_
  refine A_Z_enter hz hg h0 h1 h2 h3 h4 h5 hp h6 h7 (fun s hz => ?_)
  refine PU.I (P_Z_ofPage hz.1 (by omega) (by omega) (by omega) (by omega)) ?_
  have e : pg (enterG g c r p) p 4 = pg g p 4 := by
    clear K hp
    unfold enterG
    (simp only [outG, sc, sp, sr, sy, co, pg, rm, cp, put] at *; (repeat' split) <;> first | rfl | omega)
  rw [e]
  refine Z_setCore hz (by omega) (by omega) (by omega) (by omega) (fun sx hz => ?_)
  refine Z_setPage hz (by omega) (by omega) (by omega) (by omega) (fun sx hz => ?_)
  refine PU.I (P_Z_ofCore hz.1 (by omega) (by omega) (by omega) (by omega)) ?_
  have e2 : co (sp (sc (enterG g c r p) c 0 (pg g p 4)) p 4 0) c 0 = pg g p 4 := by
    clear K hp e
    have e3 : ∀ (f : Int → Int) (v : Int), co (sp (sc f c 0 v) p 4 0) c 0 = v := by
      intro f v
      unfold co sp sc put
      rw [if_neg (by omega), if_pos rfl]
    exact e3 _ _
  show F (co (sp (sc (enterG g c r p) c 0 (pg g p 4)) p 4 0) c 0) _
  rw [e2]
  exact K _ hz
theorem A_Z_extend (hz : ZT σ0 σ P g) {r a : Int} (h0 : 0 ≤ r) (h1 : r < 4) (hf : pageAtG P g r a ≠ -1) {F : Int → ST → Prop} (K : ∀ s, ZT σ0 s P (sr g r 4 (mExt (rm g r 4) (pg g (pageAtG P g r a) 4))) → F (mExt (rm g r 4) (pg g (pageAtG P g r a) 4)) s) : wpM m_Z_extendNow [zz, .inl r, .inl a] σ (asI F) := by
  have e0 := hz.1.ok.p0
  have e1 := hz.1.ok.p1
  have e2 := pageAt_in P g e0 r a
  refine T_Z_extendNow _ _ _ _ _ _ ?_
  refine PU.I (P_Z_ofRoom hz.1 (by omega) (by omega) (by omega) (by omega)) ?_
  refine PU.I (show PU m_Z_pageAt [zz, .inl r, .inl a] σ (pageAtG P g r a) from P_Z_pageAt hz.1 r a) ?_
  refine PU.I (P_Z_ofPage hz.1 (by omega) (by omega) (by omega) (by omega)) ?_
  refine Z_setRoom hz (by omega) (by omega) (by omega) (by omega) (fun sx hz => ?_)
  refine PU.I (P_Z_ofRoom hz.1 (by omega) (by omega) (by omega) (by omega)) ?_
  have e : ∀ v, rm (sr g r 4 v) r 4 = v := by
    intro v
    unfold rm sr put
    exact if_pos rfl
  show F (rm (sr g r 4 _) r 4) _
  rw [e]
  exact K _ hz
theorem L_Z_double {c o : Int} (h0 : 0 ≤ c) (h1 : c < 12) (h2 : 0 ≤ o) (h3 : o < 12) (Q : Option AV → ST → Prop) : ∀ (n : Nat) (i : Int) (g : Int → Int) (σ : ST), i + n = 9 → 0 ≤ i → ZT σ0 σ P g → (∀ s, ZT σ0 s P (dblF c o n i g) → Q (some (.inl o)) s) → wp m_Z_doubleNow (7, [some zz, some (.inl c), some (.inl o), some (.inl i)], [], σ) Q
  | 0, i, g, σ, h, hi, hz, K => by
    refine T_Z_doubleNow_7 _ _ _ _ _ _ _ ?_
    (repeat' (first | (refine And.intro ?_ ?_) | (intro hzq; simp only [b2_e0, b2_e1, Classical.not_not, ne_eq] at hzq) | (intro hzq) | exact Or.inl rfl | exact Or.inr rfl)) <;> try omega
    exact K σ hz
  | n + 1, i, g, σ, h, hi, hz, K => by
    refine T_Z_doubleNow_7 _ _ _ _ _ _ _ ?_
    (repeat' (first | (refine And.intro ?_ ?_) | (intro hzq; simp only [b2_e0, b2_e1, Classical.not_not, ne_eq] at hzq) | (intro hzq) | exact Or.inl rfl | exact Or.inr rfl | refine PU.I (P_Z_ofCopy hz.1 (by omega) (by omega) (by omega) (by omega)) ?_ | refine Z_setCopy hz (by omega) (by omega) (by omega) (by omega) (fun s hz => ?_))) <;> try omega
    all_goals (rw [wr_id (by omega)]; exact L_Z_double h0 h1 h2 h3 Q n (i + 1) _ _ (by omega) (by omega) hz K)
theorem A_Z_double (hz : ZT σ0 σ P g) {c : Int} (h0 : 0 ≤ c) (h1 : c < 12) (hf : fPlace g ≠ -1) {F : Int → ST → Prop} (K : ∀ s, ZT σ0 s P (dblF c (fPlace g) 9 0 g) → F (fPlace g) s) : wpM m_Z_doubleNow [zz, .inl c] σ (asI F) := by
  have e2 := fPlace_in g
  refine T_Z_doubleNow _ _ _ _ _ ?_
  refine PU.I (Q_fPlace hz.1) ?_
  exact L_Z_double h0 h1 (by omega) (by omega) _ 9 0 g σ (by omega) (by omega) hz K
theorem A_Z_remove (hz : ZT σ0 σ P g) {p : Int} (h0 : 0 ≤ p) (h1 : p < 10) (ho : pg g p 0 ≠ 4 → 0 ≤ pg g p 1 ∧ pg g p 1 < 4) (ha : pg g p 0 ≠ 4 → pg g p 0 ≠ 1 → 0 ≤ pg g p 2 ∧ pg g p 2 < 8) {F : Int → ST → Prop} (K : ∀ s, ZT σ0 s P (removeG g p) → F (pg g p 0) s) : wpM m_Z_removeNow [zz, .inl p] σ (asI F) := by
  refine T_Z_removeNow _ _ _ _ _ ?_
  unfold removeG at K
  by_cases h4 : pg g p 0 = 4
  · rw [if_pos h4] at K
    (repeat' (first | (refine And.intro ?_ ?_) | (intro hzq; simp only [b2_e0, b2_e1, Classical.not_not, ne_eq] at hzq) | (intro hzq) | exact Or.inl rfl | exact Or.inr rfl | refine PU.I (P_Z_ofPage hz.1 (by omega) (by omega) (by omega) (by omega)) ?_ | refine Z_clear hz h0 h1 (fun s hz => ?_))) <;> try omega
    exact K _ hz
  · rw [if_neg h4] at K
    have e1 := ho h4
    by_cases h5 : pg g p 0 = 1
    · rw [if_pos h5] at K
      (repeat' (first | (refine And.intro ?_ ?_) | (intro hzq; simp only [b2_e0, b2_e1, Classical.not_not, ne_eq] at hzq) | (intro hzq) | exact Or.inl rfl | exact Or.inr rfl | refine PU.I (P_Z_ofPage hz.1 (by omega) (by omega) (by omega) (by omega)) ?_ | refine Z_setRoom hz (by omega) (by omega) (by omega) (by omega) (fun s hz => ?_) | refine Z_clear hz h0 h1 (fun s hz => ?_))) <;> try omega
      exact K _ hz
    · rw [if_neg h5] at K
      have e2 := ha h4 h5
      have e3 : ∀ F : ST → Prop, (∀ s, ZT σ0 s P (sr g (pg g p 1) (7 + pg g p 2) 0) → F s) → wpM m_Z_setRoom [zz, .inl (pg g p 1), .inl (wr (7 + pg g p 2)), .inl 0] σ (asV F) := by
        intro F K
        rw [wr_id (by omega)]
        exact Z_setRoom hz (by omega) (by omega) (by omega) (by omega) K
      (repeat' (first | (refine And.intro ?_ ?_) | (intro hzq; simp only [b2_e0, b2_e1, Classical.not_not, ne_eq] at hzq) | (intro hzq) | exact Or.inl rfl | exact Or.inr rfl | refine PU.I (P_Z_ofPage hz.1 (by omega) (by omega) (by omega) (by omega)) ?_ | refine e3 _ (fun s hz => ?_) | refine Z_clear hz h0 h1 (fun s hz => ?_))) <;> try omega
      exact K _ hz
end ZA
