/-! the component's own worlds: what they hold, and what they tell -/
def RPg (σ : ST) (k p : Int) (g : Int → Int) : Prop := (σ 14 k p 0 = pg g p 0) ∧ (σ 14 k p 1 = pg g p 1) ∧ (σ 14 k p 2 = pg g p 2) ∧ (σ 14 k p 3 = pg g p 3) ∧ (σ 14 k p 4 = pg g p 4) ∧ (bz (σ 14 k p 5) = b2 (pg g p 5 ≠ -1)) ∧ (pg g p 5 ≠ -1 → σ 14 k p 6 = pg g p 5) ∧ (σ 14 k p 7 = pg g p 6) ∧ (∀ s, 0 ≤ s → s < 4 → σ 15 k p s = pg g p (7 + s))
theorem RPg.kind {σ : ST} {k p : Int} {g : Int → Int} (h : RPg σ k p g) : σ 14 k p 0 = pg g p 0 := h.1
theorem RPg.own {σ : ST} {k p : Int} {g : Int → Int} (h : RPg σ k p g) : σ 14 k p 1 = pg g p 1 := h.2.1
theorem RPg.adr {σ : ST} {k p : Int} {g : Int → Int} (h : RPg σ k p g) : σ 14 k p 2 = pg g p 2 := h.2.2.1
theorem RPg.rig {σ : ST} {k p : Int} {g : Int → Int} (h : RPg σ k p g) : σ 14 k p 3 = pg g p 3 := h.2.2.2.1
theorem RPg.val {σ : ST} {k p : Int} {g : Int → Int} (h : RPg σ k p g) : σ 14 k p 4 = pg g p 4 := h.2.2.2.2.1
theorem RPg.blk {σ : ST} {k p : Int} {g : Int → Int} (h : RPg σ k p g) : bz (σ 14 k p 5) = b2 (pg g p 5 ≠ -1) := h.2.2.2.2.2.1
theorem RPg.bin {σ : ST} {k p : Int} {g : Int → Int} (h : RPg σ k p g) : pg g p 5 ≠ -1 → σ 14 k p 6 = pg g p 5 := h.2.2.2.2.2.2.1
theorem RPg.ent {σ : ST} {k p : Int} {g : Int → Int} (h : RPg σ k p g) : σ 14 k p 7 = pg g p 6 := h.2.2.2.2.2.2.2.1
theorem RPg.ver {σ : ST} {k p : Int} {g : Int → Int} (h : RPg σ k p g) : ∀ s, 0 ≤ s → s < 4 → σ 15 k p s = pg g p (7 + s) := h.2.2.2.2.2.2.2.2
def RRy (σ : ST) (k r : Int) (g : Int → Int) : Prop := (σ 17 k r 1 = rm g r 1) ∧ (σ 17 k r 2 = rm g r 2) ∧ (bz (σ 17 k r 3) = b2 (rm g r 3 = 2)) ∧ (σ 17 k r 4 = rm g r 4) ∧ (σ 17 k r 5 = rm g r 5) ∧ (bz (σ 17 k r 6) = b2 (rm g r 6 = 1)) ∧ (∀ a, 0 ≤ a → a < 8 → σ 18 k r a = rm g r (7 + a)) ∧ (∀ a, 0 ≤ a → a < 8 → σ 19 k r a = rm g r (15 + a) - 1)
theorem RRy.ser {σ : ST} {k r : Int} {g : Int → Int} (h : RRy σ k r g) : σ 17 k r 1 = rm g r 1 := h.1
theorem RRy.size {σ : ST} {k r : Int} {g : Int → Int} (h : RRy σ k r g) : σ 17 k r 2 = rm g r 2 := h.2.1
theorem RRy.seal {σ : ST} {k r : Int} {g : Int → Int} (h : RRy σ k r g) : bz (σ 17 k r 3) = b2 (rm g r 3 = 2) := h.2.2.1
theorem RRy.meas {σ : ST} {k r : Int} {g : Int → Int} (h : RRy σ k r g) : σ 17 k r 4 = rm g r 4 := h.2.2.2.1
theorem RRy.epo {σ : ST} {k r : Int} {g : Int → Int} (h : RRy σ k r g) : σ 17 k r 5 = rm g r 5 := h.2.2.2.2.1
theorem RRy.away {σ : ST} {k r : Int} {g : Int → Int} (h : RRy σ k r g) : bz (σ 17 k r 6) = b2 (rm g r 6 = 1) := h.2.2.2.2.2.1
theorem RRy.wher {σ : ST} {k r : Int} {g : Int → Int} (h : RRy σ k r g) : ∀ a, 0 ≤ a → a < 8 → σ 18 k r a = rm g r (7 + a) := h.2.2.2.2.2.2.1
theorem RRy.map {σ : ST} {k r : Int} {g : Int → Int} (h : RRy σ k r g) : ∀ a, 0 ≤ a → a < 8 → σ 19 k r a = rm g r (15 + a) - 1 := h.2.2.2.2.2.2.2
def RRm (σ : ST) (k r : Int) (g : Int → Int) : Prop := (bz (σ 17 k r 0) = b2 (rm g r 0 = 1)) ∧ (rm g r 0 = 1 → RRy σ k r g)
theorem RRm.there {σ : ST} {k r : Int} {g : Int → Int} (h : RRm σ k r g) : bz (σ 17 k r 0) = b2 (rm g r 0 = 1) := h.1
theorem RRm.y {σ : ST} {k r : Int} {g : Int → Int} (h : RRm σ k r g) : rm g r 0 = 1 → RRy σ k r g := h.2
def RCo (σ : ST) (k c : Int) (g : Int → Int) : Prop := (σ 21 k c 0 = co g c 0) ∧ (σ 21 k c 1 = co g c 1) ∧ (σ 21 k c 2 = co g c 2) ∧ (σ 21 k c 3 = co g c 3) ∧ (σ 21 k c 4 = co g c 4) ∧ (∀ i, 0 ≤ i → i < co g c 4 → σ 22 k c i = co g c (5 + 2 * i)) ∧ (∀ i, 0 ≤ i → i < co g c 4 → σ 23 k c i = co g c (6 + 2 * i))
theorem RCo.reg {σ : ST} {k c : Int} {g : Int → Int} (h : RCo σ k c g) : σ 21 k c 0 = co g c 0 := h.1
theorem RCo.room {σ : ST} {k c : Int} {g : Int → Int} (h : RCo σ k c g) : σ 21 k c 1 = co g c 1 := h.2.1
theorem RCo.ent {σ : ST} {k c : Int} {g : Int → Int} (h : RCo σ k c g) : σ 21 k c 2 = co g c 2 := h.2.2.1
theorem RCo.sin {σ : ST} {k c : Int} {g : Int → Int} (h : RCo σ k c g) : σ 21 k c 3 = co g c 3 := h.2.2.2.1
theorem RCo.cnt {σ : ST} {k c : Int} {g : Int → Int} (h : RCo σ k c g) : σ 21 k c 4 = co g c 4 := h.2.2.2.2.1
theorem RCo.adr {σ : ST} {k c : Int} {g : Int → Int} (h : RCo σ k c g) : ∀ i, 0 ≤ i → i < co g c 4 → σ 22 k c i = co g c (5 + 2 * i) := h.2.2.2.2.2.1
theorem RCo.pag {σ : ST} {k c : Int} {g : Int → Int} (h : RCo σ k c g) : ∀ i, 0 ≤ i → i < co g c 4 → σ 23 k c i = co g c (6 + 2 * i) := h.2.2.2.2.2.2
def RCy (σ : ST) (k c : Int) (g : Int → Int) : Prop := (σ 25 k c 1 = cp g c 1) ∧ (σ 25 k c 2 = cp g c 2) ∧ (σ 25 k c 3 = cp g c 3) ∧ (σ 25 k c 4 = cp g c 4) ∧ (σ 25 k c 5 = cp g c 5) ∧ (bz (σ 25 k c 6) = b2 (cp g c 6 = 1)) ∧ (σ 25 k c 7 = cp g c 7) ∧ (bz (σ 25 k c 8) = b2 (cp g c 8 = 1))
theorem RCy.ser {σ : ST} {k c : Int} {g : Int → Int} (h : RCy σ k c g) : σ 25 k c 1 = cp g c 1 := h.1
theorem RCy.adr {σ : ST} {k c : Int} {g : Int → Int} (h : RCy σ k c g) : σ 25 k c 2 = cp g c 2 := h.2.1
theorem RCy.kind {σ : ST} {k c : Int} {g : Int → Int} (h : RCy σ k c g) : σ 25 k c 3 = cp g c 3 := h.2.2.1
theorem RCy.rig {σ : ST} {k c : Int} {g : Int → Int} (h : RCy σ k c g) : σ 25 k c 4 = cp g c 4 := h.2.2.2.1
theorem RCy.val {σ : ST} {k c : Int} {g : Int → Int} (h : RCy σ k c g) : σ 25 k c 5 = cp g c 5 := h.2.2.2.2.1
theorem RCy.has {σ : ST} {k c : Int} {g : Int → Int} (h : RCy σ k c g) : bz (σ 25 k c 6) = b2 (cp g c 6 = 1) := h.2.2.2.2.2.1
theorem RCy.ver {σ : ST} {k c : Int} {g : Int → Int} (h : RCy σ k c g) : σ 25 k c 7 = cp g c 7 := h.2.2.2.2.2.2.1
theorem RCy.cha {σ : ST} {k c : Int} {g : Int → Int} (h : RCy σ k c g) : bz (σ 25 k c 8) = b2 (cp g c 8 = 1) := h.2.2.2.2.2.2.2
def RCp (σ : ST) (k c : Int) (g : Int → Int) : Prop := (bz (σ 25 k c 0) = b2 (cp g c 0 = 1)) ∧ (cp g c 0 = 1 → RCy σ k c g)
theorem RCp.there {σ : ST} {k c : Int} {g : Int → Int} (h : RCp σ k c g) : bz (σ 25 k c 0) = b2 (cp g c 0 = 1) := h.1
theorem RCp.y {σ : ST} {k c : Int} {g : Int → Int} (h : RCp σ k c g) : cp g c 0 = 1 → RCy σ k c g := h.2
def RLg (σ : ST) (k : Int) (g : Int → Int) : Prop := (σ 26 k 0 0 = g 345) ∧ (0 ≤ g 345) ∧ (g 345 ≤ 60) ∧ (0 ≤ σ 26 k 0 1) ∧ (σ 26 k 0 1 < 60) ∧ (∀ i, 0 ≤ i → i < g 345 → σ 27 k 0 ((σ 26 k 0 1 - 1 - i) % 60) = g (346 + 3 * (g 345 - 1 - i)) ∧ σ 28 k 0 ((σ 26 k 0 1 - 1 - i) % 60) = g (347 + 3 * (g 345 - 1 - i)) ∧ σ 29 k 0 ((σ 26 k 0 1 - 1 - i) % 60) = g (348 + 3 * (g 345 - 1 - i)))
theorem RLg.len {σ : ST} {k : Int} {g : Int → Int} (h : RLg σ k g) : σ 26 k 0 0 = g 345 := h.1
theorem RLg.l0 {σ : ST} {k : Int} {g : Int → Int} (h : RLg σ k g) : 0 ≤ g 345 := h.2.1
theorem RLg.l1 {σ : ST} {k : Int} {g : Int → Int} (h : RLg σ k g) : g 345 ≤ 60 := h.2.2.1
theorem RLg.n0 {σ : ST} {k : Int} {g : Int → Int} (h : RLg σ k g) : 0 ≤ σ 26 k 0 1 := h.2.2.2.1
theorem RLg.n1 {σ : ST} {k : Int} {g : Int → Int} (h : RLg σ k g) : σ 26 k 0 1 < 60 := h.2.2.2.2.1
theorem RLg.row {σ : ST} {k : Int} {g : Int → Int} (h : RLg σ k g) : ∀ i, 0 ≤ i → i < g 345 → σ 27 k 0 ((σ 26 k 0 1 - 1 - i) % 60) = g (346 + 3 * (g 345 - 1 - i)) ∧ σ 28 k 0 ((σ 26 k 0 1 - 1 - i) % 60) = g (347 + 3 * (g 345 - 1 - i)) ∧ σ 29 k 0 ((σ 26 k 0 1 - 1 - i) % 60) = g (348 + 3 * (g 345 - 1 - i)) := h.2.2.2.2.2
def RW (σ : ST) (k : Int) (P : MP) (g : Int → Int) : Prop := (MPok P) ∧ (σ 12 k 0 0 = P.np) ∧ (σ 12 k 0 1 = P.nc) ∧ (σ 12 k 0 2 = P.nh) ∧ (σ 12 k 0 3 = g 343) ∧ (σ 12 k 0 4 = g 344) ∧ (∀ p, 0 ≤ p → p < P.np → RPg σ k p g) ∧ (∀ r, 0 ≤ r → r < 4 → RRm σ k r g) ∧ (∀ c, 0 ≤ c → c < P.nc → RCo σ k c g) ∧ (∀ c, 0 ≤ c → c < 12 → RCp σ k c g) ∧ (RLg σ k g)
theorem RW.ok {σ : ST} {k : Int} {P : MP} {g : Int → Int} (h : RW σ k P g) : MPok P := h.1
theorem RW.np {σ : ST} {k : Int} {P : MP} {g : Int → Int} (h : RW σ k P g) : σ 12 k 0 0 = P.np := h.2.1
theorem RW.nc {σ : ST} {k : Int} {P : MP} {g : Int → Int} (h : RW σ k P g) : σ 12 k 0 1 = P.nc := h.2.2.1
theorem RW.nh {σ : ST} {k : Int} {P : MP} {g : Int → Int} (h : RW σ k P g) : σ 12 k 0 2 = P.nh := h.2.2.2.1
theorem RW.ver {σ : ST} {k : Int} {P : MP} {g : Int → Int} (h : RW σ k P g) : σ 12 k 0 3 = g 343 := h.2.2.2.2.1
theorem RW.ser {σ : ST} {k : Int} {P : MP} {g : Int → Int} (h : RW σ k P g) : σ 12 k 0 4 = g 344 := h.2.2.2.2.2.1
theorem RW.pg {σ : ST} {k : Int} {P : MP} {g : Int → Int} (h : RW σ k P g) : ∀ p, 0 ≤ p → p < P.np → RPg σ k p g := h.2.2.2.2.2.2.1
theorem RW.rm {σ : ST} {k : Int} {P : MP} {g : Int → Int} (h : RW σ k P g) : ∀ r, 0 ≤ r → r < 4 → RRm σ k r g := h.2.2.2.2.2.2.2.1
theorem RW.co {σ : ST} {k : Int} {P : MP} {g : Int → Int} (h : RW σ k P g) : ∀ c, 0 ≤ c → c < P.nc → RCo σ k c g := h.2.2.2.2.2.2.2.2.1
theorem RW.cp {σ : ST} {k : Int} {P : MP} {g : Int → Int} (h : RW σ k P g) : ∀ c, 0 ≤ c → c < 12 → RCp σ k c g := h.2.2.2.2.2.2.2.2.2.1
theorem RW.lg {σ : ST} {k : Int} {P : MP} {g : Int → Int} (h : RW σ k P g) : RLg σ k g := h.2.2.2.2.2.2.2.2.2.2
section WR
variable {σ : ST} {k : Int} {P : MP} {g : Int → Int}
theorem P_W_isPage (hw : RW σ k P g) (p : Int) : PU m_World_isPage [ww k, .inl p] σ (b2 (isPg P p)) := by
  have e0 := hw.np
  have e2 := hw.ok.p1
  refine PU.mk fun Q hQ => T_World_isPage _ _ _ _ _ ?_
  (repeat' (first | (refine And.intro ?_ ?_) | (intro hc; simp only [b2_e0, b2_e1, Classical.not_not, ne_eq] at hc) | (intro hc) | exact Or.inl rfl | exact Or.inr rfl)) <;> try omega
  all_goals (first | exact hQ _ (b2_l (by omega)) | exact hQ _ (b2_h (by omega)))
theorem P_W_isFilled (hw : RW σ k P g) (p : Int) : PU m_World_isFilled [ww k, .inl p] σ (b2 (isPg P p ∧ pg g p 0 ≠ 0)) := by
  have e2 := hw.ok.p1
  refine PU.mk fun Q hQ => T_World_isFilled _ _ _ _ _ ?_
  by_cases hp : isPg P p
  · have e3 := (hw.pg p hp.1 hp.2).kind
    (repeat' (first | (refine And.intro ?_ ?_) | (intro hc; simp only [b2_e0, b2_e1, Classical.not_not, ne_eq] at hc) | (intro hc) | exact Or.inl rfl | exact Or.inr rfl | refine PU.I (P_W_isPage hw _) ?_)) <;> try omega
    all_goals (first | exact hQ _ (b2_l (by omega)) | exact hQ _ (b2_h (by omega)))
  · (repeat' (first | (refine And.intro ?_ ?_) | (intro hc; simp only [b2_e0, b2_e1, Classical.not_not, ne_eq] at hc) | (intro hc) | exact Or.inl rfl | exact Or.inr rfl | refine PU.I (P_W_isPage hw _) ?_)) <;> try omega
    all_goals (first | exact hQ _ (b2_l (by omega)) | exact hQ _ (b2_h (by omega)))
theorem P_W_isSlots (hw : RW σ k P g) (p : Int) : PU m_World_isSlots [ww k, .inl p] σ (b2 (isPg P p ∧ pg g p 0 = 4)) := by
  have e2 := hw.ok.p1
  refine PU.mk fun Q hQ => T_World_isSlots _ _ _ _ _ ?_
  by_cases hp : isPg P p
  · have e3 := (hw.pg p hp.1 hp.2).kind
    (repeat' (first | (refine And.intro ?_ ?_) | (intro hc; simp only [b2_e0, b2_e1, Classical.not_not, ne_eq] at hc) | (intro hc) | exact Or.inl rfl | exact Or.inr rfl | refine PU.I (P_W_isPage hw _) ?_)) <;> try omega
    all_goals (first | exact hQ _ (b2_l (by omega)) | exact hQ _ (b2_h (by omega)))
  · (repeat' (first | (refine And.intro ?_ ?_) | (intro hc; simp only [b2_e0, b2_e1, Classical.not_not, ne_eq] at hc) | (intro hc) | exact Or.inl rfl | exact Or.inr rfl | refine PU.I (P_W_isPage hw _) ?_)) <;> try omega
    all_goals (first | exact hQ _ (b2_l (by omega)) | exact hQ _ (b2_h (by omega)))
theorem P_W_isPageOf (hw : RW σ k P g) (p r a : Int) : PU m_World_isPageOf [ww k, .inl p, .inl r, .inl a] σ (b2 (isPg P p ∧ a ≠ -1 ∧ pg g p 1 = r ∧ pg g p 2 = a)) := by
  have e2 := hw.ok.p1
  refine PU.mk fun Q hQ => T_World_isPageOf _ _ _ _ _ _ _ ?_
  by_cases hp : isPg P p
  · have e3 := (hw.pg p hp.1 hp.2).own
    have e4 := (hw.pg p hp.1 hp.2).adr
    (repeat' (first | (refine And.intro ?_ ?_) | (intro hc; simp only [b2_e0, b2_e1, Classical.not_not, ne_eq] at hc) | (intro hc) | exact Or.inl rfl | exact Or.inr rfl | refine PU.I (P_W_isPage hw _) ?_)) <;> try omega
    all_goals (first | exact hQ _ (b2_l (by omega)) | exact hQ _ (b2_h (by omega)))
  · (repeat' (first | (refine And.intro ?_ ?_) | (intro hc; simp only [b2_e0, b2_e1, Classical.not_not, ne_eq] at hc) | (intro hc) | exact Or.inl rfl | exact Or.inr rfl | refine PU.I (P_W_isPage hw _) ?_)) <;> try omega
    all_goals (first | exact hQ _ (b2_l (by omega)) | exact hQ _ (b2_h (by omega)))
theorem P_W_isRoom (hw : RW σ k P g) (r : Int) : PU m_World_isRoom [ww k, .inl r] σ (b2 (isRm g r)) := by
  refine PU.mk fun Q hQ => T_World_isRoom _ _ _ _ _ ?_
  by_cases hr : 0 ≤ r ∧ r < 4
  · rw [(hw.rm r hr.1 hr.2).there]
    (repeat' (first | (refine And.intro ?_ ?_) | (intro hc; simp only [b2_e0, b2_e1, Classical.not_not, ne_eq] at hc) | (intro hc) | exact Or.inl rfl | exact Or.inr rfl)) <;> try omega
    all_goals (first | exact hQ _ (b2_l (by omega)) | exact hQ _ (b2_h (by omega)))
  · (repeat' (first | (refine And.intro ?_ ?_) | (intro hc; simp only [b2_e0, b2_e1, Classical.not_not, ne_eq] at hc) | (intro hc) | exact Or.inl rfl | exact Or.inr rfl)) <;> try omega
    all_goals (first | exact hQ _ (b2_l (by omega)) | exact hQ _ (b2_h (by omega)))
theorem P_W_isCopy (hw : RW σ k P g) (r : Int) : PU m_World_isCopy [ww k, .inl r] σ (b2 (isCp g r)) := by
  refine PU.mk fun Q hQ => T_World_isCopy _ _ _ _ _ ?_
  by_cases hr : 0 ≤ r ∧ r < 12
  · rw [(hw.cp r hr.1 hr.2).there]
    (repeat' (first | (refine And.intro ?_ ?_) | (intro hc; simp only [b2_e0, b2_e1, Classical.not_not, ne_eq] at hc) | (intro hc) | exact Or.inl rfl | exact Or.inr rfl)) <;> try omega
    all_goals (first | exact hQ _ (b2_l (by omega)) | exact hQ _ (b2_h (by omega)))
  · (repeat' (first | (refine And.intro ?_ ?_) | (intro hc; simp only [b2_e0, b2_e1, Classical.not_not, ne_eq] at hc) | (intro hc) | exact Or.inl rfl | exact Or.inr rfl)) <;> try omega
    all_goals (first | exact hQ _ (b2_l (by omega)) | exact hQ _ (b2_h (by omega)))
theorem P_W_isCore (hw : RW σ k P g) (p : Int) : PU m_World_isCore [ww k, .inl p] σ (b2 (isCo P p)) := by
  have e0 := hw.nc
  have e2 := hw.ok.c1
  refine PU.mk fun Q hQ => T_World_isCore _ _ _ _ _ ?_
  (repeat' (first | (refine And.intro ?_ ?_) | (intro hc; simp only [b2_e0, b2_e1, Classical.not_not, ne_eq] at hc) | (intro hc) | exact Or.inl rfl | exact Or.inr rfl)) <;> try omega
  all_goals (first | exact hQ _ (b2_l (by omega)) | exact hQ _ (b2_h (by omega)))
theorem P_W_isInside (hw : RW σ k P g) (c : Int) : PU m_World_isInside [ww k, .inl c] σ (b2 (isCo P c ∧ isRm g (co g c 1))) := by
  have e2 := hw.ok.c1
  refine PU.mk fun Q hQ => T_World_isInside _ _ _ _ _ ?_
  by_cases hp : isCo P c
  · have e3 := (hw.co c hp.1 hp.2).room
    have e4 : PU m_World_isRoom [ww k, .inl (σ 21 k c 1)] σ (b2 (isRm g (co g c 1))) := by
      rw [e3]
      exact P_W_isRoom hw _
    (repeat' (first | (refine And.intro ?_ ?_) | (intro hc; simp only [b2_e0, b2_e1, Classical.not_not, ne_eq] at hc) | (intro hc) | exact Or.inl rfl | exact Or.inr rfl | refine PU.I (P_W_isCore hw _) ?_ | refine PU.I (e4) ?_)) <;> try omega
    all_goals (first | exact hQ _ (b2_l (by omega)) | exact hQ _ (b2_h (by omega)))
  · (repeat' (first | (refine And.intro ?_ ?_) | (intro hc; simp only [b2_e0, b2_e1, Classical.not_not, ne_eq] at hc) | (intro hc) | exact Or.inl rfl | exact Or.inr rfl | refine PU.I (P_W_isCore hw _) ?_)) <;> try omega
    all_goals (first | exact hQ _ (b2_l (by omega)) | exact hQ _ (b2_h (by omega)))
theorem P_W_measureOf (hw : RW σ k P g) (r : Int) : PU m_World_measureOf [ww k, .inl r] σ (if isRm g r then rm g r 4 else 0) := by
  refine PU.mk fun Q hQ => T_World_measureOf _ _ _ _ _ ?_
  by_cases hr : isRm g r
  · have e3 := ((hw.rm r hr.1.1 hr.1.2).y hr.2).meas
    (repeat' (first | (refine And.intro ?_ ?_) | (intro hc; simp only [b2_e0, b2_e1, Classical.not_not, ne_eq] at hc) | (intro hc) | exact Or.inl rfl | exact Or.inr rfl | refine PU.I (P_W_isRoom hw _) ?_)) <;> try omega
    exact hQ _ (by rw [if_pos hr, e3])
  · (repeat' (first | (refine And.intro ?_ ?_) | (intro hc; simp only [b2_e0, b2_e1, Classical.not_not, ne_eq] at hc) | (intro hc) | exact Or.inl rfl | exact Or.inr rfl | refine PU.I (P_W_isRoom hw _) ?_)) <;> try omega
    exact hQ _ (by rw [if_neg hr])
theorem L_W_freePage (hw : RW σ k P g) (Q : Option AV → ST → Prop) : ∀ (n : Nat) (i : Int), i + n = P.np → 0 ≤ i → (∀ x, x = ff (fun p => pg g p 0 = 0) n i → Q (some (.inl x)) σ) → wp m_World_lowestFreePage (2, [some (ww k), some (.inl i)], [], σ) Q
  | 0, i, h, h0, hQ => by
    have e0 := hw.np
    refine T_World_lowestFreePage_2 _ _ _ _ _ ?_
    (repeat' (first | (refine And.intro ?_ ?_) | (intro hc; simp only [b2_e0, b2_e1, Classical.not_not, ne_eq] at hc) | (intro hc) | exact Or.inl rfl | exact Or.inr rfl)) <;> try omega
    exact hQ _ rfl
  | n + 1, i, h, h0, hQ => by
    have e0 := hw.np
    have e2 := hw.ok.p1
    have e3 := (hw.pg i (by omega) (by omega)).kind
    refine T_World_lowestFreePage_2 _ _ _ _ _ ?_
    (repeat' (first | (refine And.intro ?_ ?_) | (intro hc; simp only [b2_e0, b2_e1, Classical.not_not, ne_eq] at hc) | (intro hc) | exact Or.inl rfl | exact Or.inr rfl)) <;> try omega
    all_goals (first | exact hQ _ (by rw [ff_yes (by omega)]) | (simp (disch := omega) only [wr_id]; exact L_W_freePage hw Q n (i + 1) (by omega) (by omega) (fun x e => hQ x (by rw [e, ff_no (by omega)]))))
theorem P_W_freePage (hw : RW σ k P g) : PU m_World_lowestFreePage [ww k] σ (ff (fun p => pg g p 0 = 0) P.np.toNat 0) := by
  have e1 := hw.ok.p0
  exact PU.mk fun Q hQ => T_World_lowestFreePage _ _ _ _ (L_W_freePage hw Q P.np.toNat 0 (by omega) (by omega) hQ)
theorem L_W_freeRoom (hw : RW σ k P g) (Q : Option AV → ST → Prop) : ∀ (n : Nat) (i : Int), i + n = 4 → 0 ≤ i → (∀ x, x = ff (fun r => ¬ rm g r 0 = 1) n i → Q (some (.inl x)) σ) → wp m_World_lowestRoomNotThere (2, [some (ww k), some (.inl i)], [], σ) Q
  | 0, i, h, h0, hQ => by
    refine T_World_lowestRoomNotThere_2 _ _ _ _ _ ?_
    (repeat' (first | (refine And.intro ?_ ?_) | (intro hc; simp only [b2_e0, b2_e1, Classical.not_not, ne_eq] at hc) | (intro hc) | exact Or.inl rfl | exact Or.inr rfl)) <;> try omega
    exact hQ _ rfl
  | n + 1, i, h, h0, hQ => by
    refine T_World_lowestRoomNotThere_2 _ _ _ _ _ ?_
    rw [(hw.rm i (by omega) (by omega)).there]
    (repeat' (first | (refine And.intro ?_ ?_) | (intro hc; simp only [b2_e0, b2_e1, Classical.not_not, ne_eq] at hc) | (intro hc) | exact Or.inl rfl | exact Or.inr rfl)) <;> try omega
    all_goals (first | exact hQ _ (by rw [ff_yes (by omega)]) | (simp (disch := omega) only [wr_id]; exact L_W_freeRoom hw Q n (i + 1) (by omega) (by omega) (fun x e => hQ x (by rw [e, ff_no (by omega)]))))
theorem P_W_freeRoom (hw : RW σ k P g) : PU m_World_lowestRoomNotThere [ww k] σ (ff (fun r => ¬ rm g r 0 = 1) 4 0) :=
  PU.mk fun Q hQ => T_World_lowestRoomNotThere _ _ _ _ (L_W_freeRoom hw Q 4 0 (by omega) (by omega) hQ)
theorem L_W_freePlace (hw : RW σ k P g) (Q : Option AV → ST → Prop) : ∀ (n : Nat) (i : Int), i + n = 12 → 0 ≤ i → (∀ x, x = ff (fun r => ¬ cp g r 0 = 1) n i → Q (some (.inl x)) σ) → wp m_World_lowestEmptyPlace (2, [some (ww k), some (.inl i)], [], σ) Q
  | 0, i, h, h0, hQ => by
    refine T_World_lowestEmptyPlace_2 _ _ _ _ _ ?_
    (repeat' (first | (refine And.intro ?_ ?_) | (intro hc; simp only [b2_e0, b2_e1, Classical.not_not, ne_eq] at hc) | (intro hc) | exact Or.inl rfl | exact Or.inr rfl)) <;> try omega
    exact hQ _ rfl
  | n + 1, i, h, h0, hQ => by
    refine T_World_lowestEmptyPlace_2 _ _ _ _ _ ?_
    rw [(hw.cp i (by omega) (by omega)).there]
    (repeat' (first | (refine And.intro ?_ ?_) | (intro hc; simp only [b2_e0, b2_e1, Classical.not_not, ne_eq] at hc) | (intro hc) | exact Or.inl rfl | exact Or.inr rfl)) <;> try omega
    all_goals (first | exact hQ _ (by rw [ff_yes (by omega)]) | (simp (disch := omega) only [wr_id]; exact L_W_freePlace hw Q n (i + 1) (by omega) (by omega) (fun x e => hQ x (by rw [e, ff_no (by omega)]))))
theorem P_W_freePlace (hw : RW σ k P g) : PU m_World_lowestEmptyPlace [ww k] σ (ff (fun r => ¬ cp g r 0 = 1) 12 0) :=
  PU.mk fun Q hQ => T_World_lowestEmptyPlace _ _ _ _ (L_W_freePlace hw Q 12 0 (by omega) (by omega) hQ)
theorem L_W_roomOf (hw : RW σ k P g) (s : Int) (Q : Option AV → ST → Prop) : ∀ (n : Nat) (i : Int), i + n = 4 → 0 ≤ i → (∀ x, x = ff (fun r => rm g r 0 = 1 ∧ rm g r 1 = s) n i → Q (some (.inl x)) σ) → wp m_World_roomOfSerial (2, [some (ww k), some (.inl s), some (.inl i)], [], σ) Q
  | 0, i, h, h0, hQ => by
    refine T_World_roomOfSerial_2 _ _ _ _ _ _ ?_
    (repeat' (first | (refine And.intro ?_ ?_) | (intro hc; simp only [b2_e0, b2_e1, Classical.not_not, ne_eq] at hc) | (intro hc) | exact Or.inl rfl | exact Or.inr rfl)) <;> try omega
    exact hQ _ rfl
  | n + 1, i, h, h0, hQ => by
    refine T_World_roomOfSerial_2 _ _ _ _ _ _ ?_
    have e1 := hw.rm i (by omega) (by omega)
    rw [e1.there]
    by_cases hr : rm g i 0 = 1
    · have e2 := (e1.y hr).ser
      (repeat' (first | (refine And.intro ?_ ?_) | (intro hc; simp only [b2_e0, b2_e1, Classical.not_not, ne_eq] at hc) | (intro hc) | exact Or.inl rfl | exact Or.inr rfl)) <;> try omega
      all_goals (first | exact hQ _ (by rw [ff_yes (by omega)]) | (simp (disch := omega) only [wr_id]; exact L_W_roomOf hw s Q n (i + 1) (by omega) (by omega) (fun x e => hQ x (by rw [e, ff_no (by omega)]))))
    · (repeat' (first | (refine And.intro ?_ ?_) | (intro hc; simp only [b2_e0, b2_e1, Classical.not_not, ne_eq] at hc) | (intro hc) | exact Or.inl rfl | exact Or.inr rfl)) <;> try omega
      all_goals (first | exact hQ _ (by rw [ff_yes (by omega)]) | (simp (disch := omega) only [wr_id]; exact L_W_roomOf hw s Q n (i + 1) (by omega) (by omega) (fun x e => hQ x (by rw [e, ff_no (by omega)]))))
theorem P_W_roomOf (hw : RW σ k P g) (s : Int) : PU m_World_roomOfSerial [ww k, .inl s] σ (ff (fun r => rm g r 0 = 1 ∧ rm g r 1 = s) 4 0) :=
  PU.mk fun Q hQ => T_World_roomOfSerial _ _ _ _ _ (L_W_roomOf hw s Q 4 0 (by omega) (by omega) hQ)
theorem L_W_pageAt (hw : RW σ k P g) (r a : Int) (Q : Option AV → ST → Prop) : ∀ (n : Nat) (i : Int), i + n = P.np → 0 ≤ i → (∀ x, x = ff (fun p => pg g p 1 = r ∧ pg g p 2 = a) n i → Q (some (.inl x)) σ) → wp m_World_pageAt (2, [some (ww k), some (.inl r), some (.inl a), some (.inl i)], [], σ) Q
  | 0, i, h, h0, hQ => by
    have e0 := hw.np
    refine T_World_pageAt_2 _ _ _ _ _ _ _ ?_
    (repeat' (first | (refine And.intro ?_ ?_) | (intro hc; simp only [b2_e0, b2_e1, Classical.not_not, ne_eq] at hc) | (intro hc) | exact Or.inl rfl | exact Or.inr rfl)) <;> try omega
    exact hQ _ rfl
  | n + 1, i, h, h0, hQ => by
    have e0 := hw.np
    have e2 := hw.ok.p1
    have e3 := (hw.pg i (by omega) (by omega)).own
    have e4 := (hw.pg i (by omega) (by omega)).adr
    refine T_World_pageAt_2 _ _ _ _ _ _ _ ?_
    (repeat' (first | (refine And.intro ?_ ?_) | (intro hc; simp only [b2_e0, b2_e1, Classical.not_not, ne_eq] at hc) | (intro hc) | exact Or.inl rfl | exact Or.inr rfl)) <;> try omega
    all_goals (first | exact hQ _ (by rw [ff_yes (by omega)]) | (simp (disch := omega) only [wr_id]; exact L_W_pageAt hw r a Q n (i + 1) (by omega) (by omega) (fun x e => hQ x (by rw [e, ff_no (by omega)]))))
theorem P_W_pageAt (hw : RW σ k P g) (r a : Int) : PU m_World_pageAt [ww k, .inl r, .inl a] σ (ff (fun p => pg g p 1 = r ∧ pg g p 2 = a) P.np.toNat 0) := by
  have e1 := hw.ok.p0
  exact PU.mk fun Q hQ => T_World_pageAt _ _ _ _ _ _ (L_W_pageAt hw r a Q P.np.toNat 0 (by omega) (by omega) hQ)
end WR
