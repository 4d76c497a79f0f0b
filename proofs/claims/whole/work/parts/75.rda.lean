/-! readers of the face, on both -/
def v_rule (x : Int) (σ : ST) (P : MP) (_ : Int → Int) : Int := if P.np ≠ 0 ∧ 0 ≤ x ∧ x < 4 then σ 43 0 0 x else -1
def v_page (p w : Int) (_ : ST) (P : MP) (g : Int → Int) : Int := if ¬ (isPg P p ∧ 0 ≤ w ∧ w ≤ 5) then -1000000 else if w = 0 then pg g p 0 else if ¬ (pg g p 0 = 1 ∨ pg g p 0 = 2 ∨ pg g p 0 = 3) then -1 else if w = 1 then pg g p 1 else if w = 2 then pg g p 2 else if w = 3 then pg g p 3 else if w = 4 then (if pg g p 5 = -1 then 0 else 1) else if pg g p 0 = 3 then pg g p 6 else -1
def v_version (p s : Int) (_ : ST) (P : MP) (g : Int → Int) : Int := if (isPg P p ∧ pg g p 0 = 4) ∧ 0 ≤ s ∧ s < 4 then pg g p (7 + s) else -1
def v_mapped (r a : Int) (_ : ST) (_ : MP) (g : Int → Int) : Int := if isRm g r ∧ 0 ≤ a ∧ a < rm g r 2 then rm g r (15 + a) - 1 else -1
def v_core (c w : Int) (_ : ST) (P : MP) (g : Int → Int) : Int := if isCo P c ∧ 0 ≤ w ∧ w ≤ 4 then co g c w else -1000000
def v_seen (c i w : Int) (_ : ST) (P : MP) (g : Int → Int) : Int := if isCo P c ∧ (0 ≤ i ∧ i < co g c 4) ∧ 0 ≤ w ∧ w ≤ 1 then co g c (5 + 2 * i + w) else -1
def v_copyOf (c w : Int) (_ : ST) (_ : MP) (g : Int → Int) : Int := if ¬ (isCp g c ∧ 0 ≤ w ∧ w ≤ 5) then -1000000 else if w = 5 then cp g c 8 else if w = 4 then cp g c 7 else cp g c (1 + w)
def repG (σ : ST) (g : Int → Int) (own other reg : Int) : Int := wr (wr (31 * wr (wr (31 * wr (wr (31 * σ 43 0 0 3) + rm g own 4)) + rm g other 4)) + reg)
def v_report (c r : Int) (σ : ST) (P : MP) (g : Int → Int) : Int := if isCo P c ∧ isRm g r ∧ co g c 1 ≠ -1 then repG σ g (co g c 1) r (co g c 0) else -1000000
def v_proves (c r x y : Int) (σ : ST) (P : MP) (g : Int → Int) : Int := if isCo P c ∧ isRm g r ∧ co g c 1 ≠ -1 ∧ repG σ g r (co g c 1) x = y then 1 else 0
def v_status (x : Int) (σ : ST) (_ : MP) (_ : Int → Int) : Int := if 0 ≤ x ∧ x < 5 then σ 47 0 0 x else -1
def v_log (i w : Int) (_ : ST) (_ : MP) (g : Int → Int) : Int := if (0 ≤ i ∧ i < g 345) ∧ 0 ≤ w ∧ w ≤ 2 then g (346 + 3 * (g 345 - 1 - i) + w) else -1000000
def v_alike (r o : Int) (_ : ST) (_ : MP) (g : Int → Int) : Int := if isRm g r ∧ isRm g o ∧ r ≠ o ∧ rm g r 4 = rm g o 4 then 1 else 0
def v_count (x : Int) (σ : ST) (P : MP) (g : Int → Int) : Int := if x = 0 then P.np else if x = 1 then σ 40 0 0 14 else if x = 2 then σ 40 0 0 2 else if x = 3 then g 345 else if x = 4 then σ 40 0 0 18 else -1000000
def v_step (m i w : Int) (σ : ST) (_ : MP) (_ : Int → Int) : Int := if (0 ≤ m ∧ m < σ 40 0 0 14) ∧ (0 ≤ i ∧ i < σ 45 0 0 m) ∧ 0 ≤ w ∧ w < 6 then σ 44 0 0 (6 * (12 * m + i) + w) else -1000000
section RDA
variable {σ : ST} {P : MP} {g : Int → Int} {n : Int}
theorem IVg.gr (h : IVg σ P g n) : GR P g := h.w.GR h.z.ok
theorem X_rd_rule (h : IVg σ P g n) (x : Int) : PU m_X_rule [xx, .inl x] σ (v_rule x σ P g) := by
  have hb := bz_iff h.m.has
  have r : 0 ≤ x ∧ x < 4 → σ 7 0 0 x = σ 43 0 0 x := fun z => h.m.rul x z.1 z.2
  refine PU.mk fun Q hQ => T_X_rule _ _ _ _ _ ?_
  (repeat' (first | (refine And.intro ?_ ?_) | (intro hzq; simp only [b2_e0, b2_e1, Classical.not_not, ne_eq] at hzq) | (intro hzq) | exact Or.inl rfl | exact Or.inr rfl)) <;> try omega
  all_goals (refine hQ _ ?_; unfold v_rule; (repeat' split) <;> first | rfl | omega | exact congrArg _ (by omega))
theorem Z_rd_rule (h : IVg σ P g n) (x : Int) : PU m_Z_rule [zz, .inl x] σ (v_rule x σ P g) := by
  have hb := bz_iff h.z.mac
  refine PU.mk fun Q hQ => T_Z_rule _ _ _ _ _ ?_
  (repeat' (first | (refine And.intro ?_ ?_) | (intro hzq; simp only [b2_e0, b2_e1, Classical.not_not, ne_eq] at hzq) | (intro hzq) | exact Or.inl rfl | exact Or.inr rfl | refine PU.I (P_Z_in _ _ _ _) ?_)) <;> try omega
  all_goals (refine hQ _ ?_; unfold v_rule; (repeat' split) <;> first | rfl | omega | exact congrArg _ (by omega))
theorem X_rd_page (h : IVg σ P g n) (p w : Int) : PU m_X_page [xx, .inl p, .inl w] σ (v_page p w σ P g) := by
  have p1 := h.z.ok.p1
  refine PU.mk fun Q hQ => T_X_page _ _ _ _ _ _ ?_
  by_cases hp : isPg P p
  · have x := h.x.1.pg p hp.1 hp.2
    have x1 := x.kind
    have x2 := x.own
    have x3 := x.adr
    have x4 := x.rig
    have x6 := bz_iff x.blk
    have x8 := x.ent
    (repeat' (first | (refine And.intro ?_ ?_) | (intro hzq; simp only [b2_e0, b2_e1, Classical.not_not, ne_eq] at hzq) | (intro hzq) | exact Or.inl rfl | exact Or.inr rfl | refine PU.I (P_W_isPage h.x.1 _) ?_ | refine PU.I (P_P_hasRoom x) ?_)) <;> try omega
    all_goals (refine hQ _ ?_; unfold v_page; (repeat' split) <;> first | rfl | omega | exact congrArg _ (by omega))
  · (repeat' (first | (refine And.intro ?_ ?_) | (intro hzq; simp only [b2_e0, b2_e1, Classical.not_not, ne_eq] at hzq) | (intro hzq) | exact Or.inl rfl | exact Or.inr rfl | refine PU.I (P_W_isPage h.x.1 _) ?_)) <;> try omega
    all_goals (refine hQ _ ?_; unfold v_page; (repeat' split) <;> first | rfl | omega | exact congrArg _ (by omega))
theorem Z_rd_page (h : IVg σ P g n) (p w : Int) : PU m_Z_page [zz, .inl p, .inl w] σ (v_page p w σ P g) := by
  have p1 := h.z.ok.p1
  refine PU.mk fun Q hQ => T_Z_page _ _ _ _ _ _ ?_
  by_cases hp : isPg P p
  · have kd := h.w.p.kd p hp
    have no := h.w.p.no p hp
    have no1 := h.w.p.no1 p hp
    have go : ∀ (t : Int) (o4 : Option AV), (0 ≤ w ∧ w ≤ 5) → (t = 0 ∧ (pg g p 0 = 0 ∨ pg g p 0 = 4) ∨ t = 1 ∧ 1 ≤ pg g p 0 ∧ pg g p 0 ≤ 3) → wp m_Z_page (42, [some zz, some (.inl p), some (.inl w), some (.inl (pg g p 0)), o4], [.inl t], σ) Q := by
      intro t o4 hw ht
      refine T_Z_page_42 _ _ _ _ _ _ _ _ _ ?_
      (repeat' (first | (refine And.intro ?_ ?_) | (intro hzq; simp only [b2_e0, b2_e1, Classical.not_not, ne_eq] at hzq) | (intro hzq) | exact Or.inl rfl | exact Or.inr rfl | refine PU.I (P_Z_ofPage h.z (by omega) (by omega) (by omega) (by omega)) ?_)) <;> try omega
      all_goals (refine hQ _ ?_; unfold v_page; (repeat' split) <;> first | rfl | omega | exact congrArg _ (by omega))
    (repeat' (first | (refine And.intro ?_ ?_) | (intro hzq; simp only [b2_e0, b2_e1, Classical.not_not, ne_eq] at hzq) | (intro hzq) | exact Or.inl rfl | exact Or.inr rfl | refine PU.I (P_Z_isPage h.z _) ?_ | refine PU.I (P_Z_in _ _ _ _) ?_ | refine PU.I (P_Z_ofPage h.z (by omega) (by omega) (by omega) (by omega)) ?_ | exact go _ _ (by omega) (by omega))) <;> try omega
    all_goals (refine hQ _ ?_; unfold v_page; (repeat' split) <;> first | rfl | omega | exact congrArg _ (by omega))
  · (repeat' (first | (refine And.intro ?_ ?_) | (intro hzq; simp only [b2_e0, b2_e1, Classical.not_not, ne_eq] at hzq) | (intro hzq) | exact Or.inl rfl | exact Or.inr rfl | refine PU.I (P_Z_isPage h.z _) ?_)) <;> try omega
    all_goals (refine hQ _ ?_; unfold v_page; (repeat' split) <;> first | rfl | omega | exact congrArg _ (by omega))
theorem X_rd_version (h : IVg σ P g n) (p s : Int) : PU m_X_version [xx, .inl p, .inl s] σ (v_version p s σ P g) := by
  have p1 := h.z.ok.p1
  refine PU.mk fun Q hQ => T_X_version _ _ _ _ _ _ ?_
  by_cases hp : isPg P p ∧ 0 ≤ s ∧ s < 4
  · have x := (h.x.1.pg p hp.1.1 hp.1.2).ver s hp.2.1 hp.2.2
    (repeat' (first | (refine And.intro ?_ ?_) | (intro hzq; simp only [b2_e0, b2_e1, Classical.not_not, ne_eq] at hzq) | (intro hzq) | exact Or.inl rfl | exact Or.inr rfl | refine PU.I (P_W_isSlots h.x.1 _) ?_)) <;> try omega
    all_goals (refine hQ _ ?_; unfold v_version; (repeat' split) <;> first | rfl | omega | exact congrArg _ (by omega))
  · (repeat' (first | (refine And.intro ?_ ?_) | (intro hzq; simp only [b2_e0, b2_e1, Classical.not_not, ne_eq] at hzq) | (intro hzq) | exact Or.inl rfl | exact Or.inr rfl | refine PU.I (P_W_isSlots h.x.1 _) ?_)) <;> try omega
    all_goals (refine hQ _ ?_; unfold v_version; (repeat' split) <;> first | rfl | omega | exact congrArg _ (by omega))
theorem Z_rd_version (h : IVg σ P g n) (p s : Int) : PU m_Z_version [zz, .inl p, .inl s] σ (v_version p s σ P g) := by
  have p1 := h.z.ok.p1
  refine PU.mk fun Q hQ => T_Z_version _ _ _ _ _ _ ?_
  by_cases hp : 0 ≤ s ∧ s < 4
  · rw [wr_id (x := 7 + s) (by omega)]
    (repeat' (first | (refine And.intro ?_ ?_) | (intro hzq; simp only [b2_e0, b2_e1, Classical.not_not, ne_eq] at hzq) | (intro hzq) | exact Or.inl rfl | exact Or.inr rfl | refine PU.I (P_Z_areSlots h.z _) ?_ | refine PU.I (P_Z_in _ _ _ _) ?_ | refine PU.I (P_Z_ofPage h.z (by omega) (by omega) (by omega) (by omega)) ?_)) <;> try omega
    all_goals (refine hQ _ ?_; unfold v_version; (repeat' split) <;> first | rfl | omega | exact congrArg _ (by omega))
  · (repeat' (first | (refine And.intro ?_ ?_) | (intro hzq; simp only [b2_e0, b2_e1, Classical.not_not, ne_eq] at hzq) | (intro hzq) | exact Or.inl rfl | exact Or.inr rfl | refine PU.I (P_Z_areSlots h.z _) ?_ | refine PU.I (P_Z_in _ _ _ _) ?_)) <;> try omega
    all_goals (refine hQ _ ?_; unfold v_version; (repeat' split) <;> first | rfl | omega | exact congrArg _ (by omega))
theorem X_rd_mapped (h : IVg σ P g n) (r a : Int) : PU m_X_mapped [xx, .inl r, .inl a] σ (v_mapped r a σ P g) := by
  refine PU.mk fun Q hQ => T_X_mapped _ _ _ _ _ _ ?_
  by_cases hr : isRm g r
  · have y := (h.x.1.rm r hr.1.1 hr.1.2).y hr.2
    have f := h.w.p.rf r hr
    by_cases ha : 0 ≤ a ∧ a < rm g r 2
    · have y8 := y.map a ha.1 (by omega)
      (repeat' (first | (refine And.intro ?_ ?_) | (intro hzq; simp only [b2_e0, b2_e1, Classical.not_not, ne_eq] at hzq) | (intro hzq) | exact Or.inl rfl | exact Or.inr rfl | refine PU.I (P_W_isRoom h.x.1 _) ?_ | refine PU.I (P_R_hasAddress y f.1.2 _) ?_)) <;> try omega
      all_goals (refine hQ _ ?_; unfold v_mapped; (repeat' split) <;> first | rfl | omega | exact congrArg _ (by omega))
    · (repeat' (first | (refine And.intro ?_ ?_) | (intro hzq; simp only [b2_e0, b2_e1, Classical.not_not, ne_eq] at hzq) | (intro hzq) | exact Or.inl rfl | exact Or.inr rfl | refine PU.I (P_W_isRoom h.x.1 _) ?_ | refine PU.I (P_R_hasAddress y f.1.2 _) ?_)) <;> try omega
      all_goals (refine hQ _ ?_; unfold v_mapped; (repeat' split) <;> first | rfl | omega | exact congrArg _ (by omega))
  · (repeat' (first | (refine And.intro ?_ ?_) | (intro hzq; simp only [b2_e0, b2_e1, Classical.not_not, ne_eq] at hzq) | (intro hzq) | exact Or.inl rfl | exact Or.inr rfl | refine PU.I (P_W_isRoom h.x.1 _) ?_)) <;> try omega
    all_goals (refine hQ _ ?_; unfold v_mapped; (repeat' split) <;> first | rfl | omega | exact congrArg _ (by omega))
theorem Z_rd_mapped (h : IVg σ P g n) (r a : Int) : PU m_Z_mapped [zz, .inl r, .inl a] σ (v_mapped r a σ P g) := by
  have f : isRm g r → rm g r 2 ≤ 8 := fun z => (h.w.p.rf r z).1.2
  refine PU.mk fun Q hQ => T_Z_mapped _ _ _ _ _ _ ?_
  (repeat' (first | (refine And.intro ?_ ?_) | (intro hzq; simp only [b2_e0, b2_e1, Classical.not_not, ne_eq] at hzq) | (intro hzq) | exact Or.inl rfl | exact Or.inr rfl | refine PU.I (P_Z_isRoom h.z _) ?_ | refine PU.I (P_Z_isAddress h.z h.gr (by omega) (by omega) _) ?_ | refine PU.I (P_Z_mapOf h.z h.gr (by omega) (by omega) (by omega) (by omega)) ?_)) <;> try omega
  all_goals (refine hQ _ ?_; unfold v_mapped; (repeat' split) <;> first | rfl | omega | exact congrArg _ (by omega))
theorem X_rd_core (h : IVg σ P g n) (c w : Int) : PU m_X_core [xx, .inl c, .inl w] σ (v_core c w σ P g) := by
  have c1 := h.z.ok.c1
  refine PU.mk fun Q hQ => T_X_core _ _ _ _ _ _ ?_
  by_cases hc : isCo P c
  · have z := h.x.1.co c hc.1 hc.2
    have z1 := z.reg
    have z2 := z.room
    have z3 := z.ent
    have z4 := z.sin
    have z5 := z.cnt
    (repeat' (first | (refine And.intro ?_ ?_) | (intro hzq; simp only [b2_e0, b2_e1, Classical.not_not, ne_eq] at hzq) | (intro hzq) | exact Or.inl rfl | exact Or.inr rfl | refine PU.I (P_W_isCore h.x.1 _) ?_)) <;> try omega
    all_goals (try rw [z1])
    all_goals (try rw [z2])
    all_goals (try rw [z3])
    all_goals (try rw [z4])
    all_goals (try rw [z5])
    all_goals (refine hQ _ ?_; unfold v_core; (repeat' split) <;> first | rfl | omega | exact congrArg _ (by omega))
  · (repeat' (first | (refine And.intro ?_ ?_) | (intro hzq; simp only [b2_e0, b2_e1, Classical.not_not, ne_eq] at hzq) | (intro hzq) | exact Or.inl rfl | exact Or.inr rfl | refine PU.I (P_W_isCore h.x.1 _) ?_)) <;> try omega
    all_goals (refine hQ _ ?_; unfold v_core; (repeat' split) <;> first | rfl | omega | exact congrArg _ (by omega))
theorem Z_rd_core (h : IVg σ P g n) (c w : Int) : PU m_Z_core [zz, .inl c, .inl w] σ (v_core c w σ P g) := by
  have c1 := h.z.ok.c1
  refine PU.mk fun Q hQ => T_Z_core _ _ _ _ _ _ ?_
  (repeat' (first | (refine And.intro ?_ ?_) | (intro hzq; simp only [b2_e0, b2_e1, Classical.not_not, ne_eq] at hzq) | (intro hzq) | exact Or.inl rfl | exact Or.inr rfl | refine PU.I (P_Z_isCore h.z _) ?_ | refine PU.I (P_Z_in _ _ _ _) ?_ | refine PU.I (P_Z_ofCore h.z (by omega) (by omega) (by omega) (by omega)) ?_)) <;> try omega
  all_goals (refine hQ _ ?_; unfold v_core; (repeat' split) <;> first | rfl | omega | exact congrArg _ (by omega))
theorem X_rd_seen (h : IVg σ P g n) (c i w : Int) : PU m_X_seen [xx, .inl c, .inl i, .inl w] σ (v_seen c i w σ P g) := by
  have c1 := h.z.ok.c1
  refine PU.mk fun Q hQ => T_X_seen _ _ _ _ _ _ _ ?_
  by_cases hc : isCo P c
  · have z := h.x.1.co c hc.1 hc.2
    have z5 := z.cnt
    have h4 := h.x.2 c hc
    by_cases hi : 0 ≤ i ∧ i < co g c 4
    · have z6 := z.adr i hi.1 hi.2
      have z7 := z.pag i hi.1 hi.2
      (repeat' (first | (refine And.intro ?_ ?_) | (intro hzq; simp only [b2_e0, b2_e1, Classical.not_not, ne_eq] at hzq) | (intro hzq) | exact Or.inl rfl | exact Or.inr rfl | refine PU.I (P_W_isCore h.x.1 _) ?_)) <;> try omega
      all_goals (try rw [z6])
      all_goals (try rw [z7])
      all_goals (refine hQ _ ?_; unfold v_seen; (repeat' split) <;> first | rfl | omega | exact congrArg _ (by omega))
    · (repeat' (first | (refine And.intro ?_ ?_) | (intro hzq; simp only [b2_e0, b2_e1, Classical.not_not, ne_eq] at hzq) | (intro hzq) | exact Or.inl rfl | exact Or.inr rfl | refine PU.I (P_W_isCore h.x.1 _) ?_)) <;> try omega
      all_goals (refine hQ _ ?_; unfold v_seen; (repeat' split) <;> first | rfl | omega | exact congrArg _ (by omega))
  · (repeat' (first | (refine And.intro ?_ ?_) | (intro hzq; simp only [b2_e0, b2_e1, Classical.not_not, ne_eq] at hzq) | (intro hzq) | exact Or.inl rfl | exact Or.inr rfl | refine PU.I (P_W_isCore h.x.1 _) ?_)) <;> try omega
    all_goals (refine hQ _ ?_; unfold v_seen; (repeat' split) <;> first | rfl | omega | exact congrArg _ (by omega))
theorem Z_rd_seen (h : IVg σ P g n) (c i w : Int) : PU m_Z_seen [zz, .inl c, .inl i, .inl w] σ (v_seen c i w σ P g) := by
  have c1 := h.z.ok.c1
  refine PU.mk fun Q hQ => T_Z_seen _ _ _ _ _ _ _ ?_
  by_cases hc : isCo P c
  · have h4 := h.x.2 c hc
    have h5 := (h.w.c.cnt c hc).1
    have e : wr (co g c 4 - 1) = co g c 4 - 1 := wr_id (by omega)
    by_cases hi : (0 ≤ i ∧ i < co g c 4) ∧ 0 ≤ w ∧ w ≤ 1
    · rw [wr_id (x := 2 * i) (by omega), wr_id (x := 5 + 2 * i) (by omega), wr_id (x := 5 + 2 * i + w) (by omega)]
      (repeat' (first | (refine And.intro ?_ ?_) | (intro hzq; simp only [b2_e0, b2_e1, Classical.not_not, ne_eq] at hzq) | (intro hzq) | exact Or.inl rfl | exact Or.inr rfl | refine PU.I (P_Z_isCore h.z _) ?_ | refine PU.I (P_Z_in _ _ _ _) ?_ | refine PU.I (P_Z_ofCore h.z (by omega) (by omega) (by omega) (by omega)) ?_)) <;> try omega
      all_goals (refine hQ _ ?_; unfold v_seen; (repeat' split) <;> first | rfl | omega | exact congrArg _ (by omega))
    · (repeat' (first | (refine And.intro ?_ ?_) | (intro hzq; simp only [b2_e0, b2_e1, Classical.not_not, ne_eq] at hzq) | (intro hzq) | exact Or.inl rfl | exact Or.inr rfl | refine PU.I (P_Z_isCore h.z _) ?_ | refine PU.I (P_Z_in _ _ _ _) ?_ | refine PU.I (P_Z_ofCore h.z (by omega) (by omega) (by omega) (by omega)) ?_)) <;> try omega
      all_goals (refine hQ _ ?_; unfold v_seen; (repeat' split) <;> first | rfl | omega | exact congrArg _ (by omega))
  · (repeat' (first | (refine And.intro ?_ ?_) | (intro hzq; simp only [b2_e0, b2_e1, Classical.not_not, ne_eq] at hzq) | (intro hzq) | exact Or.inl rfl | exact Or.inr rfl | refine PU.I (P_Z_isCore h.z _) ?_)) <;> try omega
    all_goals (refine hQ _ ?_; unfold v_seen; (repeat' split) <;> first | rfl | omega | exact congrArg _ (by omega))
theorem X_rd_copyOf (h : IVg σ P g n) (c w : Int) : PU m_X_copyOf [xx, .inl c, .inl w] σ (v_copyOf c w σ P g) := by
  refine PU.mk fun Q hQ => T_X_copyOf _ _ _ _ _ _ ?_
  by_cases hc : isCp g c
  · have y := (h.x.1.cp c hc.1.1 hc.1.2).y hc.2
    have w1 := y.ser
    have w2 := y.adr
    have w3 := y.kind
    have w4 := y.rig
    have w7 := y.ver
    have w8 := bz_iff y.cha
    have cy := h.w.s.cy c hc
    (repeat' (first | (refine And.intro ?_ ?_) | (intro hzq; simp only [b2_e0, b2_e1, Classical.not_not, ne_eq] at hzq) | (intro hzq) | exact Or.inl rfl | exact Or.inr rfl | refine PU.I (P_W_isCopy h.x.1 _) ?_)) <;> try omega
    all_goals (try rw [w1])
    all_goals (try rw [w2])
    all_goals (try rw [w3])
    all_goals (try rw [w4])
    all_goals (refine hQ _ ?_; unfold v_copyOf; (repeat' split) <;> first | rfl | omega | exact congrArg _ (by omega))
  · (repeat' (first | (refine And.intro ?_ ?_) | (intro hzq; simp only [b2_e0, b2_e1, Classical.not_not, ne_eq] at hzq) | (intro hzq) | exact Or.inl rfl | exact Or.inr rfl | refine PU.I (P_W_isCopy h.x.1 _) ?_)) <;> try omega
    all_goals (refine hQ _ ?_; unfold v_copyOf; (repeat' split) <;> first | rfl | omega | exact congrArg _ (by omega))
theorem Z_rd_copyOf (h : IVg σ P g n) (c w : Int) : PU m_Z_copyOf [zz, .inl c, .inl w] σ (v_copyOf c w σ P g) := by
  refine PU.mk fun Q hQ => T_Z_copyOf _ _ _ _ _ _ ?_
  by_cases hw : 0 ≤ w ∧ w ≤ 5
  · rw [wr_id (x := 1 + w) (by omega)]
    (repeat' (first | (refine And.intro ?_ ?_) | (intro hzq; simp only [b2_e0, b2_e1, Classical.not_not, ne_eq] at hzq) | (intro hzq) | exact Or.inl rfl | exact Or.inr rfl | refine PU.I (P_Z_isCopy h.z _) ?_ | refine PU.I (P_Z_in _ _ _ _) ?_ | refine PU.I (P_Z_ofCopy h.z (by omega) (by omega) (by omega) (by omega)) ?_)) <;> try omega
    all_goals (refine hQ _ ?_; unfold v_copyOf; (repeat' split) <;> first | rfl | omega | exact congrArg _ (by omega))
  · (repeat' (first | (refine And.intro ?_ ?_) | (intro hzq; simp only [b2_e0, b2_e1, Classical.not_not, ne_eq] at hzq) | (intro hzq) | exact Or.inl rfl | exact Or.inr rfl | refine PU.I (P_Z_isCopy h.z _) ?_ | refine PU.I (P_Z_in _ _ _ _) ?_)) <;> try omega
    all_goals (refine hQ _ ?_; unfold v_copyOf; (repeat' split) <;> first | rfl | omega | exact congrArg _ (by omega))
theorem X_reportFrom (h : IVg σ P g n) {own other : Int} (ho : isRm g own) (ho2 : isRm g other) (x : Int) : PU m_X_reportFrom [xx, .inl own, .inl other, .inl x] σ (repG σ g own other x) := by
  have r := h.m.rul 3 (by omega) (by omega)
  have e1 := P_W_measureOf h.x.1 own
  have e2 := P_W_measureOf h.x.1 other
  rw [if_pos ho] at e1
  rw [if_pos ho2] at e2
  refine PU.mk fun Q hQ => T_X_reportFrom _ _ _ _ _ _ _ ?_
  refine And.intro (by omega) (e1.I (e2.I (hQ _ ?_)))
  unfold repG
  rw [r, Int.mul_comm _ 31, Int.mul_comm _ 31, Int.mul_comm _ 31]
theorem Z_reported (h : IVg σ P g n) {own other : Int} (ho : isRm g own) (ho2 : isRm g other) (x : Int) : PU m_Z_reported [zz, .inl own, .inl other, .inl x] σ (repG σ g own other x) := by
  refine PU.mk fun Q hQ => T_Z_reported _ _ _ _ _ _ _ ?_
  refine And.intro (by omega) (PU.I (P_Z_ofRoom h.z (by omega) (by omega) (by omega) (by omega)) (PU.I (P_Z_ofRoom h.z (by omega) (by omega) (by omega) (by omega)) (hQ _ rfl)))
theorem X_rd_report (h : IVg σ P g n) (c r : Int) : PU m_X_report [xx, .inl c, .inl r] σ (v_report c r σ P g) := by
  have c1 := h.z.ok.c1
  refine PU.mk fun Q hQ => T_X_report _ _ _ _ _ _ ?_
  by_cases hc : isCo P c ∧ co g c 1 ≠ -1
  · have i := (h.w.c.ins c hc.1 hc.2).1
    have z := h.x.1.co c hc.1.1 hc.1.2
    by_cases hr : isRm g r
    · have e : PU m_X_reportFrom [xx, .inl (σ 21 0 c 1), .inl r, .inl (σ 21 0 c 0)] σ (repG σ g (co g c 1) r (co g c 0)) := by
        rw [z.room, z.reg]
        exact X_reportFrom h i hr _
      (repeat' (first | (refine And.intro ?_ ?_) | (intro hzq; simp only [b2_e0, b2_e1, Classical.not_not, ne_eq] at hzq) | (intro hzq) | exact Or.inl rfl | exact Or.inr rfl | refine PU.I (P_W_isInside h.x.1 _) ?_ | refine PU.I (P_W_isRoom h.x.1 _) ?_ | refine PU.I (e) ?_)) <;> try omega
      all_goals (refine hQ _ ?_; unfold v_report; (repeat' split) <;> first | rfl | omega | exact congrArg _ (by omega))
    · (repeat' (first | (refine And.intro ?_ ?_) | (intro hzq; simp only [b2_e0, b2_e1, Classical.not_not, ne_eq] at hzq) | (intro hzq) | exact Or.inl rfl | exact Or.inr rfl | refine PU.I (P_W_isInside h.x.1 _) ?_ | refine PU.I (P_W_isRoom h.x.1 _) ?_)) <;> try omega
      all_goals (refine hQ _ ?_; unfold v_report; (repeat' split) <;> first | rfl | omega | exact congrArg _ (by omega))
  · (repeat' (first | (refine And.intro ?_ ?_) | (intro hzq; simp only [b2_e0, b2_e1, Classical.not_not, ne_eq] at hzq) | (intro hzq) | exact Or.inl rfl | exact Or.inr rfl | refine PU.I (P_W_isInside h.x.1 _) ?_)) <;> try omega
    all_goals (refine hQ _ ?_; unfold v_report; (repeat' split) <;> first | rfl | omega | exact congrArg _ (by omega))
theorem Z_rd_report (h : IVg σ P g n) (c r : Int) : PU m_Z_report [zz, .inl c, .inl r] σ (v_report c r σ P g) := by
  have c1 := h.z.ok.c1
  refine PU.mk fun Q hQ => T_Z_report _ _ _ _ _ _ ?_
  by_cases hc : (isCo P c ∧ co g c 1 ≠ -1) ∧ isRm g r
  · have i := (h.w.c.ins c hc.1.1 hc.1.2).1
    (repeat' (first | (refine And.intro ?_ ?_) | (intro hzq; simp only [b2_e0, b2_e1, Classical.not_not, ne_eq] at hzq) | (intro hzq) | exact Or.inl rfl | exact Or.inr rfl | refine PU.I (P_Z_isCore h.z _) ?_ | refine PU.I (P_Z_isRoom h.z _) ?_ | refine PU.I (P_Z_isInside h.z (by omega) (by omega)) ?_ | refine PU.I (P_Z_ofCore h.z (by omega) (by omega) (by omega) (by omega)) ?_ | refine PU.I (Z_reported h i hc.2 _) ?_)) <;> try omega
    all_goals (refine hQ _ ?_; unfold v_report; (repeat' split) <;> first | rfl | omega | exact congrArg _ (by omega))
  · (repeat' (first | (refine And.intro ?_ ?_) | (intro hzq; simp only [b2_e0, b2_e1, Classical.not_not, ne_eq] at hzq) | (intro hzq) | exact Or.inl rfl | exact Or.inr rfl | refine PU.I (P_Z_isCore h.z _) ?_ | refine PU.I (P_Z_isRoom h.z _) ?_ | refine PU.I (P_Z_isInside h.z (by omega) (by omega)) ?_)) <;> try omega
    all_goals (refine hQ _ ?_; unfold v_report; (repeat' split) <;> first | rfl | omega | exact congrArg _ (by omega))
theorem X_rd_proves (h : IVg σ P g n) (c r x y : Int) : PU m_X_proves [xx, .inl c, .inl r, .inl x, .inl y] σ (v_proves c r x y σ P g) := by
  have c1 := h.z.ok.c1
  refine PU.mk fun Q hQ => T_X_proves _ _ _ _ _ _ _ _ ?_
  by_cases hc : isCo P c ∧ co g c 1 ≠ -1
  · have i := (h.w.c.ins c hc.1 hc.2).1
    have z := h.x.1.co c hc.1.1 hc.1.2
    by_cases hr : isRm g r
    · have e : PU m_X_reportFrom [xx, .inl r, .inl (σ 21 0 c 1), .inl x] σ (repG σ g r (co g c 1) x) := by
        rw [z.room]
        exact X_reportFrom h hr i _
      (repeat' (first | (refine And.intro ?_ ?_) | (intro hzq; simp only [b2_e0, b2_e1, Classical.not_not, ne_eq] at hzq) | (intro hzq) | exact Or.inl rfl | exact Or.inr rfl | refine PU.I (P_W_isInside h.x.1 _) ?_ | refine PU.I (P_W_isRoom h.x.1 _) ?_ | refine PU.I (e) ?_)) <;> try omega
      all_goals (refine hQ _ ?_; unfold v_proves; (repeat' split) <;> first | rfl | omega | exact congrArg _ (by omega))
    · (repeat' (first | (refine And.intro ?_ ?_) | (intro hzq; simp only [b2_e0, b2_e1, Classical.not_not, ne_eq] at hzq) | (intro hzq) | exact Or.inl rfl | exact Or.inr rfl | refine PU.I (P_W_isInside h.x.1 _) ?_ | refine PU.I (P_W_isRoom h.x.1 _) ?_)) <;> try omega
      all_goals (refine hQ _ ?_; unfold v_proves; (repeat' split) <;> first | rfl | omega | exact congrArg _ (by omega))
  · (repeat' (first | (refine And.intro ?_ ?_) | (intro hzq; simp only [b2_e0, b2_e1, Classical.not_not, ne_eq] at hzq) | (intro hzq) | exact Or.inl rfl | exact Or.inr rfl | refine PU.I (P_W_isInside h.x.1 _) ?_)) <;> try omega
    all_goals (refine hQ _ ?_; unfold v_proves; (repeat' split) <;> first | rfl | omega | exact congrArg _ (by omega))
theorem Z_rd_proves (h : IVg σ P g n) (c r x y : Int) : PU m_Z_proves [zz, .inl c, .inl r, .inl x, .inl y] σ (v_proves c r x y σ P g) := by
  have c1 := h.z.ok.c1
  refine PU.mk fun Q hQ => T_Z_proves _ _ _ _ _ _ _ _ ?_
  by_cases hc : (isCo P c ∧ co g c 1 ≠ -1) ∧ isRm g r
  · have i := (h.w.c.ins c hc.1.1 hc.1.2).1
    (repeat' (first | (refine And.intro ?_ ?_) | (intro hzq; simp only [b2_e0, b2_e1, Classical.not_not, ne_eq] at hzq) | (intro hzq) | exact Or.inl rfl | exact Or.inr rfl | refine PU.I (P_Z_isCore h.z _) ?_ | refine PU.I (P_Z_isRoom h.z _) ?_ | refine PU.I (P_Z_isInside h.z (by omega) (by omega)) ?_ | refine PU.I (P_Z_ofCore h.z (by omega) (by omega) (by omega) (by omega)) ?_ | refine PU.I (Z_reported h hc.2 i _) ?_)) <;> try omega
    all_goals (refine hQ _ ?_; unfold v_proves; (repeat' split) <;> first | rfl | omega | exact congrArg _ (by omega))
  · (repeat' (first | (refine And.intro ?_ ?_) | (intro hzq; simp only [b2_e0, b2_e1, Classical.not_not, ne_eq] at hzq) | (intro hzq) | exact Or.inl rfl | exact Or.inr rfl | refine PU.I (P_Z_isCore h.z _) ?_ | refine PU.I (P_Z_isRoom h.z _) ?_ | refine PU.I (P_Z_isInside h.z (by omega) (by omega)) ?_)) <;> try omega
    all_goals (refine hQ _ ?_; unfold v_proves; (repeat' split) <;> first | rfl | omega | exact congrArg _ (by omega))
theorem X_rd_status (h : IVg σ P g n) (x : Int) : PU m_X_status [xx, .inl x] σ (v_status x σ P g) := by
  have r : 0 ≤ x ∧ x < 5 → σ 10 0 0 x = σ 47 0 0 x := fun z => h.r.eq x z.1 z.2
  refine PU.mk fun Q hQ => T_X_status _ _ _ _ _ ?_
  (repeat' (first | (refine And.intro ?_ ?_) | (intro hzq; simp only [b2_e0, b2_e1, Classical.not_not, ne_eq] at hzq) | (intro hzq) | exact Or.inl rfl | exact Or.inr rfl)) <;> try omega
  all_goals (refine hQ _ ?_; unfold v_status; (repeat' split) <;> first | rfl | omega | exact congrArg _ (by omega))
theorem Z_rd_status (h : IVg σ P g n) (x : Int) : PU m_Z_status [zz, .inl x] σ (v_status x σ P g) := by
  refine PU.mk fun Q hQ => T_Z_status _ _ _ _ _ ?_
  (repeat' (first | (refine And.intro ?_ ?_) | (intro hzq; simp only [b2_e0, b2_e1, Classical.not_not, ne_eq] at hzq) | (intro hzq) | exact Or.inl rfl | exact Or.inr rfl | refine PU.I (P_Z_in _ _ _ _) ?_)) <;> try omega
  all_goals (refine hQ _ ?_; unfold v_status; (repeat' split) <;> first | rfl | omega | exact congrArg _ (by omega))
theorem X_rd_log (h : IVg σ P g n) (i w : Int) : PU m_X_log [xx, .inl i, .inl w] σ (v_log i w σ P g) := by
  have l := h.x.1.lg
  have l0 := l.l0
  have l1 := l.l1
  have n0 := l.n0
  have n1 := l.n1
  have le := l.len
  refine PU.mk fun Q hQ => T_X_log _ _ _ _ _ _ ?_
  by_cases hi : (0 ≤ i ∧ i < g 345) ∧ 0 ≤ w ∧ w ≤ 2
  · have r := l.row i hi.1.1 hi.1.2
    have e : PU m_Log_told [lgh 0, .inl i, .inl w] σ (g (346 + 3 * (g 345 - 1 - i) + w)) := by
      refine PU.mk fun Q hQ => T_Log_told _ _ _ _ _ _ ?_
      rw [wr_id (x := σ 26 0 0 1 - 1) (by omega), wr_id (x := σ 26 0 0 1 - 1 - i) (by omega)]
      refine PU.I (P_floorMod ⟨by omega, by omega⟩ (by omega) (by omega) σ) ?_
      rw [r.1, r.2.1, r.2.2]
      refine And.intro (fun h0 => And.intro (fun h1 => And.intro (by omega) (hQ _ (congrArg g (by omega)))) (fun h1 => And.intro (by omega) (hQ _ (congrArg g (by omega))))) (fun h0 => And.intro (by omega) (hQ _ (congrArg g (by omega))))
    (repeat' (first | (refine And.intro ?_ ?_) | (intro hzq; simp only [b2_e0, b2_e1, Classical.not_not, ne_eq] at hzq) | (intro hzq) | exact Or.inl rfl | exact Or.inr rfl | refine PU.I (e) ?_)) <;> try omega
    all_goals (refine hQ _ ?_; unfold v_log; (repeat' split) <;> first | rfl | omega | exact congrArg _ (by omega))
  · (repeat' (first | (refine And.intro ?_ ?_) | (intro hzq; simp only [b2_e0, b2_e1, Classical.not_not, ne_eq] at hzq) | (intro hzq) | exact Or.inl rfl | exact Or.inr rfl)) <;> try omega
    all_goals (refine hQ _ ?_; unfold v_log; (repeat' split) <;> first | rfl | omega | exact congrArg _ (by omega))
theorem Z_rd_log (h : IVg σ P g n) (i w : Int) : PU m_Z_log [zz, .inl i, .inl w] σ (v_log i w σ P g) := by
  have l := h.x.1.lg
  have l0 := l.l0
  have l1 := l.l1
  have e := h.z.now 345 (by omega) (by omega)
  refine PU.mk fun Q hQ => T_Z_log _ _ _ _ _ _ ?_
  rw [e, wr_id (x := g 345 - 1) (by omega)]
  by_cases hi : (0 ≤ i ∧ i < g 345) ∧ 0 ≤ w ∧ w ≤ 2
  · have e2 := h.z.now (346 + 3 * (g 345 - 1 - i) + w) (by omega) (by omega)
    have e3 : wr (wr (346 + wr (3 * wr (wr (g 345 - 1) - i))) + w) = 346 + 3 * (g 345 - 1 - i) + w := by
      rw [wr_id (x := g 345 - 1) (by omega), wr_id (x := g 345 - 1 - i) (by omega), wr_id (x := 3 * (g 345 - 1 - i)) (by omega), wr_id (x := 346 + 3 * (g 345 - 1 - i)) (by omega), wr_id (by omega)]
    (repeat' (first | (refine And.intro ?_ ?_) | (intro hzq; simp only [b2_e0, b2_e1, Classical.not_not, ne_eq] at hzq) | (intro hzq) | exact Or.inl rfl | exact Or.inr rfl | refine PU.I (P_Z_in _ _ _ _) ?_ | rw [e] | rw [e3] | rw [e2])) <;> try omega
    all_goals (refine hQ _ ?_; unfold v_log; (repeat' split) <;> first | rfl | omega | exact congrArg _ (by omega))
  · (repeat' (first | (refine And.intro ?_ ?_) | (intro hzq; simp only [b2_e0, b2_e1, Classical.not_not, ne_eq] at hzq) | (intro hzq) | exact Or.inl rfl | exact Or.inr rfl | refine PU.I (P_Z_in _ _ _ _) ?_)) <;> try omega
    all_goals (refine hQ _ ?_; unfold v_log; (repeat' split) <;> first | rfl | omega | exact congrArg _ (by omega))
theorem X_rd_alike (h : IVg σ P g n) (r o : Int) : PU m_X_alike [xx, .inl r, .inl o] σ (v_alike r o σ P g) := by
  refine PU.mk fun Q hQ => T_X_alike _ _ _ _ _ _ ?_
  by_cases hr : isRm g r ∧ isRm g o
  · have y4 := ((h.x.1.rm r hr.1.1.1 hr.1.1.2).y hr.1.2).meas
    have y5 := ((h.x.1.rm o hr.2.1.1 hr.2.1.2).y hr.2.2).meas
    (repeat' (first | (refine And.intro ?_ ?_) | (intro hzq; simp only [b2_e0, b2_e1, Classical.not_not, ne_eq] at hzq) | (intro hzq) | exact Or.inl rfl | exact Or.inr rfl | refine PU.I (P_W_isRoom h.x.1 _) ?_)) <;> try omega
    all_goals (refine hQ _ ?_; unfold v_alike; (repeat' split) <;> first | rfl | omega | exact congrArg _ (by omega))
  · (repeat' (first | (refine And.intro ?_ ?_) | (intro hzq; simp only [b2_e0, b2_e1, Classical.not_not, ne_eq] at hzq) | (intro hzq) | exact Or.inl rfl | exact Or.inr rfl | refine PU.I (P_W_isRoom h.x.1 _) ?_)) <;> try omega
    all_goals (refine hQ _ ?_; unfold v_alike; (repeat' split) <;> first | rfl | omega | exact congrArg _ (by omega))
theorem Z_rd_alike (h : IVg σ P g n) (r o : Int) : PU m_Z_alike [zz, .inl r, .inl o] σ (v_alike r o σ P g) := by
  refine PU.mk fun Q hQ => T_Z_alike _ _ _ _ _ _ ?_
  (repeat' (first | (refine And.intro ?_ ?_) | (intro hzq; simp only [b2_e0, b2_e1, Classical.not_not, ne_eq] at hzq) | (intro hzq) | exact Or.inl rfl | exact Or.inr rfl | refine PU.I (P_Z_isRoom h.z _) ?_ | refine PU.I (P_Z_ofRoom h.z (by omega) (by omega) (by omega) (by omega)) ?_)) <;> try omega
  all_goals (refine hQ _ ?_; unfold v_alike; (repeat' split) <;> first | rfl | omega | exact congrArg _ (by omega))
theorem X_rd_count (h : IVg σ P g n) (x : Int) : PU m_X_count [xx, .inl x] σ (v_count x σ P g) := by
  have e1 := h.x.1.np
  have e2 := h.s.cnt
  have e3 := h.t.len
  have e4 := h.x.1.lg.len
  have e5 := h.u.eq
  refine PU.mk fun Q hQ => T_X_count _ _ _ _ _ ?_
  (repeat' (first | (refine And.intro ?_ ?_) | (intro hzq; simp only [b2_e0, b2_e1, Classical.not_not, ne_eq] at hzq) | (intro hzq) | exact Or.inl rfl | exact Or.inr rfl)) <;> try omega
  all_goals (refine hQ _ ?_; unfold v_count; (repeat' split) <;> first | rfl | omega | exact congrArg _ (by omega))
theorem Z_rd_count (h : IVg σ P g n) (x : Int) : PU m_Z_count [zz, .inl x] σ (v_count x σ P g) := by
  have hb := bz_iff h.z.mac
  have e1 := h.z.np
  have e2 := h.z.now 345 (by omega) (by omega)
  refine PU.mk fun Q hQ => T_Z_count _ _ _ _ _ ?_
  (repeat' (first | (refine And.intro ?_ ?_) | (intro hzq; simp only [b2_e0, b2_e1, Classical.not_not, ne_eq] at hzq) | (intro hzq) | exact Or.inl rfl | exact Or.inr rfl)) <;> try omega
  all_goals (refine hQ _ ?_; unfold v_count; (repeat' split) <;> first | rfl | omega | exact congrArg _ (by omega))
theorem X_isScript (h : SCi σ) (m : Int) : PU m_X_isScript [xx, .inl m] σ (b2 (0 ≤ m ∧ m < σ 40 0 0 14)) := by
  have e1 := h.cnt
  have e2 := h.c1
  refine PU.mk fun Q hQ => T_X_isScript _ _ _ _ _ ?_
  (repeat' (first | (refine And.intro ?_ ?_) | (intro hzq; simp only [b2_e0, b2_e1, Classical.not_not, ne_eq] at hzq) | (intro hzq) | exact Or.inl rfl | exact Or.inr rfl)) <;> try omega
  all_goals (first | exact hQ _ (b2_l (by omega)) | exact hQ _ (b2_h (by omega)))
theorem Z_isScript (h : SCi σ) (m : Int) : PU m_Z_isScript [zz, .inl m] σ (b2 (0 ≤ m ∧ m < σ 40 0 0 14)) := by
  have e1 := h.c0
  have e2 := h.c1
  refine PU.mk fun Q hQ => T_Z_isScript _ _ _ _ _ ?_
  rw [wr_id (by omega)]
  refine PU.I (P_Z_in _ _ _ _) ?_
  exact ⟨b2_01 _, hQ _ (b2_iff (by constructor <;> intro h <;> omega))⟩
theorem S_hasStep (h : SCi σ) {m : Int} (hm : 0 ≤ m ∧ m < σ 40 0 0 14) (i : Int) : PU m_Script_hasStep [.inr (.inr (5, m, 0)), .inl i] σ (b2 (0 ≤ i ∧ i < σ 45 0 0 m)) := by
  have e1 := h.len m hm.1 hm.2
  refine PU.mk fun Q hQ => T_Script_hasStep _ _ _ _ _ ?_
  (repeat' (first | (refine And.intro ?_ ?_) | (intro hzq; simp only [b2_e0, b2_e1, Classical.not_not, ne_eq] at hzq) | (intro hzq) | exact Or.inl rfl | exact Or.inr rfl)) <;> try omega
  all_goals (first | exact hQ _ (b2_l (by omega)) | exact hQ _ (b2_h (by omega)))
theorem S_told (h : SCi σ) {m i w : Int} (hm : 0 ≤ m ∧ m < σ 40 0 0 14) (hi : 0 ≤ i ∧ i < σ 45 0 0 m) (hw : 0 ≤ w ∧ w < 6) : PU m_Script_told [.inr (.inr (5, m, 0)), .inl i, .inl w] σ (σ 44 0 0 (6 * (12 * m + i) + w)) := by
  have e1 := h.len m hm.1 hm.2
  have e2 := h.cel m i w hm.1 hm.2 hi.1 hi.2 hw.1 hw.2
  refine PU.mk fun Q hQ => T_Script_told _ _ _ _ _ _ ?_
  rw [wr_id (x := i * 6) (by omega), wr_id (x := i * 6 + w) (by omega), show i * 6 + w = 6 * i + w by omega]
  (repeat' (first | (refine And.intro ?_ ?_) | (intro hzq; simp only [b2_e0, b2_e1, Classical.not_not, ne_eq] at hzq) | (intro hzq) | exact Or.inl rfl | exact Or.inr rfl | refine PU.I (S_hasStep h hm _) ?_)) <;> try omega
  exact hQ _ e2
theorem Z_stepOf (h : SCi σ) {m i w : Int} (hm : 0 ≤ m ∧ m < σ 40 0 0 14) (hi : 0 ≤ i ∧ i < σ 45 0 0 m) (hw : 0 ≤ w ∧ w < 6) : PU m_Z_stepOf [zz, .inl m, .inl i, .inl w] σ (σ 44 0 0 (6 * (12 * m + i) + w)) := by
  have e1 := h.len m hm.1 hm.2
  have e2 := h.c1
  refine PU.mk fun Q hQ => T_Z_stepOf _ _ _ _ _ _ _ ?_
  rw [wr_id (x := 12 * m) (by omega), wr_id (x := 12 * m + i) (by omega), wr_id (x := 6 * (12 * m + i)) (by omega), wr_id (x := 6 * (12 * m + i) + w) (by omega)]
  exact ⟨⟨by omega, by omega⟩, hQ _ rfl⟩
theorem X_rd_step (h : IVg σ P g n) (m i w : Int) : PU m_X_step [xx, .inl m, .inl i, .inl w] σ (v_step m i w σ P g) := by
  have e2 := h.s.c1
  refine PU.mk fun Q hQ => T_X_step _ _ _ _ _ _ _ ?_
  by_cases hm : 0 ≤ m ∧ m < σ 40 0 0 14
  · by_cases hi : (0 ≤ i ∧ i < σ 45 0 0 m) ∧ 0 ≤ w ∧ w < 6
    · (repeat' (first | (refine And.intro ?_ ?_) | (intro hzq; simp only [b2_e0, b2_e1, Classical.not_not, ne_eq] at hzq) | (intro hzq) | exact Or.inl rfl | exact Or.inr rfl | refine PU.I (X_isScript h.s _) ?_ | refine PU.I (S_hasStep h.s hm _) ?_ | refine PU.I (S_told h.s hm hi.1 hi.2) ?_)) <;> try omega
      all_goals (refine hQ _ ?_; unfold v_step; (repeat' split) <;> first | rfl | omega | exact congrArg _ (by omega))
    · (repeat' (first | (refine And.intro ?_ ?_) | (intro hzq; simp only [b2_e0, b2_e1, Classical.not_not, ne_eq] at hzq) | (intro hzq) | exact Or.inl rfl | exact Or.inr rfl | refine PU.I (X_isScript h.s _) ?_ | refine PU.I (S_hasStep h.s hm _) ?_)) <;> try omega
      all_goals (refine hQ _ ?_; unfold v_step; (repeat' split) <;> first | rfl | omega | exact congrArg _ (by omega))
  · (repeat' (first | (refine And.intro ?_ ?_) | (intro hzq; simp only [b2_e0, b2_e1, Classical.not_not, ne_eq] at hzq) | (intro hzq) | exact Or.inl rfl | exact Or.inr rfl | refine PU.I (X_isScript h.s _) ?_)) <;> try omega
    all_goals (refine hQ _ ?_; unfold v_step; (repeat' split) <;> first | rfl | omega | exact congrArg _ (by omega))
theorem Z_rd_step (h : IVg σ P g n) (m i w : Int) : PU m_Z_step [zz, .inl m, .inl i, .inl w] σ (v_step m i w σ P g) := by
  have e2 := h.s.c1
  refine PU.mk fun Q hQ => T_Z_step _ _ _ _ _ _ _ ?_
  by_cases hm : 0 ≤ m ∧ m < σ 40 0 0 14
  · have e1 := h.s.len m hm.1 hm.2
    have e3 : wr (σ 45 0 0 m - 1) = σ 45 0 0 m - 1 := wr_id (by omega)
    by_cases hi : (0 ≤ i ∧ i < σ 45 0 0 m) ∧ 0 ≤ w ∧ w < 6
    · (repeat' (first | (refine And.intro ?_ ?_) | (intro hzq; simp only [b2_e0, b2_e1, Classical.not_not, ne_eq] at hzq) | (intro hzq) | exact Or.inl rfl | exact Or.inr rfl | refine PU.I (Z_isScript h.s _) ?_ | refine PU.I (P_Z_in _ _ _ _) ?_ | refine PU.I (Z_stepOf h.s hm hi.1 hi.2) ?_)) <;> try omega
      all_goals (refine hQ _ ?_; unfold v_step; (repeat' split) <;> first | rfl | omega | exact congrArg _ (by omega))
    · (repeat' (first | (refine And.intro ?_ ?_) | (intro hzq; simp only [b2_e0, b2_e1, Classical.not_not, ne_eq] at hzq) | (intro hzq) | exact Or.inl rfl | exact Or.inr rfl | refine PU.I (Z_isScript h.s _) ?_ | refine PU.I (P_Z_in _ _ _ _) ?_)) <;> try omega
      all_goals (refine hQ _ ?_; unfold v_step; (repeat' split) <;> first | rfl | omega | exact congrArg _ (by omega))
  · (repeat' (first | (refine And.intro ?_ ?_) | (intro hzq; simp only [b2_e0, b2_e1, Classical.not_not, ne_eq] at hzq) | (intro hzq) | exact Or.inl rfl | exact Or.inr rfl | refine PU.I (Z_isScript h.s _) ?_)) <;> try omega
    all_goals (refine hQ _ ?_; unfold v_step; (repeat' split) <;> first | rfl | omega | exact congrArg _ (by omega))
end RDA
