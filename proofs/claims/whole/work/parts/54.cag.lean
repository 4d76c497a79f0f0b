/-! the component's acts: evict, load, remove -/
section CA5
variable {σ : ST} {k : Int} {P : MP} {g : Int → Int} {n : Int}
theorem GW.x (hg : GW P g n) (hw : RW σ k P g) : RX σ k P g := ⟨hw, hg.c3 hw.ok⟩
theorem evictG_eq {y p sl s : Int} : evictG g y p sl s = (if pg g p 0 = 1 then clearG (sr (sp (keepG (put g 343 (wr (g 343 + 1))) y (rm g (pg g p 1) 1) (pg g p 2) (pg g p 0) (pg g p 3) (pg g p 4) (if pg g p 6 = 2 then 1 else 0) (wr (g 343 + 1))) sl (7 + s) (wr (g 343 + 1))) (pg g p 1) 6 1) p else clearG (sr (sp (keepG (put g 343 (wr (g 343 + 1))) y (rm g (pg g p 1) 1) (pg g p 2) (pg g p 0) (pg g p 3) (pg g p 4) (if pg g p 6 = 2 then 1 else 0) (wr (g 343 + 1))) sl (7 + s) (wr (g 343 + 1))) (pg g p 1) (7 + pg g p 2) 2) p) := rfl
theorem D_evict (h : RX σ k P g) {p sl s y : Int} (hp : isPg P p) (hs : isPg P sl) (hj : 0 ≤ s ∧ s < 4) (hy : 0 ≤ y ∧ y < 12) (hr : isRm g (pg g p 1)) (hm : pg g p 0 ≠ 1 → 0 ≤ pg g p 2 ∧ pg g p 2 < rm g (pg g p 1) 2) (r8 : rm g (pg g p 1) 2 ≤ 8) {F : Int → ST → Prop} (K : ∀ t, Off (SWd k) σ t → RX t k P (evictG g y p sl s) → F y t) :
    wpM m_Copy_keep [cc k y, pp k p, .inl ((up σ 12 k 0 3 (wr ((σ 12 k 0 3) + 1))) 17 k (σ 14 k p 1) 1), .inl ((up σ 12 k 0 3 (wr ((σ 12 k 0 3) + 1))) 12 k 0 3)] (up σ 12 k 0 3 (wr ((σ 12 k 0 3) + 1))) (asV fun s109 =>
      ((0 : Int) ≤ sl ∧ (sl : Int) < 10) ∧ ((0 : Int) ≤ s ∧ (s : Int) < 4) ∧
      (((((up s109 15 k sl s (s109 12 k 0 3)) 14 k p 0) ≠ 1 : Prop) →
        wpM m_Room_place [rr k (σ 14 k p 1), .inl ((up s109 15 k sl s (s109 12 k 0 3)) 14 k p 2), .inl 2] (up s109 15 k sl s (s109 12 k 0 3)) (asV fun s110 =>
        wpM m_Page_begin [pp k p, .inl 0, .inl (-1)] s110 (asV fun s111 => F y s111))) ∧
      (¬ (((up s109 15 k sl s (s109 12 k 0 3)) 14 k p 0) ≠ 1) → ((1 : Int) = 0 ∨ (1 : Int) = 1) ∧
        wpM m_Page_begin [pp k p, .inl 0, .inl (-1)] (up (up s109 15 k sl s (s109 12 k 0 3)) 17 k (σ 14 k p 1) 6 1) (asV fun s112 => F y s112)))) := by
  have p1 := h.1.ok.p1
  have n0 := h.1.ver
  obtain ⟨x1, x2, x3, x4, x5, -, -, x8, x9⟩ := h.1.pg p hp.1 hp.2
  have y := (h.1.rm _ hr.1.1 hr.1.2).y hr.2
  have y1 := y.ser
  have y2 := y.size
  rw [x2, n0, up_s, if_pos rfl, up_o (by decide), y1]
  refine C_Cp_keep (fun s1 o1 a0 a1 a2 a3 a4 a5 a6 a7 a8 => ?_)
  rw [up_o (by decide), x3] at a2
  rw [up_o (by decide), x1] at a3
  rw [up_o (by decide), x4] at a4
  rw [up_o (by decide), x5] at a5
  rw [up_o (by decide), x8] at a6
  have q1 : ∀ (t : Nat) (k' i s : Int), t ≠ 25 → s1 t k' i s = up σ 12 k 0 3 (wr (g 343 + 1)) t k' i s := fun t k' i s h => o1 t k' i s (fun z => h z.1)
  have e1 : s1 12 k 0 3 = wr (g 343 + 1) := by rw [q1 _ _ _ _ (by decide), up_s, if_pos rfl]
  have e2 : ∀ j, s1 14 k p j = σ 14 k p j := fun j => by rw [q1 _ _ _ _ (by decide), up_o (by decide)]
  have e3 : ∀ j, s1 17 k (pg g p 1) j = σ 17 k (pg g p 1) j := fun j => by rw [q1 _ _ _ _ (by decide), up_o (by decide)]
  rw [e1, up_o (by decide), up_o (by decide), e2, e2, x1, x3]
  have h6 : bz (if pg g p 6 = 2 then 1 else 0) = b2 ((if pg g p 6 = 2 then (1 : Int) else 0) = 1) := by
    split
    · exact bz1 rfl
    · exact bz0 (by omega)
  have R1 := ((h.num (v := wr (g 343 + 1)) (Or.inl ⟨rfl, rfl⟩)).keep hy o1 a0 a1 a2 a3 a4 a5 a6 h6 a7 a8).slot (v := wr (g 343 + 1)) hs hj
  have O1 : Off (SWd k) σ (up s1 15 k sl s (wr (g 343 + 1))) := Off_up (Off_cat (Off_up (Off_refl _ _) ⟨rfl, by omega⟩) (Off_sub o1 (fun t k' i z => ⟨z.2.1, by have := z.1; omega⟩))) ⟨rfl, by omega⟩
  rw [evictG_eq] at K
  refine And.intro (by omega) (And.intro hj (And.intro (fun hk => ?_) (fun hk => ?_)))
  · rw [if_neg hk] at K
    have m := hm hk
    refine C_R_place2 (z := rm g (pg g p 1) 2) ?_ r8 m.1 m.2 ?_
    · rw [up_o (by decide), e3]
      exact y2
    · exact C_clear (R1.stands hr.1 ⟨m.1, by omega⟩) hp (fun t o r => K t (Off_cat (Off_up O1 ⟨rfl, by omega⟩) o) r)
  · rw [if_pos (by omega)] at K
    refine And.intro (Or.inr rfl) ?_
    exact C_clear (R1.away hr.1 (Or.inr rfl)) hp (fun t o r => K t (Off_cat (Off_up O1 ⟨rfl, by omega⟩) o) r)
theorem C_A_evict (hw : RW σ k P g) (hg : GW P g n) (p sl s : Int) {F : Int → ST → Prop} (K : ACK σ k P (whyEvictG P g p sl s) (evictG g (fPlace g) p sl s) (fPlace g) F) : wpM m_Acts_evictPage [aa k, .inl p, .inl sl, .inl s] σ (asI F) := by
  have p1 := hw.ok.p1
  have e2 := fPlace_in g
  refine T_Acts_evictPage _ _ _ _ _ _ _ ?_
  by_cases hp : isPg P p ∧ pg g p 0 ≠ 0
  · by_cases hs : isPg P sl ∧ pg g sl 0 = 4
    · by_cases hj : 0 ≤ s ∧ s < 4
      · have v9 := (hw.pg sl hs.1.1 hs.1.2).ver s hj.1 hj.2
        have fin : whyEvictG P g p sl s = -1 → _ := fun hy => D_evict (p := p) (sl := sl) (s := s) (y := fPlace g) (F := F) (hg.x hw) hp.1 hs.1 hj (by have := W_evict hy; omega) (hg.p.ow p hp.1 (by have := W_evict hy; omega) (by have := W_evict hy; omega)).1 (fun h => (hg.p.mv p hp.1 (by have := W_evict hy; omega)).1) (hg.p.rf _ (hg.p.ow p hp.1 (by have := W_evict hy; omega) (by have := W_evict hy; omega)).1).1.2 (fun t o r => K.2 hy t o r.1)
        have e4 : PU m_World_isRoom [ww k, .inl (σ 14 k p 1)] σ (b2 (isRm g (pg g p 1))) := by
          rw [(hw.pg p hp.1.1 hp.1.2).own]
          exact P_W_isRoom hw _
        have f1 : canGoG P g p → isRm g (pg g p 1) := fun h => (hg.p.ow p hp.1 (by omega) (by omega)).1
        have x2 := (hw.pg p hp.1.1 hp.1.2).own
        (repeat' (first | (refine And.intro ?_ ?_) | (intro hzq; simp only [b2_e0, b2_e1, Classical.not_not, ne_eq] at hzq) | (intro hzq) | exact Or.inl rfl | exact Or.inr rfl | refine PU.I (P_W_isFilled hw _) ?_ | refine PU.I (P_W_isSlots hw _) ?_ | refine PU.I (Q_W_canGo hw hg hp.1) ?_ | refine PU.I (Q_W_fPlace hw hg) ?_ | refine PU.I (e4) ?_ | exact fin (by unfold whyEvictG; (repeat' split) <;> first | rfl | omega))) <;> try omega
        all_goals (try exact K.no (by unfold whyEvictG; (repeat' split) <;> first | rfl | omega) (by omega))
      · (repeat' (first | (refine And.intro ?_ ?_) | (intro hzq; simp only [b2_e0, b2_e1, Classical.not_not, ne_eq] at hzq) | (intro hzq) | exact Or.inl rfl | exact Or.inr rfl | refine PU.I (P_W_isFilled hw _) ?_ | refine PU.I (P_W_isSlots hw _) ?_)) <;> try omega
        all_goals (try exact K.no (by unfold whyEvictG; (repeat' split) <;> first | rfl | omega) (by omega))
    · (repeat' (first | (refine And.intro ?_ ?_) | (intro hzq; simp only [b2_e0, b2_e1, Classical.not_not, ne_eq] at hzq) | (intro hzq) | exact Or.inl rfl | exact Or.inr rfl | refine PU.I (P_W_isFilled hw _) ?_ | refine PU.I (P_W_isSlots hw _) ?_)) <;> try omega
      all_goals (try exact K.no (by unfold whyEvictG; (repeat' split) <;> first | rfl | omega) (by omega))
  · (repeat' (first | (refine And.intro ?_ ?_) | (intro hzq; simp only [b2_e0, b2_e1, Classical.not_not, ne_eq] at hzq) | (intro hzq) | exact Or.inl rfl | exact Or.inr rfl | refine PU.I (P_W_isFilled hw _) ?_)) <;> try omega
    all_goals (try exact K.no (by unfold whyEvictG; (repeat' split) <;> first | rfl | omega) (by omega))
theorem loadG_eq {c p r sl s : Int} (hr : 0 ≤ r ∧ r < 4) (hs : 0 ≤ sl ∧ sl < 10 ∧ 0 ≤ s ∧ s < 4) (hc : cp g c 3 ≠ 1 → 0 ≤ cp g c 2 ∧ cp g c 2 < 8) : loadG g c p r sl s = (if cp g c 3 = 1 then sp (sr (fillG g p (cp g c 3) r (cp g c 2) (cp g c 4) (cp g c 5) (if cp g c 6 = 1 then 2 else 0)) r 6 0) sl (7 + s) 0 else sp (sr (sr (fillG g p (cp g c 3) r (cp g c 2) (cp g c 4) (cp g c 5) (if cp g c 6 = 1 then 2 else 0)) r (7 + cp g c 2) 1) r (15 + cp g c 2) (p + 1)) sl (7 + s) 0) := by
  unfold loadG load2 load1 fillG
  by_cases h : cp g c 3 = 1
  · rw [if_pos h, if_pos h]
    unfold sr
    exact put_comm (by omega)
  · rw [if_neg h, if_neg h]
    have := hc h
    have e : ∀ (f : Int → Int) (i w : Int), 0 ≤ i → i < 23 → sr (sp f sl (7 + s) 0) r i w = sp (sr f r i w) sl (7 + s) 0 := fun f i w h0 h1 => put_comm (by omega)
    rw [e _ _ _ (by omega) (by omega), e _ _ _ (by omega) (by omega)]
theorem D_load (h : RX σ k P g) {c p r sl s : Int} (hp : isPg P p) (hs : isPg P sl) (hj : 0 ≤ s ∧ s < 4) (hr : isRm g r) (hc : isCp g c) (hm : cp g c 3 ≠ 1 → 0 ≤ cp g c 2 ∧ cp g c 2 < rm g r 2) (r8 : rm g r 2 ≤ 8) (oo : Option AV) {F : Int → ST → Prop} (K : ∀ t, Off (SWd k) σ t → RX t k P (loadG g c p r sl s) → F p t) :
    wp m_Acts_loadCopy (172, [some (aa k), oo, some (.inl sl), some (.inl s), some (.inl p), some (cc k c), some (.inl r), some (rr k r)], [], σ) (asI F) := by
  have p1 := h.1.ok.p1
  obtain ⟨w1, w2, w3, w4, w5, w6, w7, w8⟩ := (h.1.cp c hc.1.1 hc.1.2).y hc.2
  have y2 := ((h.1.rm _ hr.1.1 hr.1.2).y hr.2).size
  have hb : (if bz (σ 25 k c 6) = 0 then (0 : Int) else 2) = (if cp g c 6 = 1 then 2 else 0) := by
    have := bz_iff w6
    (repeat' split) <;> first | rfl | omega
  rw [loadG_eq hr.1 ⟨hs.1, by omega, hj⟩ (fun z => by have := hm z; omega)] at K
  refine T_Acts_loadCopy_172 _ _ _ _ _ _ _ _ _ _ _ _ _ ?_
  refine And.intro (by omega) ?_
  refine C_Cp_fill (fun s1 o1 b0 b1 b2 b3 b4 b5 b7 bv => ?_)
  rw [hb] at b7
  rw [w3] at b0
  rw [w2] at b2
  rw [w4] at b3
  rw [w5] at b4
  have R1 := h.fill hp o1 b0 b1 b2 b3 b4 b5 b7 bv
  have q1 : ∀ (t : Nat) (k' i s : Int), (t ≠ 14 ∧ t ≠ 15) → s1 t k' i s = σ t k' i s := fun t k' i s h => o1 t k' i s (fun z => z.1.elim h.1 h.2)
  have O1 : Off (SWd k) σ s1 := Off_sub o1 (fun t k' i z => ⟨z.2.1, by have := z.1; omega⟩)
  rw [q1 25 _ _ _ (by omega), q1 25 _ _ _ (by omega), w3, w2]
  refine And.intro (fun hk => ?_) (fun hk => ?_)
  · rw [if_neg hk] at K
    have m := hm hk
    refine C_R_settle2 (z := rm g r 2) ?_ r8 m.1 m.2 ?_
    · rw [q1 17 _ _ _ (by omega)]
      exact y2
    refine T_Acts_loadCopy_219 _ _ _ _ _ _ _ _ _ _ _ ?_
    refine And.intro (by omega) (And.intro (by omega) ?_)
    exact K _ (Off_up (Off_up (Off_up O1 ⟨rfl, by omega⟩) ⟨rfl, by omega⟩) ⟨rfl, by omega⟩) (((R1.stands hr.1 ⟨m.1, by omega⟩).map hr.1 ⟨m.1, by omega⟩).slot hs hj)
  · rw [if_pos (by omega)] at K
    refine And.intro (Or.inl rfl) ?_
    refine T_Acts_loadCopy_219 _ _ _ _ _ _ _ _ _ _ _ ?_
    refine And.intro (by omega) (And.intro (by omega) ?_)
    exact K _ (Off_up (Off_up O1 ⟨rfl, by omega⟩) ⟨rfl, by omega⟩) ((R1.away hr.1 (Or.inl rfl)).slot hs hj)
theorem C_A_load (hw : RW σ k P g) (hg : GW P g n) (c sl s : Int) {F : Int → ST → Prop} (K : ACK σ k P (whyLoadG P g c sl s) (loadG g c (fPage P g) (roomS g (cp g c 1)) sl s) (fPage P g) F) : wpM m_Acts_loadCopy [aa k, .inl c, .inl sl, .inl s] σ (asI F) := by
  have p1 := hw.ok.p1
  have e1 := fPage_in P g hw.ok.p0
  refine T_Acts_loadCopy _ _ _ _ _ _ _ ?_
  by_cases hc : isCp g c
  · by_cases hs : isPg P sl ∧ pg g sl 0 = 4
    · by_cases hj : 0 ≤ s ∧ s < 4
      · have v9 := (hw.pg sl hs.1.1 hs.1.2).ver s hj.1 hj.2
        have w := (hw.cp c hc.1.1 hc.1.2).y hc.2
        have w1 := w.ser
        have w3 := w.kind
        have w7 := w.ver
        have w9 := bz_iff w.cha
        have cy := hg.s.cy c hc
        have e4 : PU m_World_roomOfSerial [ww k, .inl (σ 25 k c 1)] σ (roomS g (cp g c 1)) := by
          rw [w1]
          exact Q_W_roomS hw _
        have e3 := roomS_in g (cp g c 1)
        have fin : ∀ oo, whyLoadG P g c sl s = -1 → wp m_Acts_loadCopy (172, [some (aa k), oo, some (.inl sl), some (.inl s), some (.inl (fPage P g)), some (cc k c), some (.inl (roomS g (cp g c 1))), some (rr k (roomS g (cp g c 1)))], [], σ) (asI F) := by
          intro oo hy
          have w := W_load hy
          have lv := roomS_lv hg hy
          have f := hg.p.rf _ lv.1
          exact D_load (hg.x hw) (by omega) hs.1 hj lv.1 hc (fun z => ⟨(cy.2.2.1 z).1, (lv.2.2.2 z).1⟩) f.1.2 oo (fun t o r => K.2 hy t o r.1)
        by_cases hr : roomS g (cp g c 1) = -1
        · (repeat' (first | (refine And.intro ?_ ?_) | (intro hzq; simp only [b2_e0, b2_e1, Classical.not_not, ne_eq] at hzq) | (intro hzq) | exact Or.inl rfl | exact Or.inr rfl | refine PU.I (P_W_isCopy hw _) ?_ | refine PU.I (P_W_isSlots hw _) ?_ | refine PU.I (Q_W_fPage hw) ?_ | refine PU.I (e4) ?_)) <;> try omega
          all_goals (try exact K.no (by unfold whyLoadG; (repeat' split) <;> first | rfl | omega) (by omega))
        · have y6 := bz_iff ((hw.rm (roomS g (cp g c 1)) (by omega) (by omega)).y (by omega)).away
          (repeat' (first | (refine And.intro ?_ ?_) | (intro hzq; simp only [b2_e0, b2_e1, Classical.not_not, ne_eq] at hzq) | (intro hzq) | exact Or.inl rfl | exact Or.inr rfl | refine PU.I (P_W_isCopy hw _) ?_ | refine PU.I (P_W_isSlots hw _) ?_ | refine PU.I (Q_W_fPage hw) ?_ | refine PU.I (e4) ?_ | exact fin _ (by unfold whyLoadG; (repeat' split) <;> first | rfl | omega))) <;> try omega
          all_goals (try exact K.no (by unfold whyLoadG; (repeat' split) <;> first | rfl | omega) (by omega))
      · (repeat' (first | (refine And.intro ?_ ?_) | (intro hzq; simp only [b2_e0, b2_e1, Classical.not_not, ne_eq] at hzq) | (intro hzq) | exact Or.inl rfl | exact Or.inr rfl | refine PU.I (P_W_isCopy hw _) ?_ | refine PU.I (P_W_isSlots hw _) ?_)) <;> try omega
        all_goals (try exact K.no (by unfold whyLoadG; (repeat' split) <;> first | rfl | omega) (by omega))
    · (repeat' (first | (refine And.intro ?_ ?_) | (intro hzq; simp only [b2_e0, b2_e1, Classical.not_not, ne_eq] at hzq) | (intro hzq) | exact Or.inl rfl | exact Or.inr rfl | refine PU.I (P_W_isCopy hw _) ?_ | refine PU.I (P_W_isSlots hw _) ?_)) <;> try omega
      all_goals (try exact K.no (by unfold whyLoadG; (repeat' split) <;> first | rfl | omega) (by omega))
  · (repeat' (first | (refine And.intro ?_ ?_) | (intro hzq; simp only [b2_e0, b2_e1, Classical.not_not, ne_eq] at hzq) | (intro hzq) | exact Or.inl rfl | exact Or.inr rfl | refine PU.I (P_W_isCopy hw _) ?_)) <;> try omega
    all_goals (try exact K.no (by unfold whyLoadG; (repeat' split) <;> first | rfl | omega) (by omega))
theorem inOf_eq (hg : GW P g n) (hk : MPok P) {r : Int} (hr : 0 ≤ r) : inSince P g r 2147483647 = inOf P g r := by
  unfold inSince inOf
  refine bf_iff _ _ _ (fun j a b => ?_)
  have h2 := hk.c0
  have hj : isCo P j := ⟨a, by omega⟩
  have h1 := hg.c.ins j hj
  have h3 := hg.n.le
  have h4 := hg.n.epo (co g j 1)
  constructor
  · exact fun h => h.1
  · intro h
    have := h1 (by omega)
    have := h4 this.1.1.1 this.1.1.2
    omega
theorem C_A_remove (hw : RW σ k P g) (hg : GW P g n) (p : Int) {F : Int → ST → Prop} (K : ACK σ k P (whyRemoveG P g p) (removeG g p) (pg g p 0) F) : wpM m_Acts_removePage [aa k, .inl p] σ (asI F) := by
  have p1 := hw.ok.p1
  have H := hg.x hw
  refine T_Acts_removePage _ _ _ _ _ ?_
  by_cases hp : isPg P p ∧ pg g p 0 ≠ 0
  · have kd := hg.p.kd p hp.1
    have x := hw.pg p hp.1.1 hp.1.2
    have x1 := x.kind
    have x2 := x.own
    have x3 := x.adr
    have e4 : PU m_World_isRoom [ww k, .inl (σ 14 k p 1)] σ (b2 (isRm g (pg g p 1))) := by
      rw [x2]
      exact P_W_isRoom hw _
    have e5 : PU m_World_pagesHere [ww k, .inl (σ 14 k p 1)] σ (nHere P g (pg g p 1)) := by
      rw [x2]
      exact P_W_pagesHere hw _
    have fin : whyRemoveG P g p = -1 → ∀ oo, wp m_Acts_removePage (107, [some (aa k), oo, some (pp k p), some (.inl (pg g p 0))], [], σ) (asI F) := by
      intro hy oo
      have K2 := K.2 hy
      unfold removeG at K2
      refine T_Acts_removePage_107 _ _ _ _ _ _ _ _ ?_
      refine PU.I e4 ?_
      rw [x2, x3]
      by_cases h4 : pg g p 0 = 4
      · rw [if_pos h4] at K2
        have h1 := hg.p.no1 p hp.1 (Or.inr h4)
        rw [b2_e0]
        refine And.intro (fun _ => C_clear H hp.1 (fun t o r => K2 t o r.1)) (fun z => absurd (show ¬ isRm g (pg g p 1) by omega) z)
      · have f := (hg.p.ow p hp.1 (by omega) (by omega)).1
        have f2 := hg.p.rf _ f
        rw [if_neg h4] at K2
        rw [b2_e0]
        refine And.intro (fun z => absurd f z) (fun _ => And.intro (fun hk => ?_) (fun hk => ?_))
        · rw [if_neg hk] at K2
          have m := (hg.p.mv p hp.1 (by omega)).1
          refine And.intro (by omega) ?_
          refine C_R_place2 (z := rm g (pg g p 1) 2) ((hw.rm _ f.1.1 f.1.2).y f.2).size f2.1.2 m.1 m.2 ?_
          exact C_clear (H.stands f.1 ⟨m.1, by omega⟩) hp.1 (fun t o r => K2 t (Off_cat (Off_up (Off_refl _ _) ⟨rfl, by omega⟩) o) r.1)
        · rw [if_pos (by omega)] at K2
          refine And.intro (by omega) (And.intro (Or.inl rfl) ?_)
          exact C_clear (H.gone f.1) hp.1 (fun t o r => K2 t (Off_cat (Off_up (Off_refl _ _) ⟨rfl, by omega⟩) o) r.1)
    rw [← x1] at fin
    by_cases h4 : pg g p 0 = 4
    · have fin2 : whyRemoveG P g p = -1 → ∀ oo, wp m_Acts_removePage (51, [some (aa k), oo, some (pp k p), some (.inl (σ 14 k p 0))], [], σ) (asI F) := by
        intro hy oo
        refine T_Acts_removePage_51 _ _ _ _ _ _ _ _ ?_
        (repeat' (first | (refine And.intro ?_ ?_) | (intro hzq; simp only [b2_e0, b2_e1, Classical.not_not, ne_eq] at hzq) | (intro hzq) | exact Or.inl rfl | exact Or.inr rfl | refine PU.I (P_P_hasRoom x) ?_)) <;> try omega
        refine T_Acts_removePage_81 _ _ _ _ _ _ _ _ ?_
        (repeat' (first | (refine And.intro ?_ ?_) | (intro hzq; simp only [b2_e0, b2_e1, Classical.not_not, ne_eq] at hzq) | (intro hzq) | exact Or.inl rfl | exact Or.inr rfl | exact fin hy _)) <;> try omega
      (repeat' (first | (refine And.intro ?_ ?_) | (intro hzq; simp only [b2_e0, b2_e1, Classical.not_not, ne_eq] at hzq) | (intro hzq) | exact Or.inl rfl | exact Or.inr rfl | refine PU.I (P_W_isFilled hw _) ?_ | refine PU.I (P_P_emptySlots x) ?_ | exact fin2 (by unfold whyRemoveG; (repeat' split) <;> first | rfl | omega) _)) <;> try omega
      all_goals (try exact K.no (by unfold whyRemoveG; (repeat' split) <;> first | rfl | omega) (by omega))
    · have f := (hg.p.ow p hp.1 (by omega) (by omega)).1
      have e6 : PU m_World_coresInside [ww k, .inl (σ 14 k p 1), .inl 2147483647] σ (inOf P g (pg g p 1)) := by
        rw [x2]
        exact (P_W_coresInside hw _ _).to (inOf_eq hg hw.ok f.1.1)
      have e7 : pg g p 0 = 1 → nHere P g (pg g p 1) = nPages P g (pg g p 1) 0 + 1 := nHere_eq hg hw.ok hp.1
      have fin2 : ∀ oo, wp m_Acts_removePage (51, [some (aa k), oo, some (pp k p), some (.inl (σ 14 k p 0))], [], σ) (asI F) := by
        intro oo
        have fin3 : inOf P g (pg g p 1) = 0 → wp m_Acts_removePage (81, [some (aa k), oo, some (pp k p), some (.inl (σ 14 k p 0))], [], σ) (asI F) := by
          intro hi
          refine T_Acts_removePage_81 _ _ _ _ _ _ _ _ ?_
          (repeat' (first | (refine And.intro ?_ ?_) | (intro hzq; simp only [b2_e0, b2_e1, Classical.not_not, ne_eq] at hzq) | (intro hzq) | exact Or.inl rfl | exact Or.inr rfl | refine PU.I (e5) ?_ | exact fin (by unfold whyRemoveG; (repeat' split) <;> first | rfl | omega) _)) <;> try omega
          all_goals (try exact K.no (by unfold whyRemoveG; (repeat' split) <;> first | rfl | omega) (by omega))
        refine T_Acts_removePage_51 _ _ _ _ _ _ _ _ ?_
        (repeat' (first | (refine And.intro ?_ ?_) | (intro hzq; simp only [b2_e0, b2_e1, Classical.not_not, ne_eq] at hzq) | (intro hzq) | exact Or.inl rfl | exact Or.inr rfl | refine PU.I (P_P_hasRoom x) ?_ | refine PU.I (e6) ?_ | exact fin3 (by omega))) <;> try omega
        all_goals (try exact K.no (by unfold whyRemoveG; (repeat' split) <;> first | rfl | omega) (by omega))
      (repeat' (first | (refine And.intro ?_ ?_) | (intro hzq; simp only [b2_e0, b2_e1, Classical.not_not, ne_eq] at hzq) | (intro hzq) | exact Or.inl rfl | exact Or.inr rfl | refine PU.I (P_W_isFilled hw _) ?_ | exact fin2 _)) <;> try omega
  · (repeat' (first | (refine And.intro ?_ ?_) | (intro hzq; simp only [b2_e0, b2_e1, Classical.not_not, ne_eq] at hzq) | (intro hzq) | exact Or.inl rfl | exact Or.inr rfl | refine PU.I (P_W_isFilled hw _) ?_)) <;> try omega
    all_goals (try exact K.no (by unfold whyRemoveG; (repeat' split) <;> first | rfl | omega) (by omega))
end CA5
