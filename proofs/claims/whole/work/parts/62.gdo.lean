/-! what always holds stays so: the acts, first half -/
section GDO
variable {P : MP} {g g' : Int → Int} {n : Int}
theorem GS.same (h : GS P g) (hcp : ∀ d j, 0 ≤ d → d < 12 → 0 ≤ j → j < 9 → cp g' d j = cp g d j) (hpg : ∀ q j, isPg P q → (j = 0 ∨ 7 ≤ j) → j < 11 → pg g' q j = pg g q j) (hrm : ∀ q j, 0 ≤ q → q < 4 → (0 ≤ j ∧ j < 3 ∨ 6 ≤ j ∧ j < 15) → rm g' q j = rm g q j) (h0 : 0 ≤ g 343 ∧ 0 ≤ g 344) (h3 : g' 343 = g 343) (h4 : g' 344 = g 344) : GS P g' := by
  refine h.keep (r0 := 1000) (fun d d0 d1 => ?_) (fun d hd => ⟨d, ?_⟩) (fun q s hq k4 s0 s1 => ?_) (fun q hq => ?_) h0 h3 (by omega)
  · rw [hcp d 0 d0 d1 (by omega) (by omega)]; exact h.cfl d d0 d1
  · have e := fun j => hcp d j hd.1.1 hd.1.2
    have z : isCp g d := ⟨hd.1, by rw [← e 0 (by omega) (by omega)]; exact hd.2⟩
    have := h.cy d z
    rw [e 1 (by omega) (by omega), e 2 (by omega) (by omega), e 3 (by omega) (by omega), e 7 (by omega) (by omega), e 5 (by omega) (by omega), e 8 (by omega) (by omega)]
    exact ⟨z, rfl, rfl, rfl, rfl, this.2.2.2.1, this.2.2.2.2.1⟩
  · rw [hpg q 0 hq (by omega) (by omega)] at k4
    exact Or.inl ⟨k4, hpg q _ hq (by omega) (by omega)⟩
  · have e := fun j => hrm q j hq.1.1 hq.1.2
    have z : isRm g q := ⟨hq.1, by rw [← e 0 (by omega)]; exact hq.2⟩
    rw [e 1 (by omega), e 2 (by omega), e 6 (by omega)]
    exact Or.inl ⟨z, rfl, rfl, fun w => w, fun b b0 b1 w => by rw [e _ (by omega)]; exact w⟩
theorem GC.same (h : GC P g) (hk : MPok P) (hco : ∀ d j, isCo P d → 0 ≤ j → j < 11 → co g' d j = co g d j) (hpg : ∀ q j, isPg P q → 0 ≤ j → j < 7 → j ≠ 4 → pg g' q j = pg g q j) (hrm : ∀ q, 0 ≤ q → q < 4 → rm g' q 0 = rm g q 0 ∧ rm g q 5 ≤ rm g' q 5) : GC P g' := by
  have h1 := hk.h1
  refine h.keep (fun d j hd j0 j1 => hco d j hd (by omega) j1) (fun d hd => ?_) h1 (fun d hd z => ?_) (fun d i hd i0 i1 => ?_) (fun d hd z => ?_)
  · rw [hco d 0 hd (by omega) (by omega)]; exact h.reg d hd
  · have i := (h.ins d hd z).2.1.1
    exact ⟨hpg _ _ i (by omega) (by omega) (by omega), hpg _ _ i (by omega) (by omega) (by omega), hpg _ _ i (by omega) (by omega) (by omega)⟩
  · have i := (h.see d i hd i0 i1).2.1
    exact ⟨hpg _ _ i (by omega) (by omega) (by omega), hpg _ _ i (by omega) (by omega) (by omega), hpg _ _ i (by omega) (by omega) (by omega), Or.inl (hpg _ _ i (by omega) (by omega) (by omega))⟩
  · have i := (h.ins d hd z).1
    have r := hrm _ i.1.1 i.1.2
    exact ⟨⟨i.1, by rw [r.1]; exact i.2⟩, r.2⟩
theorem GP.same0 (h : GP P g) (hpg : ∀ q j, isPg P q → 0 ≤ j → j < 6 → j ≠ 4 → pg g' q j = pg g q j) (hv : ∀ q, isPg P q → 0 ≤ pg g' q 4 ∧ pg g' q 4 ≤ 999) (hrm : ∀ q j, 0 ≤ q → q < 4 → (0 ≤ j ∧ j < 4 ∨ 5 ≤ j ∧ j < 15) → rm g' q j = rm g q j) : GP P g' :=
  h.same (fun q hq => ⟨hpg q 0 hq (by omega) (by omega) (by omega), hpg q 1 hq (by omega) (by omega) (by omega), hpg q 2 hq (by omega) (by omega) (by omega)⟩) (fun q hq => Or.inl (hpg q 5 hq (by omega) (by omega) (by omega))) hv
    (fun q a b => ⟨hrm q 0 a b (by omega), hrm q 2 a b (by omega), hrm q 6 a b (by omega), by rw [hrm q 5 a b (by omega)]; omega, Or.inl (hrm q 3 a b (by omega))⟩) (fun q b a0 a1 b0 b1 => hrm q _ a0 a1 (by omega))
theorem GN.same (h : GN P g n) (hn : n + 1 ≤ 100000) (hrm : ∀ q j, 0 ≤ q → q < 4 → 0 ≤ j → j < 23 → rm g' q j = rm g q j) (h3 : g' 343 = g 343 ∨ g' 343 = g 343 + 1) (h4 : g' 344 = g 344 ∨ g' 344 = g 344 + 1) : GN P g' (n + 1) :=
  h.step hn (fun q a b => Or.inl (hrm q 2 a b (by omega) (by omega))) (fun q b a0 a1 b0 b1 => Or.inl (hrm q _ a0 a1 (by omega) (by omega))) (fun q a b => Or.inl (hrm q 5 a b (by omega) (by omega))) h3 h4 (fun q b x y z t => Or.inl ⟨hrm q 2 x y (by omega) (by omega), Or.inr (hrm q _ x y (by omega) (by omega))⟩)
/-- one room was written -/
theorem G_room (hg : GW P g n) (hk : MPok P) (hn : n + 1 ≤ 100000) {r : Int} (hr : 0 ≤ r ∧ r < 4) (E : EF g g' 1000 1000 r 1000 1000) (h34 : g' 343 = g 343 ∧ g' 344 = g 344) (h0 : rm g' r 0 = rm g r 0) (h1 : rm g' r 1 = rm g r 1) (h2 : rm g' r 2 = rm g r 2) (h3 : rm g' r 3 = rm g r 3 ∨ rm g' r 3 = 2) (h5 : rm g' r 5 = rm g r 5 ∨ rm g' r 5 = rm g r 5 + 1) (h6 : rm g' r 6 = rm g r 6)
    (h7 : ∀ b, 0 ≤ b → b < 8 → rm g' r (7 + b) = rm g r (7 + b)) (hm : ∀ b, 0 ≤ b → b < 8 → rm g' r (15 + b) = rm g r (15 + b) ∨ (0 ≤ rm g' r (15 + b) ∧ rm g' r (15 + b) ≤ P.np)) : GW P g' (n + 1) := by
  have p1 := hk.p1
  have c1 := hk.c1
  have ok : OKR 1000 1000 r 1000 1000 := by
    unfold OKR
    omega
  have U : ∀ q j, isPg P q → 0 ≤ j → j < 11 → pg g' q j = pg g q j := fun q j hq a b => E.pg ok hq.1 (by omega) a b (by omega) (by omega)
  have V : ∀ q j, 0 ≤ q → q < 4 → 0 ≤ j → j < 23 → q ≠ r → rm g' q j = rm g q j := fun q j a b c d e => E.rm ok a b c d e
  have V7 : ∀ q b, 0 ≤ q → q < 4 → 0 ≤ b → b < 8 → rm g' q (7 + b) = rm g q (7 + b) := by
    intro q b a0 a1 b0 b1
    by_cases e : q = r
    · rw [e]; exact h7 b b0 b1
    · exact V q _ a0 a1 (by omega) (by omega) e
  refine ⟨hg.p.same (fun q hq => ⟨U q 0 hq (by omega) (by omega), U q 1 hq (by omega) (by omega), U q 2 hq (by omega) (by omega)⟩) (fun q hq => Or.inl (U q 5 hq (by omega) (by omega))) (fun q hq => by rw [U q 4 hq (by omega) (by omega)]; exact hg.p.vl q hq) (fun q a b => ?_) V7, hg.n.step hn (fun q a b => Or.inl ?_) (fun q b a0 a1 b0 b1 => ?_) (fun q a b => ?_) (Or.inl h34.1) (Or.inl h34.2) (fun q b x y z t => Or.inl ⟨by (by_cases e : q = r <;> first | (rw [e]; exact h2) | exact V q 2 x y (by omega) (by omega) e), Or.inr (V7 q b x y z t)⟩), hg.c.same hk (fun d j hd j0 j1 => E.co ok hd.1 (by omega) j0 j1 (by omega)) (fun q j hq a b _ => U q j hq a (by omega)) (fun q a b => ?_), hg.s.same (fun d j d0 d1 j0 j1 => E.cp ok d0 d1 j0 j1 (by omega)) (fun q j hq a b => U q j hq (by omega) b) (fun q j a b c => ?_) ⟨hg.n.v0.1, hg.n.s0.1⟩ h34.1 h34.2⟩
  · by_cases e : q = r
    · rw [e]; omega
    · rw [V q 0 a b (by omega) (by omega) e, V q 2 a b (by omega) (by omega) e, V q 3 a b (by omega) (by omega) e, V q 5 a b (by omega) (by omega) e, V q 6 a b (by omega) (by omega) e]; omega
  · by_cases e : q = r
    · rw [e]; exact h2
    · exact V q 2 a b (by omega) (by omega) e
  · by_cases e : q = r
    · rw [e]; exact hm b b0 b1
    · exact Or.inl (V q _ a0 a1 (by omega) (by omega) e)
  · by_cases e : q = r
    · rw [e]; omega
    · exact Or.inl (V q 5 a b (by omega) (by omega) e)
  · by_cases e : q = r
    · rw [e]; omega
    · rw [V q 0 a b (by omega) (by omega) e, V q 5 a b (by omega) (by omega) e]; omega
  · by_cases e : q = r
    · rw [e]
      rcases (show j = 0 ∨ j = 1 ∨ j = 2 ∨ j = 6 ∨ 7 ≤ j by omega) with z | z | z | z | z
      · rw [z]; exact h0
      · rw [z]; exact h1
      · rw [z]; exact h2
      · rw [z]; exact h6
      · have := h7 (j - 7) (by omega) (by omega)
        rw [show 7 + (j - 7) = j by omega] at this
        exact this
    · exact V q j a b (by omega) (by omega) e
/-- one copy was written -/
theorem G_copy (hg : GW P g n) (hk : MPok P) (hn : n + 1 ≤ 100000) {y : Int} (hy : 0 ≤ y ∧ y < 12) (E : EF g g' 1000 1000 1000 1000 y) (h34 : g' 343 = g 343 ∧ g' 344 = g 344) (h0 : cp g' y 0 = 0 ∨ (cp g' y 0 = 1 ∧ ∃ x, isCp g x ∧ cp g' y 1 = cp g x 1 ∧ cp g' y 2 = cp g x 2 ∧ cp g' y 3 = cp g x 3 ∧ cp g' y 7 = cp g x 7 ∧ (0 ≤ cp g' y 5 ∧ cp g' y 5 ≤ 999) ∧ (cp g' y 8 = 0 ∨ cp g' y 8 = 1))) : GW P g' (n + 1) := by
  have p1 := hk.p1
  have c1 := hk.c1
  have ok : OKR 1000 1000 1000 1000 y := by
    unfold OKR
    omega
  have U : ∀ q j, isPg P q → 0 ≤ j → j < 11 → pg g' q j = pg g q j := fun q j hq a b => E.pg ok hq.1 (by omega) a b (by omega) (by omega)
  have V : ∀ q j, 0 ≤ q → q < 4 → 0 ≤ j → j < 23 → rm g' q j = rm g q j := fun q j a b c d => E.rm ok a b c d (by omega)
  refine ⟨hg.p.same0 (fun q j hq a b _ => U q j hq a (by omega)) (fun q hq => by rw [U q 4 hq (by omega) (by omega)]; exact hg.p.vl q hq) (fun q j a b c => V q j a b (by omega) (by omega)), hg.n.same hn V (Or.inl h34.1) (Or.inl h34.2), hg.c.same hk (fun d j hd j0 j1 => E.co ok hd.1 (by omega) j0 j1 (by omega)) (fun q j hq a b _ => U q j hq a (by omega)) (fun q a b => by rw [V q 0 a b (by omega) (by omega), V q 5 a b (by omega) (by omega)]; omega), hg.s.keep (r0 := 1000) (fun d d0 d1 => ?_) (fun d hd => ?_) (fun q s hq k4 s0 s1 => ?_) (fun q hq => ?_) ⟨hg.n.v0.1, hg.n.s0.1⟩ h34.1 (by omega)⟩
  · by_cases e : d = y
    · rw [e]; omega
    · rw [E.cp ok d0 d1 (by omega) (by omega) e]; exact hg.s.cfl d d0 d1
  · by_cases e : d = y
    · subst e
      rcases h0 with z | z
      · have := hd.2; omega
      · exact z.2
    · have r := fun j a b => E.cp ok (j := j) hd.1.1 hd.1.2 a b e
      have z : isCp g d := ⟨hd.1, by rw [← r 0 (by omega) (by omega)]; exact hd.2⟩
      have := hg.s.cy d z
      refine ⟨d, z, r 1 (by omega) (by omega), r 2 (by omega) (by omega), r 3 (by omega) (by omega), r 7 (by omega) (by omega), ?_, ?_⟩
      · rw [r 5 (by omega) (by omega)]; exact this.2.2.2.1
      · rw [r 8 (by omega) (by omega)]; exact this.2.2.2.2.1
  · rw [U q 0 hq (by omega) (by omega)] at k4
    exact Or.inl ⟨k4, U q _ hq (by omega) (by omega)⟩
  · have z : isRm g q := ⟨hq.1, by rw [← V q 0 hq.1.1 hq.1.2 (by omega) (by omega)]; exact hq.2⟩
    rw [V q 1 hq.1.1 hq.1.2 (by omega) (by omega), V q 2 hq.1.1 hq.1.2 (by omega) (by omega), V q 6 hq.1.1 hq.1.2 (by omega) (by omega)]
    exact Or.inl ⟨z, rfl, rfl, fun w => w, fun b b0 b1 w => by rw [V q _ hq.1.1 hq.1.2 (by omega) (by omega)]; exact w⟩
theorem G_3 (hg : GW P g n) (hk : MPok P) (hn : n + 1 ≤ 100000) {r a : Int} (hw : whyExtendG g r a = -1) (v : Int) : GW P (sr g r 4 v) (n + 1) := by
  have w := W_extend hw
  refine G_room hg hk hn w.1.1 ?_ ⟨at_sr (by omega), at_sr (by omega)⟩ ?_ ?_ ?_ (Or.inl ?_) (Or.inl ?_) ?_ (fun b b0 b1 => ?_) (fun b b0 b1 => Or.inl ?_)
  · (repeat' (first | exact EF.rf _ _ _ _ _ _ | refine EF.sp ?_ (by omega) | refine EF.sr ?_ (by omega) | refine EF.sc ?_ (by omega) | refine EF.sy ?_ (by omega) | refine EF.cl ?_ (by omega) | refine EF.put ?_ (by omega)))
  all_goals exact rm_sr (by omega)
theorem G_4 (hg : GW P g n) (hk : MPok P) (hn : n + 1 ≤ 100000) {r m : Int} (hw : whySealG g r m = -1) : GW P (sr g r 3 2) (n + 1) := by
  have w := W_seal hw
  refine G_room hg hk hn w.1.1 ?_ ⟨at_sr (by omega), at_sr (by omega)⟩ ?_ ?_ ?_ (Or.inr rm_s) (Or.inl ?_) ?_ (fun b b0 b1 => ?_) (fun b b0 b1 => Or.inl ?_)
  · (repeat' (first | exact EF.rf _ _ _ _ _ _ | refine EF.sp ?_ (by omega) | refine EF.sr ?_ (by omega) | refine EF.sc ?_ (by omega) | refine EF.sy ?_ (by omega) | refine EF.cl ?_ (by omega) | refine EF.put ?_ (by omega)))
  all_goals exact rm_sr (by omega)
theorem G_11 (hg : GW P g n) (hk : MPok P) (hn : n + 1 ≤ 100000) {r : Int} (hw : whyTrackG P g r = -1) : GW P (sr g r 5 (rm g r 5 + 1)) (n + 1) := by
  have w := W_track hw
  refine G_room hg hk hn w.1.1 ?_ ⟨at_sr (by omega), at_sr (by omega)⟩ ?_ ?_ ?_ (Or.inl ?_) (Or.inr rm_s) ?_ (fun b b0 b1 => ?_) (fun b b0 b1 => Or.inl ?_)
  · (repeat' (first | exact EF.rf _ _ _ _ _ _ | refine EF.sp ?_ (by omega) | refine EF.sr ?_ (by omega) | refine EF.sc ?_ (by omega) | refine EF.sy ?_ (by omega) | refine EF.cl ?_ (by omega) | refine EF.put ?_ (by omega)))
  all_goals exact rm_sr (by omega)
theorem G_15 (hg : GW P g n) (hk : MPok P) (hn : n + 1 ≤ 100000) {r a p : Int} (hw : whyMapG P g r a p = -1) : GW P (sr g r (15 + a) (p + 1)) (n + 1) := by
  have w := W_map hw
  have f := hg.p.rf r w.1
  have p0 := hk.p0
  refine G_room hg hk hn w.1.1 ?_ ⟨at_sr (by omega), at_sr (by omega)⟩ ?_ ?_ ?_ (Or.inl ?_) (Or.inl ?_) ?_ (fun b b0 b1 => ?_) (fun b b0 b1 => ?_)
  · (repeat' (first | exact EF.rf _ _ _ _ _ _ | refine EF.sp ?_ (by omega) | refine EF.sr ?_ (by omega) | refine EF.sc ?_ (by omega) | refine EF.sy ?_ (by omega) | refine EF.cl ?_ (by omega) | refine EF.put ?_ (by omega)))
  rotate_left 7
  · by_cases e : b = a
    · rw [e, rm_s]
      exact Or.inr (by omega)
    · exact Or.inl (rm_sr (by omega))
  all_goals exact rm_sr (by omega)
theorem G_17 (hg : GW P g n) (hk : MPok P) (hn : n + 1 ≤ 100000) {c v : Int} (hw : whyChangeG g c v = -1) : GW P (sy (sy g c 5 v) c 8 1) (n + 1) := by
  have w := W_change hw
  refine G_copy hg hk hn w.1.1 ?_ ⟨?_, ?_⟩ (Or.inr ⟨?_, c, w.1, ?_, ?_, ?_, ?_, ?_, ?_⟩)
  · (repeat' (first | exact EF.rf _ _ _ _ _ _ | refine EF.sp ?_ (by omega) | refine EF.sr ?_ (by omega) | refine EF.sc ?_ (by omega) | refine EF.sy ?_ (by omega) | refine EF.cl ?_ (by omega) | refine EF.put ?_ (by omega)))
  · rw [at_sy (by omega), at_sy (by omega)]
  · rw [at_sy (by omega), at_sy (by omega)]
  · rw [cp_sy (by omega), cp_sy (by omega)]; exact w.1.2
  · rw [cp_sy (by omega), cp_sy (by omega)]
  · rw [cp_sy (by omega), cp_sy (by omega)]
  · rw [cp_sy (by omega), cp_sy (by omega)]
  · rw [cp_sy (by omega), cp_sy (by omega)]
  · rw [cp_sy (by omega), cp_s]; exact w.2.1
  · rw [cp_s]; exact Or.inr rfl
theorem G_18 (hg : GW P g n) (hk : MPok P) (hn : n + 1 ≤ 100000) {c : Int} (hw : whyDropG g c = -1) : GW P (sy g c 0 0) (n + 1) := by
  have w := W_drop hw
  refine G_copy hg hk hn w.1 ?_ ⟨at_sy (by omega), at_sy (by omega)⟩ (Or.inl cp_s)
  (repeat' (first | exact EF.rf _ _ _ _ _ _ | refine EF.sp ?_ (by omega) | refine EF.sr ?_ (by omega) | refine EF.sc ?_ (by omega) | refine EF.sy ?_ (by omega) | refine EF.cl ?_ (by omega) | refine EF.put ?_ (by omega)))
theorem G_16 (hg : GW P g n) (hk : MPok P) (hn : n + 1 ≤ 100000) {c : Int} (hw : whyDoubleG g c = -1) : GW P (dblF c (fPlace g) 9 0 g) (n + 1) := by
  have w := W_double hw
  have e2 := fPlace_in g
  have hne : c ≠ fPlace g := by
    intro e
    rw [e] at w
    omega
  have ej : ∀ j, 0 ≤ j → j < 9 → cp (dblF c (fPlace g) 9 0 g) (fPlace g) j = cp g c j := fun j h0 h1 => (cp_dblF hne w.1.1.1 w.1.1.2 9 0 g (by omega) (by omega) j h0 h1).trans (if_pos h0)
  have cy := hg.s.cy c w.1
  refine G_copy hg hk hn (y := fPlace g) (by omega) (EF_dblF 9 0 g g (by omega) (by omega) (EF.rf _ _ _ _ _ _)) ⟨at_dblF (by omega) (by omega) 9 0 g (by omega) (by omega), at_dblF (by omega) (by omega) 9 0 g (by omega) (by omega)⟩ (Or.inr ⟨?_, c, w.1, ej 1 (by omega) (by omega), ej 2 (by omega) (by omega), ej 3 (by omega) (by omega), ej 7 (by omega) (by omega), ?_, ?_⟩)
  · rw [ej 0 (by omega) (by omega)]; exact w.1.2
  · rw [ej 5 (by omega) (by omega)]; exact cy.2.2.2.1
  · rw [ej 8 (by omega) (by omega)]; exact cy.2.2.2.2.1
theorem G_19 (hg : GW P g n) (hk : MPok P) (hn : n + 1 ≤ 100000) {c v : Int} (hc : isCo P c) (hv : 0 ≤ v ∧ v ≤ 999) : GW P (sc g c 0 v) (n + 1) := by
  have p1 := hk.p1
  have c1 := hk.c1
  have U : ∀ q j, isPg P q → 0 ≤ j → j < 11 → pg (sc g c 0 v) q j = pg g q j := fun q j hq a b => pg_sc (by omega)
  have V : ∀ q j, 0 ≤ q → q < 4 → 0 ≤ j → j < 23 → rm (sc g c 0 v) q j = rm g q j := fun q j a b x y => rm_sc (by omega)
  refine ⟨hg.p.same0 (fun q j hq a b _ => U q j hq a (by omega)) (fun q hq => by rw [U q 4 hq (by omega) (by omega)]; exact hg.p.vl q hq) (fun q j a b c => V q j a b (by omega) (by omega)), hg.n.same hn V (Or.inl (at_sc (by omega))) (Or.inl (at_sc (by omega))), hg.c.keep (fun d j hd j0 j1 => co_sc (by omega)) (fun d hd => ?_) hk.h1 (fun d hd z => ?_) (fun d i hd i0 i1 => ?_) (fun d hd z => ?_), hg.s.same (fun d j d0 d1 j0 j1 => cp_sc (by omega)) (fun q j hq a b => U q j hq (by omega) b) (fun q j a b c => V q j a b (by omega) (by omega)) ⟨hg.n.v0.1, hg.n.s0.1⟩ (at_sc (by omega)) (at_sc (by omega))⟩
  · by_cases e : d = c
    · rw [e, co_s]; exact hv
    · rw [co_sc (by omega)]; exact hg.c.reg d hd
  · have i := (hg.c.ins d hd z).2.1.1
    exact ⟨U _ _ i (by omega) (by omega), U _ _ i (by omega) (by omega), U _ _ i (by omega) (by omega)⟩
  · have i := (hg.c.see d i hd i0 i1).2.1
    exact ⟨U _ _ i (by omega) (by omega), U _ _ i (by omega) (by omega), U _ _ i (by omega) (by omega), Or.inl (U _ _ i (by omega) (by omega))⟩
  · have i := (hg.c.ins d hd z).1
    rw [V _ 5 i.1.1 i.1.2 (by omega) (by omega)]
    exact ⟨⟨i.1, by rw [V _ 0 i.1.1 i.1.2 (by omega) (by omega)]; exact i.2⟩, Int.le_refl _⟩
/-- one page's value was written -/
theorem G_val (hg : GW P g n) (hk : MPok P) (hn : n + 1 ≤ 100000) {p v : Int} (hp : isPg P p) (hv : 0 ≤ v ∧ v ≤ 999) : GW P (sp g p 4 v) (n + 1) := by
  have p1 := hk.p1
  have c1 := hk.c1
  have U : ∀ q j, isPg P q → 0 ≤ j → j < 11 → j ≠ 4 → pg (sp g p 4 v) q j = pg g q j := fun q j hq a b x => pg_sp (by omega)
  have V : ∀ q j, 0 ≤ q → q < 4 → 0 ≤ j → j < 23 → rm (sp g p 4 v) q j = rm g q j := fun q j a b x y => rm_sp (by omega)
  refine ⟨hg.p.same0 (fun q j hq a b c => U q j hq a (by omega) c) (fun q hq => ?_) (fun q j a b c => V q j a b (by omega) (by omega)), hg.n.same hn V (Or.inl (at_sp (by omega))) (Or.inl (at_sp (by omega))), hg.c.same hk (fun d j hd j0 j1 => co_sp (by omega)) (fun q j hq a b c => U q j hq a (by omega) c) (fun q a b => by rw [V q 0 a b (by omega) (by omega), V q 5 a b (by omega) (by omega)]; omega), hg.s.same (fun d j d0 d1 j0 j1 => cp_sp (by omega)) (fun q j hq a b => U q j hq (by omega) b (by omega)) (fun q j a b c => V q j a b (by omega) (by omega)) ⟨hg.n.v0.1, hg.n.s0.1⟩ (at_sp (by omega)) (at_sp (by omega))⟩
  by_cases e : q = p
  · rw [e, pg_s]; exact hv
  · rw [pg_sp (by omega)]; exact hg.p.vl q hq
theorem G_10 (hg : GW P g n) (hk : MPok P) (hn : n + 1 ≤ 100000) {p : Int} (hw : whyBlockG P g p = -1) : GW P (sp g p 5 (rm g (pg g p 1) 5)) (n + 1) := by
  have p1 := hk.p1
  have c1 := hk.c1
  have w := W_block hw
  have ow := (hg.p.ow p w.1 (by omega) (by omega)).1
  have ep := hg.n.epo _ ow.1.1 ow.1.2
  have U : ∀ q j, isPg P q → 0 ≤ j → j < 11 → j ≠ 5 → pg (sp g p 5 (rm g (pg g p 1) 5)) q j = pg g q j := fun q j hq a b x => pg_sp (by omega)
  have V : ∀ q j, 0 ≤ q → q < 4 → 0 ≤ j → j < 23 → rm (sp g p 5 (rm g (pg g p 1) 5)) q j = rm g q j := fun q j a b x y => rm_sp (by omega)
  have U5 : ∀ q, isPg P q → q ≠ p → pg (sp g p 5 (rm g (pg g p 1) 5)) q 5 = pg g q 5 := fun q hq e => pg_sp (by omega)
  refine ⟨hg.p.same (fun q hq => ⟨U q 0 hq (by omega) (by omega) (by omega), U q 1 hq (by omega) (by omega) (by omega), U q 2 hq (by omega) (by omega) (by omega)⟩) (fun q hq => ?_) (fun q hq => by rw [U q 4 hq (by omega) (by omega) (by omega)]; exact hg.p.vl q hq) (fun q a b => ?_) (fun q b a0 a1 b0 b1 => V q _ a0 a1 (by omega) (by omega)), hg.n.same hn V (Or.inl (at_sp (by omega))) (Or.inl (at_sp (by omega))), hg.c.keep (fun d j hd j0 j1 => co_sp (by omega)) (fun d hd => by rw [co_sp (by omega)]; exact hg.c.reg d hd) hk.h1 (fun d hd z => ?_) (fun d i hd i0 i1 => ?_) (fun d hd z => ?_), hg.s.same (fun d j d0 d1 j0 j1 => cp_sp (by omega)) (fun q j hq a b => U q j hq (by omega) b (by omega)) (fun q j a b c => V q j a b (by omega) (by omega)) ⟨hg.n.v0.1, hg.n.s0.1⟩ (at_sp (by omega)) (at_sp (by omega))⟩
  · by_cases e : q = p
    · rw [e, pg_s]; exact Or.inr ⟨w.2.1, ep.1, Int.le_refl _⟩
    · exact Or.inl (U5 q hq e)
  · rw [V q 0 a b (by omega) (by omega), V q 2 a b (by omega) (by omega), V q 3 a b (by omega) (by omega), V q 5 a b (by omega) (by omega), V q 6 a b (by omega) (by omega)]
    omega
  · have i := (hg.c.ins d hd z).2.1.1
    exact ⟨U _ _ i (by omega) (by omega) (by omega), U _ _ i (by omega) (by omega) (by omega), U _ _ i (by omega) (by omega) (by omega)⟩
  · have s := hg.c.see d i hd i0 i1
    refine ⟨U _ _ s.2.1 (by omega) (by omega) (by omega), U _ _ s.2.1 (by omega) (by omega) (by omega), U _ _ s.2.1 (by omega) (by omega) (by omega), ?_⟩
    by_cases e : co g d (6 + 2 * i) = p
    · have y := (hg.c.ins d hd s.1).2.2.2
      rw [e] at s ⊢
      rw [pg_s]
      rw [s.2.2.2.1]
      exact Or.inr y
    · exact Or.inl (U5 _ s.2.1 e)
  · have i := (hg.c.ins d hd z).1
    rw [V _ 5 i.1.1 i.1.2 (by omega) (by omega)]
    exact ⟨⟨i.1, by rw [V _ 0 i.1.1 i.1.2 (by omega) (by omega)]; exact i.2⟩, Int.le_refl _⟩
end GDO
