/-! what always holds stays so: evict, load, remove; all acts -/
section GDR
variable {P : MP} {g g' : Int → Int} {n : Int}
theorem G_14 (hg : GW P g n) (hk : MPok P) (hn : n + 1 ≤ 100000) {p : Int} (hw : whyRemoveG P g p = -1) : GW P (removeG g p) (n + 1) := by
  have p1 := hk.p1
  have c1 := hk.c1
  have w := W_remove hw
  have kd := hg.p.kd p w.1
  have nn := gone_ok hg hk w.1 (by omega)
  by_cases h4 : pg g p 0 = 4
  · have eg : removeG g p = clearG g p := if_pos h4
    rw [eg]
    have ok : OKR p p 1000 1000 1000 := by
      unfold OKR
      omega
    have E : EF g (clearG g p) p p 1000 1000 1000 := by
      (repeat' (first | exact EF.rf _ _ _ _ _ _ | refine EF.sp ?_ (by omega) | refine EF.sr ?_ (by omega) | refine EF.sc ?_ (by omega) | refine EF.sy ?_ (by omega) | refine EF.cl ?_ (by omega) | refine EF.put ?_ (by omega)))
    have V : ∀ q j, 0 ≤ q → q < 4 → 0 ≤ j → j < 23 → rm (clearG g p) q j = rm g q j := fun q j x y z t => E.rm ok x y z t (by omega)
    have C : ∀ d j, isCo P d → 0 ≤ j → j < 11 → co (clearG g p) d j = co g d j := fun d j hd x y => E.co ok hd.1 (by omega) x y (by omega)
    have U : ∀ q j, isPg P q → 0 ≤ j → j < 11 → q ≠ p → pg (clearG g p) q j = pg g q j := fun q j hq x y z => E.pg ok hq.1 (by omega) x y z z
    refine ⟨hg.p.clear (p := p) w.1 (by omega) pg_clear_0 pg_clear_1 pg_clear_2 pg_clear_4 pg_clear_5 (fun q hq z => ⟨U q 0 hq (by omega) (by omega) z, U q 1 hq (by omega) (by omega) z, U q 2 hq (by omega) (by omega) z, U q 4 hq (by omega) (by omega) z, U q 5 hq (by omega) (by omega) z⟩) (fun q x y => ⟨V q 0 x y (by omega) (by omega), V q 2 x y (by omega) (by omega), V q 3 x y (by omega) (by omega), V q 5 x y (by omega) (by omega), V q 6 x y (by omega) (by omega)⟩) (fun z => absurd h4 z) (fun q b x y z t e => V q _ x y (by omega) (by omega)), hg.n.same hn V (Or.inl (at_clear (by omega))) (Or.inl (at_clear (by omega))), hg.c.keep (fun d j hd x y => C d j hd (by omega) y) (fun d hd => by rw [C d 0 hd (by omega) (by omega)]; exact hg.c.reg d hd) hk.h1 (fun d hd z => ?_) (fun d i hd x y => ?_) (fun d hd z => ?_), hg.s.keep (r0 := 1000) (fun d x y => ?_) (fun d hd => ⟨d, ?_⟩) (fun q s hq k4 x y => ?_) (fun q hq => ?_) ⟨hg.n.v0.1, hg.n.s0.1⟩ (at_clear (by omega)) (by rw [at_clear (by omega)]; omega)⟩
    · have i := (hg.c.ins d hd z).2.1.1
      have e := nn.1 d hd z
      exact ⟨U _ 0 i (by omega) (by omega) e, U _ 1 i (by omega) (by omega) e, U _ 6 i (by omega) (by omega) e⟩
    · have i' := (hg.c.see d i hd x y).2.1
      have e := nn.2 d i hd x y
      exact ⟨U _ 0 i' (by omega) (by omega) e, U _ 1 i' (by omega) (by omega) e, U _ 2 i' (by omega) (by omega) e, Or.inl (U _ 5 i' (by omega) (by omega) e)⟩
    · have i := (hg.c.ins d hd z).1
      rw [V _ 5 i.1.1 i.1.2 (by omega) (by omega)]
      exact ⟨⟨i.1, by rw [V _ 0 i.1.1 i.1.2 (by omega) (by omega)]; exact i.2⟩, Int.le_refl _⟩
    · rw [E.cp ok x y (by omega) (by omega) (by omega)]; exact hg.s.cfl d x y
    · have e := fun j a b => E.cp ok (j := j) hd.1.1 hd.1.2 a b (by omega)
      have z : isCp g d := ⟨hd.1, by rw [← e 0 (by omega) (by omega)]; exact hd.2⟩
      have cy := hg.s.cy d z
      rw [e 1 (by omega) (by omega), e 2 (by omega) (by omega), e 3 (by omega) (by omega), e 7 (by omega) (by omega), e 5 (by omega) (by omega), e 8 (by omega) (by omega)]
      exact ⟨z, rfl, rfl, rfl, rfl, cy.2.2.2.1, cy.2.2.2.2.1⟩
    · by_cases e : q = p
      · rw [e, pg_clear_0] at k4; omega
      · rw [U q 0 hq (by omega) (by omega) e] at k4
        exact Or.inl ⟨k4, U q _ hq (by omega) (by omega) e⟩
    · have z : isRm g q := ⟨hq.1, by rw [← V q 0 hq.1.1 hq.1.2 (by omega) (by omega)]; exact hq.2⟩
      rw [V q 1 hq.1.1 hq.1.2 (by omega) (by omega), V q 2 hq.1.1 hq.1.2 (by omega) (by omega), V q 6 hq.1.1 hq.1.2 (by omega) (by omega)]
      exact Or.inl ⟨z, rfl, rfl, fun w => w, fun b b0 b1 t => by rw [V q _ hq.1.1 hq.1.2 (by omega) (by omega)]; exact t⟩
  · have ow := hg.p.ow p w.1 (by omega) (by omega)
    have hr := ow.1.1
    have rf := hg.p.rf _ ow.1
    have rk : pg g p 0 = 1 ∨ pg g p 0 ≠ 1 := by omega
    have ok : OKR p p (pg g p 1) 1000 1000 := by
      unfold OKR
      omega
    have mvv : pg g p 0 ≠ 1 → 0 ≤ pg g p 2 ∧ pg g p 2 < 8 ∧ rm g (pg g p 1) (7 + pg g p 2) = 1 := by
      intro z
      have := hg.p.mv p w.1 (by omega)
      exact ⟨this.1.1, by omega, this.2.1⟩
    have eg : ∃ j v, removeG g p = clearG (sr g (pg g p 1) j v) p ∧ ((pg g p 0 = 1 ∧ j = 0 ∧ v = 0) ∨ (pg g p 0 ≠ 1 ∧ j = 7 + pg g p 2 ∧ v = 0)) := by
      unfold removeG
      rw [if_neg h4]
      rcases rk with z | z
      · rw [if_pos z]; exact ⟨0, 0, rfl, Or.inl ⟨z, rfl, rfl⟩⟩
      · rw [if_neg z]; exact ⟨_, 0, rfl, Or.inr ⟨z, rfl, rfl⟩⟩
    obtain ⟨j, v, e1, e2⟩ := eg
    have hj : 0 ≤ j ∧ j < 15 := by omega
    rw [e1]
    have E : EF g (clearG (sr g (pg g p 1) j v) p) p p (pg g p 1) 1000 1000 := by
      (repeat' (first | exact EF.rf _ _ _ _ _ _ | refine EF.sp ?_ (by omega) | refine EF.sr ?_ (by omega) | refine EF.sc ?_ (by omega) | refine EF.sy ?_ (by omega) | refine EF.cl ?_ (by omega) | refine EF.put ?_ (by omega)))
    have rj : rm (clearG (sr g (pg g p 1) j v) p) (pg g p 1) j = v := by rw [rm_clear (by omega), rm_s]
    have V : ∀ q x, 0 ≤ q → q < 4 → 0 ≤ x → x < 23 → (q ≠ pg g p 1 ∨ x ≠ j) → rm (clearG (sr g (pg g p 1) j v) p) q x = rm g q x := fun q x a b c d e => by rw [rm_clear (by omega), rm_sr (by omega)]
    have h34 : clearG (sr g (pg g p 1) j v) p 343 = g 343 ∧ clearG (sr g (pg g p 1) j v) p 344 = g 344 := by
      constructor <;> rw [at_clear (by omega), at_sr (by omega)]
    have k0 : pg (clearG (sr g (pg g p 1) j v) p) p 0 = 0 := pg_clear_0
    have k1 : pg (clearG (sr g (pg g p 1) j v) p) p 1 = -1 := pg_clear_1
    have k2 : pg (clearG (sr g (pg g p 1) j v) p) p 2 = -1 := pg_clear_2
    have k4 : pg (clearG (sr g (pg g p 1) j v) p) p 4 = 0 := pg_clear_4
    have k5 : pg (clearG (sr g (pg g p 1) j v) p) p 5 = -1 := pg_clear_5
    generalize clearG (sr g (pg g p 1) j v) p = g' at E rj V h34 k0 k1 k2 k4 k5
    have C : ∀ d j, isCo P d → 0 ≤ j → j < 11 → co g' d j = co g d j := fun d j hd x y => E.co ok hd.1 (by omega) x y (by omega)
    have U : ∀ q j, isPg P q → 0 ≤ j → j < 11 → q ≠ p → pg g' q j = pg g q j := fun q j hq x y z => E.pg ok hq.1 (by omega) x y z z
    have SP : ∀ q, isPg P q → q ≠ p → SmP g g' q := fun q hq z => ⟨U q 0 hq (by omega) (by omega) z, U q 1 hq (by omega) (by omega) z, U q 2 hq (by omega) (by omega) z, U q 4 hq (by omega) (by omega) z, U q 5 hq (by omega) (by omega) z⟩
    have nr : ∀ d, isCo P d → co g d 1 ≠ pg g p 1 := by
      intro d hd e
      have c0 := hk.c0
      have i0 := w.2.2.2.1 h4
      unfold inOf at i0
      exact bf_none P.nc.toNat 0 0 (by omega) (by omega) in32_0 i0 d hd.1 (by have := hd.2; omega) e
    refine ⟨?_, hg.n.step hn (fun q x y => Or.inl (V q 2 x y (by omega) (by omega) (by omega))) (fun q b x y z t => Or.inl (V q _ x y (by omega) (by omega) (by omega))) (fun q x y => Or.inl (V q 5 x y (by omega) (by omega) (by omega))) (Or.inl h34.1) (Or.inl h34.2) (fun q b x y z t => by (by_cases e : q = pg g p 1 ∧ 7 + b = j <;> first | (rw [e.1, e.2, rj]; exact Or.inr (by omega)) | exact Or.inl ⟨V q 2 x y (by omega) (by omega) (by omega), Or.inr (V q _ x y (by omega) (by omega) (by omega))⟩)), hg.c.keep (fun d j hd x y => C d j hd (by omega) y) (fun d hd => by rw [C d 0 hd (by omega) (by omega)]; exact hg.c.reg d hd) hk.h1 (fun d hd z => ?_) (fun d i hd x y => ?_) (fun d hd z => ?_), hg.s.keep (r0 := 1000) (fun d x y => ?_) (fun d hd => ⟨d, ?_⟩) (fun q s hq k4 x y => ?_) (fun q hq => ?_) ⟨hg.n.v0.1, hg.n.s0.1⟩ h34.1 (by omega)⟩
    · rcases rk with z | z
      · have j0 : j = 0 ∧ v = 0 := by omega
        have ho := hone hg hk w.1 z (w.2.2.2.2 z)
        have nop := hg.p.no p w.1 (by omega)
        exact hg.p.rootout (p := p) (r := pg g p 1) w.1 z rfl ho k0 k1 k2 k4 k5 SP (fun q x y e => ⟨V q 0 x y (by omega) (by omega) (Or.inl e), V q 2 x y (by omega) (by omega) (Or.inl e), V q 3 x y (by omega) (by omega) (Or.inl e), V q 5 x y (by omega) (by omega) (Or.inl e), V q 6 x y (by omega) (by omega) (Or.inl e)⟩) (Or.inl (by rw [j0.1, j0.2] at rj; exact rj)) ⟨V _ 2 hr.1 hr.2 (by omega) (by omega) (by omega), V _ 3 hr.1 hr.2 (by omega) (by omega) (by omega)⟩ (fun q b x y s t => V q _ x y (by omega) (by omega) (by omega))
      · have m := mvv z
        have j0 : j = 7 + pg g p 2 ∧ v = 0 := by omega
        rw [j0.1, j0.2] at rj
        exact hg.p.clear (p := p) w.1 (by omega) k0 k1 k2 k4 k5 SP (fun q x y => ⟨V q 0 x y (by omega) (by omega) (by omega), V q 2 x y (by omega) (by omega) (by omega), V q 3 x y (by omega) (by omega) (by omega), V q 5 x y (by omega) (by omega) (by omega), V q 6 x y (by omega) (by omega) (by omega)⟩) (fun _ => by rw [rj]; decide) (fun q b x y s t e => V q _ x y (by omega) (by omega) (by omega))
    · have i := (hg.c.ins d hd z).2.1.1
      have e := nn.1 d hd z
      exact ⟨U _ 0 i (by omega) (by omega) e, U _ 1 i (by omega) (by omega) e, U _ 6 i (by omega) (by omega) e⟩
    · have i' := (hg.c.see d i hd x y).2.1
      have e := nn.2 d i hd x y
      exact ⟨U _ 0 i' (by omega) (by omega) e, U _ 1 i' (by omega) (by omega) e, U _ 2 i' (by omega) (by omega) e, Or.inl (U _ 5 i' (by omega) (by omega) e)⟩
    · have i := (hg.c.ins d hd z).1
      have e := nr d hd
      rw [V _ 5 i.1.1 i.1.2 (by omega) (by omega) (Or.inl e)]
      exact ⟨⟨i.1, by rw [V _ 0 i.1.1 i.1.2 (by omega) (by omega) (Or.inl e)]; exact i.2⟩, Int.le_refl _⟩
    · rw [E.cp ok x y (by omega) (by omega) (by omega)]; exact hg.s.cfl d x y
    · have e := fun j a b => E.cp ok (j := j) hd.1.1 hd.1.2 a b (by omega)
      have z : isCp g d := ⟨hd.1, by rw [← e 0 (by omega) (by omega)]; exact hd.2⟩
      have cy := hg.s.cy d z
      rw [e 1 (by omega) (by omega), e 2 (by omega) (by omega), e 3 (by omega) (by omega), e 7 (by omega) (by omega), e 5 (by omega) (by omega), e 8 (by omega) (by omega)]
      exact ⟨z, rfl, rfl, rfl, rfl, cy.2.2.2.1, cy.2.2.2.2.1⟩
    · by_cases e : q = p
      · rw [e, k0] at k4; omega
      · rw [U q 0 hq (by omega) (by omega) e] at k4
        exact Or.inl ⟨k4, U q _ hq (by omega) (by omega) e⟩
    · have nj : q ≠ pg g p 1 ∨ j ≠ 0 := by
        by_cases e : q = pg g p 1
        · right
          intro jz
          have := hq.2
          rw [e] at this
          rw [jz] at rj
          omega
        · exact Or.inl e
      have z : isRm g q := ⟨hq.1, by rw [← V q 0 hq.1.1 hq.1.2 (by omega) (by omega) (by omega)]; exact hq.2⟩
      rw [V q 1 hq.1.1 hq.1.2 (by omega) (by omega) (by omega), V q 2 hq.1.1 hq.1.2 (by omega) (by omega) (by omega), V q 6 hq.1.1 hq.1.2 (by omega) (by omega) (by omega)]
      refine Or.inl ⟨z, rfl, rfl, fun w => w, fun b b0 b1 t => ?_⟩
      by_cases e : q = pg g p 1 ∧ 7 + b = j
      · have m : pg g p 0 ≠ 1 := by omega
        have m2 := (mvv m).2.2
        rw [e.1, show 7 + b = 7 + pg g p 2 by omega] at t
        omega
      · rw [V q _ hq.1.1 hq.1.2 (by omega) (by omega) (by omega)]; exact t
theorem G_12 (hg : GW P g n) (hk : MPok P) (hn : n + 1 ≤ 100000) {p sl s : Int} (hw : whyEvictG P g p sl s = -1) : GW P (evictG g (fPlace g) p sl s) (n + 1) := by
  have p1 := hk.p1
  have c1 := hk.c1
  have w := W_evict hw
  have kd := hg.p.kd p w.1
  have cg := w.2.2.2.2.1
  have f1 := fPlace_in g
  have nn := gone_ok hg hk w.1 (Or.inr (Or.inr (Or.inl cg)))
  have ow := hg.p.ow p w.1 (by omega) (by omega)
  have hr := ow.1.1
  have rf := hg.p.rf _ ow.1
  have v0 := hg.n.v0
  have le := hg.n.le
  have vl := hg.p.vl p w.1
  have hne : p ≠ sl := by
    intro e
    rw [e] at cg
    omega
  generalize fPlace g = y at f1 w
  have mvv : pg g p 0 ≠ 1 → 0 ≤ pg g p 2 ∧ pg g p 2 < rm g (pg g p 1) 2 ∧ pg g p 2 < 8 ∧ rm g (pg g p 1) (7 + pg g p 2) = 1 := by
    intro z
    have := hg.p.mv p w.1 (by omega)
    exact ⟨this.1.1, this.1.2, by omega, this.2.1⟩
  have nop : pg g p 0 = 1 → pg g p 2 = -1 ∧ rm g (pg g p 1) 6 = 0 := fun z => ⟨(hg.p.no p w.1 (by omega)).1, ow.2⟩
  have ok : OKR p sl (pg g p 1) 1000 y := by
    unfold OKR
    omega
  have eg : ∃ j v h, evictG g y p sl s = clearG (sr (sp (keepG (put g 343 (g 343 + 1)) y (rm g (pg g p 1) 1) (pg g p 2) (pg g p 0) (pg g p 3) (pg g p 4) h (g 343 + 1)) sl (7 + s) (g 343 + 1)) (pg g p 1) j v) p ∧ ((pg g p 0 = 1 ∧ j = 6 ∧ v = 1) ∨ (pg g p 0 ≠ 1 ∧ j = 7 + pg g p 2 ∧ v = 2)) := by
    rw [evictG_eq, wr_id (x := g 343 + 1) (by omega)]
    by_cases z : pg g p 0 = 1
    · rw [if_pos z]; exact ⟨6, 1, _, rfl, Or.inl ⟨z, rfl, rfl⟩⟩
    · rw [if_neg z]; exact ⟨_, 2, _, rfl, Or.inr ⟨z, rfl, rfl⟩⟩
  obtain ⟨j, v, h, e1, e2⟩ := eg
  have hj : 0 ≤ j ∧ j < 15 := by omega
  rw [e1]
  have E : EF g (clearG (sr (sp (keepG (put g 343 (g 343 + 1)) y (rm g (pg g p 1) 1) (pg g p 2) (pg g p 0) (pg g p 3) (pg g p 4) h (g 343 + 1)) sl (7 + s) (g 343 + 1)) (pg g p 1) j v) p) p sl (pg g p 1) 1000 y := by
    unfold keepG
    (repeat' (first | exact EF.rf _ _ _ _ _ _ | refine EF.sp ?_ (by omega) | refine EF.sr ?_ (by omega) | refine EF.sc ?_ (by omega) | refine EF.sy ?_ (by omega) | refine EF.cl ?_ (by omega) | refine EF.put ?_ (by omega)))
  have rj : rm (clearG (sr (sp (keepG (put g 343 (g 343 + 1)) y (rm g (pg g p 1) 1) (pg g p 2) (pg g p 0) (pg g p 3) (pg g p 4) h (g 343 + 1)) sl (7 + s) (g 343 + 1)) (pg g p 1) j v) p) (pg g p 1) j = v := by rw [rm_clear (by omega), rm_s]
  have rr : ∀ x, 0 ≤ x → x < 23 → x ≠ j → rm (clearG (sr (sp (keepG (put g 343 (g 343 + 1)) y (rm g (pg g p 1) 1) (pg g p 2) (pg g p 0) (pg g p 3) (pg g p 4) h (g 343 + 1)) sl (7 + s) (g 343 + 1)) (pg g p 1) j v) p) (pg g p 1) x = rm g (pg g p 1) x := by
    intro x a b c
    unfold keepG
    rw [rm_clear (by omega), rm_sr (by omega), rm_sp (by omega), rm_sy (by omega), rm_sy (by omega), rm_sy (by omega), rm_sy (by omega), rm_sy (by omega), rm_sy (by omega), rm_sy (by omega), rm_sy (by omega), rm_sy (by omega), rm_v (by omega)]
  have cc : ∀ x, 0 ≤ x → x < 9 → cp (clearG (sr (sp (keepG (put g 343 (g 343 + 1)) y (rm g (pg g p 1) 1) (pg g p 2) (pg g p 0) (pg g p 3) (pg g p 4) h (g 343 + 1)) sl (7 + s) (g 343 + 1)) (pg g p 1) j v) p) y x = cp (keepG (put g 343 (g 343 + 1)) y (rm g (pg g p 1) 1) (pg g p 2) (pg g p 0) (pg g p 3) (pg g p 4) h (g 343 + 1)) y x := by
    intro x a b
    rw [cp_clear (by omega), cp_sr (by omega), cp_sp (by omega)]
  have ss : ∀ x, 0 ≤ x → x < 11 → pg (clearG (sr (sp (keepG (put g 343 (g 343 + 1)) y (rm g (pg g p 1) 1) (pg g p 2) (pg g p 0) (pg g p 3) (pg g p 4) h (g 343 + 1)) sl (7 + s) (g 343 + 1)) (pg g p 1) j v) p) sl x = if x = 7 + s then g 343 + 1 else pg g sl x := by
    intro x a b
    rw [pg_clear_o (by omega), pg_sr (by omega)]
    by_cases z : x = 7 + s
    · rw [if_pos z, z, pg_s]
    · unfold keepG
      rw [if_neg z, pg_sp (by omega), pg_sy (by omega), pg_sy (by omega), pg_sy (by omega), pg_sy (by omega), pg_sy (by omega), pg_sy (by omega), pg_sy (by omega), pg_sy (by omega), pg_sy (by omega), pg_v (by omega)]
  have h34 : clearG (sr (sp (keepG (put g 343 (g 343 + 1)) y (rm g (pg g p 1) 1) (pg g p 2) (pg g p 0) (pg g p 3) (pg g p 4) h (g 343 + 1)) sl (7 + s) (g 343 + 1)) (pg g p 1) j v) p 343 = g 343 + 1 ∧ clearG (sr (sp (keepG (put g 343 (g 343 + 1)) y (rm g (pg g p 1) 1) (pg g p 2) (pg g p 0) (pg g p 3) (pg g p 4) h (g 343 + 1)) sl (7 + s) (g 343 + 1)) (pg g p 1) j v) p 344 = g 344 := by
    unfold keepG
    constructor
    · rw [at_clear (by omega), at_sr (by omega), at_sp (by omega), at_sy (by omega), at_sy (by omega), at_sy (by omega), at_sy (by omega), at_sy (by omega), at_sy (by omega), at_sy (by omega), at_sy (by omega), at_sy (by omega), at_put]
    · rw [at_clear (by omega), at_sr (by omega), at_sp (by omega), at_sy (by omega), at_sy (by omega), at_sy (by omega), at_sy (by omega), at_sy (by omega), at_sy (by omega), at_sy (by omega), at_sy (by omega), at_sy (by omega), at_put_o (by omega)]
  have y0 := cc 0 (by omega) (by omega)
  have y1 := cc 1 (by omega) (by omega)
  have y2 := cc 2 (by omega) (by omega)
  have y3 := cc 3 (by omega) (by omega)
  have y5 := cc 5 (by omega) (by omega)
  have y7 := cc 7 (by omega) (by omega)
  have y8 := cc 8 (by omega) (by omega)
  unfold keepG at y0 y1 y2 y3 y5 y7 y8
  rw [cp_sy (by omega), cp_sy (by omega), cp_sy (by omega), cp_sy (by omega), cp_sy (by omega), cp_sy (by omega), cp_sy (by omega), cp_sy (by omega), cp_s] at y0
  rw [cp_sy (by omega), cp_sy (by omega), cp_sy (by omega), cp_sy (by omega), cp_sy (by omega), cp_sy (by omega), cp_sy (by omega), cp_s] at y1
  rw [cp_sy (by omega), cp_sy (by omega), cp_sy (by omega), cp_sy (by omega), cp_sy (by omega), cp_sy (by omega), cp_s] at y2
  rw [cp_sy (by omega), cp_sy (by omega), cp_sy (by omega), cp_sy (by omega), cp_sy (by omega), cp_s] at y3
  rw [cp_sy (by omega), cp_sy (by omega), cp_sy (by omega), cp_s] at y5
  rw [cp_sy (by omega), cp_s] at y7
  rw [cp_s] at y8
  clear cc
  have k0 : pg (clearG (sr (sp (keepG (put g 343 (g 343 + 1)) y (rm g (pg g p 1) 1) (pg g p 2) (pg g p 0) (pg g p 3) (pg g p 4) h (g 343 + 1)) sl (7 + s) (g 343 + 1)) (pg g p 1) j v) p) p 0 = 0 := pg_clear_0
  have k1 : pg (clearG (sr (sp (keepG (put g 343 (g 343 + 1)) y (rm g (pg g p 1) 1) (pg g p 2) (pg g p 0) (pg g p 3) (pg g p 4) h (g 343 + 1)) sl (7 + s) (g 343 + 1)) (pg g p 1) j v) p) p 1 = -1 := pg_clear_1
  have k2 : pg (clearG (sr (sp (keepG (put g 343 (g 343 + 1)) y (rm g (pg g p 1) 1) (pg g p 2) (pg g p 0) (pg g p 3) (pg g p 4) h (g 343 + 1)) sl (7 + s) (g 343 + 1)) (pg g p 1) j v) p) p 2 = -1 := pg_clear_2
  have k4 : pg (clearG (sr (sp (keepG (put g 343 (g 343 + 1)) y (rm g (pg g p 1) 1) (pg g p 2) (pg g p 0) (pg g p 3) (pg g p 4) h (g 343 + 1)) sl (7 + s) (g 343 + 1)) (pg g p 1) j v) p) p 4 = 0 := pg_clear_4
  have k5 : pg (clearG (sr (sp (keepG (put g 343 (g 343 + 1)) y (rm g (pg g p 1) 1) (pg g p 2) (pg g p 0) (pg g p 3) (pg g p 4) h (g 343 + 1)) sl (7 + s) (g 343 + 1)) (pg g p 1) j v) p) p 5 = -1 := pg_clear_5
  change cp (clearG (sr (sp (keepG (put g 343 (g 343 + 1)) y (rm g (pg g p 1) 1) (pg g p 2) (pg g p 0) (pg g p 3) (pg g p 4) h (g 343 + 1)) sl (7 + s) (g 343 + 1)) (pg g p 1) j v) p) y 0 = _ at y0
  change cp (clearG (sr (sp (keepG (put g 343 (g 343 + 1)) y (rm g (pg g p 1) 1) (pg g p 2) (pg g p 0) (pg g p 3) (pg g p 4) h (g 343 + 1)) sl (7 + s) (g 343 + 1)) (pg g p 1) j v) p) y 1 = _ at y1
  change cp (clearG (sr (sp (keepG (put g 343 (g 343 + 1)) y (rm g (pg g p 1) 1) (pg g p 2) (pg g p 0) (pg g p 3) (pg g p 4) h (g 343 + 1)) sl (7 + s) (g 343 + 1)) (pg g p 1) j v) p) y 2 = _ at y2
  change cp (clearG (sr (sp (keepG (put g 343 (g 343 + 1)) y (rm g (pg g p 1) 1) (pg g p 2) (pg g p 0) (pg g p 3) (pg g p 4) h (g 343 + 1)) sl (7 + s) (g 343 + 1)) (pg g p 1) j v) p) y 3 = _ at y3
  change cp (clearG (sr (sp (keepG (put g 343 (g 343 + 1)) y (rm g (pg g p 1) 1) (pg g p 2) (pg g p 0) (pg g p 3) (pg g p 4) h (g 343 + 1)) sl (7 + s) (g 343 + 1)) (pg g p 1) j v) p) y 5 = _ at y5
  change cp (clearG (sr (sp (keepG (put g 343 (g 343 + 1)) y (rm g (pg g p 1) 1) (pg g p 2) (pg g p 0) (pg g p 3) (pg g p 4) h (g 343 + 1)) sl (7 + s) (g 343 + 1)) (pg g p 1) j v) p) y 7 = _ at y7
  change cp (clearG (sr (sp (keepG (put g 343 (g 343 + 1)) y (rm g (pg g p 1) 1) (pg g p 2) (pg g p 0) (pg g p 3) (pg g p 4) h (g 343 + 1)) sl (7 + s) (g 343 + 1)) (pg g p 1) j v) p) y 8 = _ at y8
  generalize clearG (sr (sp (keepG (put g 343 (g 343 + 1)) y (rm g (pg g p 1) 1) (pg g p 2) (pg g p 0) (pg g p 3) (pg g p 4) h (g 343 + 1)) sl (7 + s) (g 343 + 1)) (pg g p 1) j v) p = g' at *
  have V : ∀ q x, 0 ≤ q → q < 4 → 0 ≤ x → x < 23 → (q ≠ pg g p 1 ∨ x ≠ j) → rm g' q x = rm g q x := by
    intro q x a b c d e
    by_cases eq : q = pg g p 1
    · rw [eq]; exact rr x c d (by omega)
    · exact E.rm ok a b c d eq
  have C : ∀ d j, isCo P d → 0 ≤ j → j < 11 → co g' d j = co g d j := fun d j hd x y => E.co ok hd.1 (by omega) x y (by omega)
  have U : ∀ q x, isPg P q → 0 ≤ x → x < 11 → q ≠ p → (q ≠ sl ∨ x ≠ 7 + s) → pg g' q x = pg g q x := by
    intro q x hq a b c d
    by_cases eq : q = sl
    · rw [eq, ss x a b, if_neg (by omega)]
    · exact E.pg ok hq.1 (by omega) a b c eq
  have SP : ∀ q, isPg P q → q ≠ p → SmP g g' q := fun q hq z => ⟨U q 0 hq (by omega) (by omega) z (by omega), U q 1 hq (by omega) (by omega) z (by omega), U q 2 hq (by omega) (by omega) z (by omega), U q 4 hq (by omega) (by omega) z (by omega), U q 5 hq (by omega) (by omega) z (by omega)⟩
  refine ⟨?_, hg.n.step hn (fun q x y => Or.inl (V q 2 x y (by omega) (by omega) (by omega))) (fun q b x y z t => Or.inl (V q _ x y (by omega) (by omega) (by omega))) (fun q x y => Or.inl (V q 5 x y (by omega) (by omega) (by omega))) (Or.inr h34.1) (Or.inl h34.2) (fun q b x y z t => Or.inl ⟨V q 2 x y (by omega) (by omega) (by omega), by (by_cases e : q = pg g p 1 ∧ 7 + b = j <;> first | (have m := mvv (by omega); rw [e.1]; exact Or.inl (by omega)) | exact Or.inr (V q _ x y (by omega) (by omega) (by omega)))⟩), hg.c.keep (fun d j hd x y => C d j hd (by omega) y) (fun d hd => by rw [C d 0 hd (by omega) (by omega)]; exact hg.c.reg d hd) hk.h1 (fun d hd z => ?_) (fun d i hd x y => ?_) (fun d hd z => ?_), hg.s.evict (p := p) (r := pg g p 1) (sl := sl) (s := s) (y := y) (by omega) w.2.1 w.2.2.1 w.2.2.2.1 (by omega) ow.1 (by omega) nop mvv vl y0 y1 y2 y3 y5 y7 y8 (fun d x a b c e f => E.cp ok a b e f c) (fun q t hq k4' a b => ?_) (fun q hq => ?_) (fun z => ?_) (fun z => ?_) h34.1 h34.2 v0.1⟩
  · by_cases z : pg g p 0 = 1
    · have j0 : j = 6 ∧ v = 1 := by omega
      rw [j0.1, j0.2] at rj
      have ho := hone hg hk w.1 z (by omega)
      exact hg.p.rootout (p := p) (r := pg g p 1) w.1 z rfl ho k0 k1 k2 k4 k5 SP (fun q x y e => ⟨V q 0 x y (by omega) (by omega) (Or.inl e), V q 2 x y (by omega) (by omega) (Or.inl e), V q 3 x y (by omega) (by omega) (Or.inl e), V q 5 x y (by omega) (by omega) (Or.inl e), V q 6 x y (by omega) (by omega) (Or.inl e)⟩) (Or.inr ⟨by rw [V _ 0 hr.1 hr.2 (by omega) (by omega) (by omega)]; exact ow.1.2, rj⟩) ⟨V _ 2 hr.1 hr.2 (by omega) (by omega) (by omega), V _ 3 hr.1 hr.2 (by omega) (by omega) (by omega)⟩ (fun q b x y s t => V q _ x y (by omega) (by omega) (by omega))
    · have m := mvv z
      have j0 : j = 7 + pg g p 2 ∧ v = 2 := by omega
      rw [j0.1, j0.2] at rj
      exact hg.p.clear (p := p) w.1 (by omega) k0 k1 k2 k4 k5 SP (fun q x y => ⟨V q 0 x y (by omega) (by omega) (by omega), V q 2 x y (by omega) (by omega) (by omega), V q 3 x y (by omega) (by omega) (by omega), V q 5 x y (by omega) (by omega) (by omega), V q 6 x y (by omega) (by omega) (by omega)⟩) (fun _ => by rw [rj]; decide) (fun q b x y s t e => V q _ x y (by omega) (by omega) (by omega))
  · have i := (hg.c.ins d hd z).2.1.1
    have e := nn.1 d hd z
    exact ⟨U _ 0 i (by omega) (by omega) e (by omega), U _ 1 i (by omega) (by omega) e (by omega), U _ 6 i (by omega) (by omega) e (by omega)⟩
  · have i' := (hg.c.see d i hd x y).2.1
    have e := nn.2 d i hd x y
    exact ⟨U _ 0 i' (by omega) (by omega) e (by omega), U _ 1 i' (by omega) (by omega) e (by omega), U _ 2 i' (by omega) (by omega) e (by omega), Or.inl (U _ 5 i' (by omega) (by omega) e (by omega))⟩
  · have i := (hg.c.ins d hd z).1
    rw [V _ 5 i.1.1 i.1.2 (by omega) (by omega) (by omega)]
    exact ⟨⟨i.1, by rw [V _ 0 i.1.1 i.1.2 (by omega) (by omega) (by omega)]; exact i.2⟩, Int.le_refl _⟩
  · have eq : q ≠ p := fun e => by rw [e, k0] at k4'; omega
    rw [U q 0 hq (by omega) (by omega) eq (by omega)] at k4'
    refine ⟨k4', fun z => ?_, fun z => U q _ hq (by omega) (by omega) eq (by omega)⟩
    rw [z.1, z.2, ss _ (by omega) (by omega), if_pos rfl]
  · have z : isRm g q := ⟨hq.1, by rw [← V q 0 hq.1.1 hq.1.2 (by omega) (by omega) (by omega)]; exact hq.2⟩
    rw [V q 1 hq.1.1 hq.1.2 (by omega) (by omega) (by omega), V q 2 hq.1.1 hq.1.2 (by omega) (by omega) (by omega)]
    refine ⟨z, rfl, rfl, fun t => ?_, fun b b0 b1 t => ?_⟩
    · by_cases e : q = pg g p 1 ∧ 6 = j
      · rw [e.1, e.2, rj]; omega
      · rw [V q 6 hq.1.1 hq.1.2 (by omega) (by omega) (by omega)]; exact t
    · by_cases e : q = pg g p 1 ∧ 7 + b = j
      · rw [e.1, e.2, rj]; omega
      · rw [V q _ hq.1.1 hq.1.2 (by omega) (by omega) (by omega)]; exact t
  · have j0 : j = 6 ∧ v = 1 := by omega
    rw [j0.1, j0.2] at rj
    exact rj
  · have j0 : j = 7 + pg g p 2 ∧ v = 2 := by omega
    rw [j0.1, j0.2] at rj
    exact rj
end GDR
