/-! what always holds stays so: create, add, evict, load, remove; all acts -/
theorem zr_o {r : Int} (S : (Int → Int) → Prop) (hS : ∀ (f : Int → Int) (j : Int), 0 ≤ j → j < 23 → S f → S (sr f r j 0)) : ∀ (m : Nat) (i : Int) (f : Int → Int), i + m = 23 → 0 ≤ i → S f → S (zrF r m i f)
  | 0, _, _, _, _, h => h
  | m + 1, i, f, e, hi, h => zr_o S hS m (i + 1) _ (by omega) (by omega) (hS f i hi (by omega) h)
theorem zr_k {r j : Int} : ∀ (m : Nat) (i : Int) (f : Int → Int), i + m = 23 → 0 ≤ j → j < i → rm f r j = 0 → rm (zrF r m i f) r j = 0
  | 0, _, _, _, _, _, h => h
  | m + 1, i, f, e, h0, hi, h => zr_k m (i + 1) _ (by omega) h0 (by omega) (by rw [rm_sr (by omega)]; exact h)
theorem zr_s {r j : Int} : ∀ (m : Nat) (i : Int) (f : Int → Int), i + m = 23 → 0 ≤ i → i ≤ j → j < 23 → rm (zrF r m i f) r j = 0
  | 0, i, f, e, hi, h1, h2 => by omega
  | m + 1, i, f, e, hi, h1, h2 => by
    rcases (show j = i ∨ i + 1 ≤ j by omega) with z | z
    · subst z
      exact zr_k m (j + 1) _ (by omega) hi (by omega) rm_s
    · exact zr_s m (i + 1) _ (by omega) (by omega) z h2
section GDQ
variable {P : MP} {g g' : Int → Int} {n : Int}
theorem G_0 (hg : GW P g n) (hk : MPok P) (hn : n + 1 ≤ 100000) {s : Int} (hw : whyCreateG P g s = -1) : GW P (createG P g s) (n + 1) := by
  have p1 := hk.p1
  have c1 := hk.c1
  have w := W_create hw
  have f1 := fPage_in P g hk.p0
  have f2 := fRoom_in g
  have s0 := hg.n.s0
  unfold createG
  generalize fPage P g = p at f1 w
  generalize fRoom g = r at f2 w
  have ok : OKR p p r 1000 1000 := by
    unfold OKR
    omega
  have E00 : EF g (sp (sp (clearG g p) p 0 1) p 1 r) p p r 1000 1000 := by
    (repeat' (first | exact EF.rf _ _ _ _ _ _ | refine EF.sp ?_ (by omega) | refine EF.sr ?_ (by omega) | refine EF.sc ?_ (by omega) | refine EF.sy ?_ (by omega) | refine EF.cl ?_ (by omega) | refine EF.put ?_ (by omega)))
  have E0 : EF g (zrF r 23 0 (sp (sp (clearG g p) p 0 1) p 1 r)) p p r 1000 1000 := zr_o (fun f => EF g f p p r 1000 1000) (fun f j h0 h1 h => h.sr (by omega)) 23 0 _ (by omega) (by omega) E00
  have Z0 : ∀ j, 0 ≤ j → j < 23 → rm (zrF r 23 0 (sp (sp (clearG g p) p 0 1) p 1 r)) r j = 0 := fun j h0 h1 => zr_s 23 0 _ (by omega) (by omega) h0 h1
  have Zp : ∀ j, 0 ≤ j → j < 11 → pg (zrF r 23 0 (sp (sp (clearG g p) p 0 1) p 1 r)) p j = pg (sp (sp (clearG g p) p 0 1) p 1 r) p j := fun j h0 h1 => zr_o (fun f => pg f p j = _) (fun f i h2 h3 h => by rw [pg_sr (by omega)]; exact h) 23 0 _ (by omega) (by omega) rfl
  have Zv : ∀ w, (w = 343 ∨ w = 344) → zrF r 23 0 (sp (sp (clearG g p) p 0 1) p 1 r) w = g w := fun w h => zr_o (fun f => f w = g w) (fun f i h2 h3 h4 => by rw [at_sr (by omega)]; exact h4) 23 0 _ (by omega) (by omega) (by rw [at_sp (by omega), at_sp (by omega), at_clear (by omega)])
  generalize zrF r 23 0 (sp (sp (clearG g p) p 0 1) p 1 r) = f at E0 Z0 Zp Zv
  have ke : makeG f r s = sr (sr (sr (sr (sr (put f 344 (g 344 + 1)) r 0 1) r 1 (g 344 + 1)) r 2 s) r 3 1) r 4 (wr (7 + s)) := by
    unfold makeG mk1
    rw [Zv 344 (Or.inr rfl), wr_id (x := g 344 + 1) (by have := hg.n.le; omega), at_sr (by omega), at_put]
  rw [ke]
  have E : EF g (sr (sr (sr (sr (sr (put f 344 (g 344 + 1)) r 0 1) r 1 (g 344 + 1)) r 2 s) r 3 1) r 4 (wr (7 + s))) p p r 1000 1000 := by
    refine EF.sr (EF.sr (EF.sr (EF.sr (EF.sr (EF.put E0 ?_) ?_) ?_) ?_) ?_) ?_ <;> omega
  have pk : ∀ j, 0 ≤ j → j < 11 → pg (sr (sr (sr (sr (sr (put f 344 (g 344 + 1)) r 0 1) r 1 (g 344 + 1)) r 2 s) r 3 1) r 4 (wr (7 + s))) p j = pg (sp (sp (clearG g p) p 0 1) p 1 r) p j := by
    intro j x y
    rw [pg_sr (by omega), pg_sr (by omega), pg_sr (by omega), pg_sr (by omega), pg_sr (by omega), pg_v (by omega), Zp j x y]
  have rk : ∀ j, 5 ≤ j → j < 23 → rm (sr (sr (sr (sr (sr (put f 344 (g 344 + 1)) r 0 1) r 1 (g 344 + 1)) r 2 s) r 3 1) r 4 (wr (7 + s))) r j = 0 := by
    intro j x y
    rw [rm_sr (by omega), rm_sr (by omega), rm_sr (by omega), rm_sr (by omega), rm_sr (by omega), rm_v (by omega), Z0 j (by omega) y]
  have r0 : rm (sr (sr (sr (sr (sr (put f 344 (g 344 + 1)) r 0 1) r 1 (g 344 + 1)) r 2 s) r 3 1) r 4 (wr (7 + s))) r 0 = 1 := by
    rw [rm_sr (by omega), rm_sr (by omega), rm_sr (by omega), rm_sr (by omega), rm_s]
  have r1 : rm (sr (sr (sr (sr (sr (put f 344 (g 344 + 1)) r 0 1) r 1 (g 344 + 1)) r 2 s) r 3 1) r 4 (wr (7 + s))) r 1 = g 344 + 1 := by
    rw [rm_sr (by omega), rm_sr (by omega), rm_sr (by omega), rm_s]
  have r2 : rm (sr (sr (sr (sr (sr (put f 344 (g 344 + 1)) r 0 1) r 1 (g 344 + 1)) r 2 s) r 3 1) r 4 (wr (7 + s))) r 2 = s := by
    rw [rm_sr (by omega), rm_sr (by omega), rm_s]
  have r3 : rm (sr (sr (sr (sr (sr (put f 344 (g 344 + 1)) r 0 1) r 1 (g 344 + 1)) r 2 s) r 3 1) r 4 (wr (7 + s))) r 3 = 1 := by
    rw [rm_sr (by omega), rm_s]
  have h343 : sr (sr (sr (sr (sr (put f 344 (g 344 + 1)) r 0 1) r 1 (g 344 + 1)) r 2 s) r 3 1) r 4 (wr (7 + s)) 343 = g 343 := by
    rw [at_sr (by omega), at_sr (by omega), at_sr (by omega), at_sr (by omega), at_sr (by omega), at_put_o (by omega), Zv 343 (Or.inl rfl)]
  have h344 : sr (sr (sr (sr (sr (put f 344 (g 344 + 1)) r 0 1) r 1 (g 344 + 1)) r 2 s) r 3 1) r 4 (wr (7 + s)) 344 = g 344 + 1 := by
    rw [at_sr (by omega), at_sr (by omega), at_sr (by omega), at_sr (by omega), at_sr (by omega), at_put]
  generalize sr (sr (sr (sr (sr (put f 344 (g 344 + 1)) r 0 1) r 1 (g 344 + 1)) r 2 s) r 3 1) r 4 (wr (7 + s)) = g' at E pk rk r0 r1 r2 r3 h343 h344
  have q0 : pg g' p 0 = 1 := by rw [pk 0 (by omega) (by omega), pg_sp (by omega), pg_s]
  have q1 : pg g' p 1 = r := by rw [pk 1 (by omega) (by omega), pg_s]
  have qj : ∀ j, 2 ≤ j → j < 11 → pg g' p j = if j = 1 ∨ j = 2 ∨ j = 5 then -1 else 0 := fun j x y => by rw [pk j (by omega) y, pg_sp (by omega), pg_sp (by omega), pg_clear_s (by omega)]
  have U : ∀ q j, isPg P q → 0 ≤ j → j < 11 → q ≠ p → pg g' q j = pg g q j := fun q j hq x y z => E.pg ok hq.1 (by omega) x y z z
  have V : ∀ q j, 0 ≤ q → q < 4 → 0 ≤ j → j < 23 → q ≠ r → rm g' q j = rm g q j := fun q j x y z t e => E.rm ok x y z t e
  have C : ∀ d j, isCo P d → 0 ≤ j → j < 11 → co g' d j = co g d j := fun d j hd x y => E.co ok hd.1 (by omega) x y (by omega)
  have nr : ¬ isRm g r := by omega
  have nb : ∀ d, isCo P d → co g d 1 ≠ -1 → co g d 2 ≠ p := fun d hd z e => by have := (hg.c.ins d hd z).2.1.2.1; rw [e] at this; omega
  have ns : ∀ d i, isCo P d → 0 ≤ i → i < co g d 4 → co g d (6 + 2 * i) ≠ p := fun d i hd x y e => by have := (hg.c.see d i hd x y).2.2.1; rw [e] at this; omega
  refine ⟨hg.p.rootin (p := p) (r := r) (by omega) (by omega) (by omega) (fun z => absurd z nr) q0 q1 (qj 2 (by omega) (by omega)) (by rw [qj 4 (by omega) (by omega)]; decide) (qj 5 (by omega) (by omega)) (fun q hq z => ⟨U q 0 hq (by omega) (by omega) z, U q 1 hq (by omega) (by omega) z, U q 2 hq (by omega) (by omega) z, U q 4 hq (by omega) (by omega) z, U q 5 hq (by omega) (by omega) z⟩) (fun q x y z => ⟨V q 0 x y (by omega) (by omega) z, V q 2 x y (by omega) (by omega) z, V q 3 x y (by omega) (by omega) z, V q 5 x y (by omega) (by omega) z, V q 6 x y (by omega) (by omega) z⟩) r0 (rk 6 (by omega) (by omega)) (by omega) (fun b x y => by rw [rk _ (by omega) (by omega)]; decide) (fun q b x y z t e => V q _ x y (by omega) (by omega) e), hg.n.step hn (fun q x y => ?_) (fun q b x y z t => ?_) (fun q x y => ?_) (Or.inl h343) (Or.inr h344) (fun q b x y z t => by (by_cases e : q = r <;> first | (rw [e]; exact Or.inr (rk _ (by omega) (by omega))) | exact Or.inl ⟨V q 2 x y (by omega) (by omega) e, Or.inr (V q _ x y (by omega) (by omega) e)⟩)), hg.c.keep (fun d j hd x y => C d j hd (by omega) y) (fun d hd => by rw [C d 0 hd (by omega) (by omega)]; exact hg.c.reg d hd) hk.h1 (fun d hd z => ?_) (fun d i hd x y => ?_) (fun d hd z => ?_), hg.s.keep (r0 := r) (fun d x y => ?_) (fun d hd => ⟨d, ?_⟩) (fun q s hq k4 x y => ?_) (fun q hq => ?_) ⟨hg.n.v0.1, hg.n.s0.1⟩ h343 (by omega)⟩
  · by_cases e : q = r
    · rw [e]; right; omega
    · exact Or.inl (V q 2 x y (by omega) (by omega) e)
  · by_cases e : q = r
    · rw [e, rk _ (by omega) (by omega)]; right; omega
    · exact Or.inl (V q _ x y (by omega) (by omega) e)
  · by_cases e : q = r
    · rw [e, rk _ (by omega) (by omega)]; omega
    · exact Or.inl (V q 5 x y (by omega) (by omega) e)
  · have i := (hg.c.ins d hd z).2.1.1
    have e := nb d hd z
    exact ⟨U _ 0 i (by omega) (by omega) e, U _ 1 i (by omega) (by omega) e, U _ 6 i (by omega) (by omega) e⟩
  · have i' := (hg.c.see d i hd x y).2.1
    have e := ns d i hd x y
    exact ⟨U _ 0 i' (by omega) (by omega) e, U _ 1 i' (by omega) (by omega) e, U _ 2 i' (by omega) (by omega) e, Or.inl (U _ 5 i' (by omega) (by omega) e)⟩
  · have i := (hg.c.ins d hd z).1
    have e : co g d 1 ≠ r := fun e => nr (e ▸ i)
    rw [V _ 5 i.1.1 i.1.2 (by omega) (by omega) e]
    exact ⟨⟨i.1, by rw [V _ 0 i.1.1 i.1.2 (by omega) (by omega) e]; exact i.2⟩, Int.le_refl _⟩
  · rw [E.cp ok x y (by omega) (by omega) (by omega)]; exact hg.s.cfl d x y
  · have e := fun j a b => E.cp ok (j := j) hd.1.1 hd.1.2 a b (by omega)
    have z : isCp g d := ⟨hd.1, by rw [← e 0 (by omega) (by omega)]; exact hd.2⟩
    have cy := hg.s.cy d z
    rw [e 1 (by omega) (by omega), e 2 (by omega) (by omega), e 3 (by omega) (by omega), e 7 (by omega) (by omega), e 5 (by omega) (by omega), e 8 (by omega) (by omega)]
    exact ⟨z, rfl, rfl, rfl, rfl, cy.2.2.2.1, cy.2.2.2.2.1⟩
  · by_cases e : q = p
    · rw [e] at k4; omega
    · rw [U q 0 hq (by omega) (by omega) e] at k4
      exact Or.inl ⟨k4, U q _ hq (by omega) (by omega) e⟩
  · by_cases e : q = r
    · exact Or.inr ⟨e, by rw [e]; exact r1, by omega⟩
    · have z : isRm g q := ⟨hq.1, by rw [← V q 0 hq.1.1 hq.1.2 (by omega) (by omega) e]; exact hq.2⟩
      rw [V q 1 hq.1.1 hq.1.2 (by omega) (by omega) e, V q 2 hq.1.1 hq.1.2 (by omega) (by omega) e, V q 6 hq.1.1 hq.1.2 (by omega) (by omega) e]
      exact Or.inl ⟨z, rfl, rfl, fun w => w, fun b b0 b1 w => by rw [V q _ hq.1.1 hq.1.2 (by omega) (by omega) e]; exact w⟩
theorem G_2 (hg : GW P g n) (hk : MPok P) (hn : n + 1 ≤ 100000) {r a k ri v : Int} (hw : whyAddG P g r a k ri v = -1) : GW P (addG g (fPage P g) r a k ri v) (n + 1) := by
  have p1 := hk.p1
  have c1 := hk.c1
  have w := W_add hw
  have f1 := fPage_in P g hk.p0
  have rf := hg.p.rf r w.1
  have p0 := hk.p0
  generalize fPage P g = p at f1 w
  have hr := w.1.1
  have ok : OKR p p r 1000 1000 := by
    unfold OKR
    omega
  have E : EF g (addG g p r a k ri v) p p r 1000 1000 := by
    unfold addG add1
    (repeat' (first | exact EF.rf _ _ _ _ _ _ | refine EF.sp ?_ (by omega) | refine EF.sr ?_ (by omega) | refine EF.sc ?_ (by omega) | refine EF.sy ?_ (by omega) | refine EF.cl ?_ (by omega) | refine EF.put ?_ (by omega)))
  have q0 : pg (addG g p r a k ri v) p 0 = 2 + k := by
    unfold addG add1
    rw [pg_sr (by omega), pg_sr (by omega), pg_sr (by omega), pg_sp (by omega), pg_sp (by omega), pg_sp (by omega), pg_sp (by omega), pg_s]
  have q1 : pg (addG g p r a k ri v) p 1 = r := by
    unfold addG add1
    rw [pg_sr (by omega), pg_sr (by omega), pg_sr (by omega), pg_sp (by omega), pg_sp (by omega), pg_sp (by omega), pg_s]
  have q2 : pg (addG g p r a k ri v) p 2 = a := by
    unfold addG add1
    rw [pg_sr (by omega), pg_sr (by omega), pg_sr (by omega), pg_sp (by omega), pg_sp (by omega), pg_s]
  have q4 : pg (addG g p r a k ri v) p 4 = v := by
    unfold addG add1
    rw [pg_sr (by omega), pg_sr (by omega), pg_sr (by omega), pg_s]
  have q5 : pg (addG g p r a k ri v) p 5 = -1 := by
    unfold addG add1
    rw [pg_sr (by omega), pg_sr (by omega), pg_sr (by omega), pg_sp (by omega), pg_sp (by omega), pg_sp (by omega), pg_sp (by omega), pg_sp (by omega), pg_clear_5]
  have rr : ∀ j, 0 ≤ j → j < 23 → j ≠ 4 → j ≠ 7 + a → j ≠ 15 + a → rm (addG g p r a k ri v) r j = rm g r j := by
    intro j x y z t e
    unfold addG add1
    rw [rm_sr (by omega), rm_sr (by omega), rm_sr (by omega), rm_sp (by omega), rm_sp (by omega), rm_sp (by omega), rm_sp (by omega), rm_sp (by omega), rm_clear (by omega)]
  have r7 : rm (addG g p r a k ri v) r (7 + a) = 1 := by
    unfold addG add1
    rw [rm_sr (by omega), rm_sr (by omega), rm_s]
  have r15 : rm (addG g p r a k ri v) r (15 + a) = p + 1 := by
    unfold addG add1
    rw [rm_sr (by omega), rm_s]
  have h34 : addG g p r a k ri v 343 = g 343 ∧ addG g p r a k ri v 344 = g 344 := by
    unfold addG add1
    constructor <;> rw [at_sr (by omega), at_sr (by omega), at_sr (by omega), at_sp (by omega), at_sp (by omega), at_sp (by omega), at_sp (by omega), at_sp (by omega), at_clear (by omega)]
  generalize addG g p r a k ri v = g' at E q0 q1 q2 q4 q5 rr r7 r15 h34
  have U : ∀ q j, isPg P q → 0 ≤ j → j < 11 → q ≠ p → pg g' q j = pg g q j := fun q j hq x y z => E.pg ok hq.1 (by omega) x y z z
  have V : ∀ q j, 0 ≤ q → q < 4 → 0 ≤ j → j < 23 → (q ≠ r ∨ (j ≠ 4 ∧ j ≠ 7 + a ∧ j ≠ 15 + a)) → rm g' q j = rm g q j := by
    intro q j x y z t e
    by_cases eq : q = r
    · rw [eq]; exact rr j z t (by omega) (by omega) (by omega)
    · exact E.rm ok x y z t eq
  have C : ∀ d j, isCo P d → 0 ≤ j → j < 11 → co g' d j = co g d j := fun d j hd x y => E.co ok hd.1 (by omega) x y (by omega)
  have nb : ∀ d, isCo P d → co g d 1 ≠ -1 → co g d 2 ≠ p := fun d hd z e => by have := (hg.c.ins d hd z).2.1.2.1; rw [e] at this; omega
  have ns : ∀ d i, isCo P d → 0 ≤ i → i < co g d 4 → co g d (6 + 2 * i) ≠ p := fun d i hd x y e => by have := (hg.c.see d i hd x y).2.2.1; rw [e] at this; omega
  refine ⟨hg.p.fill (p := p) (r := r) (a := a) (by omega) (by omega) w.1 w.2.1 (by omega) (by omega) (by omega) q1 q2 (by omega) q5 (fun q hq z => ⟨U q 0 hq (by omega) (by omega) z, U q 1 hq (by omega) (by omega) z, U q 2 hq (by omega) (by omega) z, U q 4 hq (by omega) (by omega) z, U q 5 hq (by omega) (by omega) z⟩) (fun q x y => ⟨V q 0 x y (by omega) (by omega) (by omega), V q 2 x y (by omega) (by omega) (by omega), V q 3 x y (by omega) (by omega) (by omega), V q 5 x y (by omega) (by omega) (by omega), V q 6 x y (by omega) (by omega) (by omega)⟩) r7 (fun q b x y z t e => V q _ x y (by omega) (by omega) (by omega)), hg.n.step hn (fun q x y => Or.inl (V q 2 x y (by omega) (by omega) (by omega))) (fun q b x y z t => ?_) (fun q x y => Or.inl (V q 5 x y (by omega) (by omega) (by omega))) (Or.inl h34.1) (Or.inl h34.2) (fun q b x y z t => Or.inl ⟨V q 2 x y (by omega) (by omega) (by omega), by (by_cases e : q = r ∧ b = a <;> first | (rw [e.1, e.2]; exact Or.inl w.2.1.2) | exact Or.inr (V q _ x y (by omega) (by omega) (by omega)))⟩), hg.c.keep (fun d j hd x y => C d j hd (by omega) y) (fun d hd => by rw [C d 0 hd (by omega) (by omega)]; exact hg.c.reg d hd) hk.h1 (fun d hd z => ?_) (fun d i hd x y => ?_) (fun d hd z => ?_), hg.s.keep (r0 := 1000) (fun d x y => ?_) (fun d hd => ⟨d, ?_⟩) (fun q s hq k4 x y => ?_) (fun q hq => ?_) ⟨hg.n.v0.1, hg.n.s0.1⟩ h34.1 (by omega)⟩
  · by_cases e : q = r ∧ b = a
    · rw [e.1, e.2, r15]; right; omega
    · exact Or.inl (V q _ x y (by omega) (by omega) (by omega))
  · have i := (hg.c.ins d hd z).2.1.1
    have e := nb d hd z
    exact ⟨U _ 0 i (by omega) (by omega) e, U _ 1 i (by omega) (by omega) e, U _ 6 i (by omega) (by omega) e⟩
  · have i' := (hg.c.see d i hd x y).2.1
    have e := ns d i hd x y
    exact ⟨U _ 0 i' (by omega) (by omega) e, U _ 1 i' (by omega) (by omega) e, U _ 2 i' (by omega) (by omega) e, Or.inl (U _ 5 i' (by omega) (by omega) e)⟩
  · have i := (hg.c.ins d hd z).1
    rw [V _ 5 i.1.1 i.1.2 (by omega) (by omega) (by omega)]
    exact ⟨⟨i.1, by rw [V _ 0 i.1.1 i.1.2 (by omega) (by omega) (by omega)]; exact i.2⟩, Int.le_refl _⟩
  · rw [E.cp ok x y (by omega) (by omega) (by omega)]; exact hg.s.cfl d x y
  · have e := fun j a b => E.cp ok (j := j) hd.1.1 hd.1.2 a b (by omega)
    have z : isCp g d := ⟨hd.1, by rw [← e 0 (by omega) (by omega)]; exact hd.2⟩
    have cy := hg.s.cy d z
    rw [e 1 (by omega) (by omega), e 2 (by omega) (by omega), e 3 (by omega) (by omega), e 7 (by omega) (by omega), e 5 (by omega) (by omega), e 8 (by omega) (by omega)]
    exact ⟨z, rfl, rfl, rfl, rfl, cy.2.2.2.1, cy.2.2.2.2.1⟩
  · by_cases e : q = p
    · rw [e] at k4; omega
    · rw [U q 0 hq (by omega) (by omega) e] at k4
      exact Or.inl ⟨k4, U q _ hq (by omega) (by omega) e⟩
  · have z : isRm g q := ⟨hq.1, by rw [← V q 0 hq.1.1 hq.1.2 (by omega) (by omega) (by omega)]; exact hq.2⟩
    rw [V q 1 hq.1.1 hq.1.2 (by omega) (by omega) (by omega), V q 2 hq.1.1 hq.1.2 (by omega) (by omega) (by omega), V q 6 hq.1.1 hq.1.2 (by omega) (by omega) (by omega)]
    refine Or.inl ⟨z, rfl, rfl, fun w => w, fun b b0 b1 t => ?_⟩
    by_cases e : q = r ∧ b = a
    · rw [e.1, e.2] at t; omega
    · rw [V q _ hq.1.1 hq.1.2 (by omega) (by omega) (by omega)]; exact t
/-- who sees or stands in a page that goes: nobody -/
theorem gone_ok (hg : GW P g n) (hk : MPok P) {p : Int} (hp : isPg P p) (h : pg g p 0 = 1 ∨ pg g p 0 = 4 ∨ canGoG P g p ∨ inOf P g (pg g p 1) = 0) : (∀ d, isCo P d → co g d 1 ≠ -1 → co g d 2 ≠ p) ∧ (∀ d i, isCo P d → 0 ≤ i → i < co g d 4 → co g d (6 + 2 * i) ≠ p) := by
  have c0 := hk.c0
  have c1 := hk.c1
  have k1 : canGoG P g p → (pg g p 0 = 2 ∨ pg g p 0 = 3) → ∀ d, isCo P d → co g d 1 = pg g p 1 → ¬ co g d 3 ≤ pg g p 5 := by
    intro z kk d hd e y
    have i0 : inSince P g (pg g p 1) (pg g p 5) = 0 := by omega
    unfold inSince at i0
    exact bf_none P.nc.toNat 0 0 (by omega) (by omega) in32_0 i0 d hd.1 (by have := hd.2; omega) ⟨e, y⟩
  have k2 : inOf P g (pg g p 1) = 0 → ∀ d, isCo P d → co g d 1 ≠ pg g p 1 := by
    intro i0 d hd e
    unfold inOf at i0
    exact bf_none P.nc.toNat 0 0 (by omega) (by omega) in32_0 i0 d hd.1 (by have := hd.2; omega) e
  constructor
  · intro d hd z e
    have i := (hg.c.ins d hd z).2.1
    rw [e] at i
    rcases h with h | h | h | h
    · omega
    · omega
    · omega
    · exact k2 h d hd i.2.2.1.symm
  · intro d i hd x y e
    have s := hg.c.see d i hd x y
    rw [e] at s
    rcases h with h | h | h | h
    · omega
    · omega
    · have := k1 h (Or.inl s.2.2.1) d hd s.2.2.2.1.symm
      omega
    · exact k2 h d hd s.2.2.2.1.symm
theorem hone (hg : GW P g n) (hk : MPok P) {p : Int} (hp : isPg P p) (h1 : pg g p 0 = 1) (h : nPages P g (pg g p 1) 0 ≤ 0) : ∀ q, isPg P q → q ≠ p → pg g q 1 ≠ pg g p 1 := by
  intro q hq e eo
  have p0 := hk.p0
  have ow := (hg.p.ow p hp (by omega) (by omega)).1
  have kd := hg.p.kd q hq
  have no := hg.p.no1 q hq
  unfold nPages at h
  have t : ¬ (pg g q 0 ≠ 0 ∧ pg g q 1 = pg g p 1 ∧ ((0 : Int) ≠ 0 ∨ pg g q 0 ≠ 1)) := nf_none P.np.toNat 0 0 h q hq.1 (by have := hq.2; omega)
  by_cases z : pg g q 0 = 1
  · exact e (hg.p.r1 q p hq hp z h1 eo)
  · omega
end GDQ
