/-! what always holds stays so: load; all acts -/
section GDS
variable {P : MP} {g g' : Int → Int} {n : Int}
theorem G_13 (hg : GW P g n) (hk : MPok P) (hn : n + 1 ≤ 100000) {c sl s : Int} (hw : whyLoadG P g c sl s = -1) : GW P (loadG g c (fPage P g) (roomS g (cp g c 1)) sl s) (n + 1) := by
  have p1 := hk.p1
  have p0 := hk.p0
  have c1 := hk.c1
  have w := W_load hw
  have lv := roomS_lv hg hw
  have f1 := fPage_in P g hk.p0
  have cy := hg.s.cy c w.1
  have v0 := hg.n.v0
  generalize fPage P g = p at f1 w
  generalize roomS g (cp g c 1) = r at lv w
  have hr := lv.1.1
  have rf := hg.p.rf r lv.1
  have hne : p ≠ sl := by
    intro e
    rw [e] at f1
    omega
  have nc : isCp g c := w.1
  have mvv : cp g c 3 ≠ 1 → 0 ≤ cp g c 2 ∧ cp g c 2 < rm g r 2 ∧ cp g c 2 < 8 ∧ rm g r (7 + cp g c 2) = 2 ∧ rm g r 6 = 0 := by
    intro z
    have a1 := cy.2.2.1 z
    have a2 := lv.2.2.2 z
    exact ⟨a1.1, a2.1, a1.2, a2.2, by omega⟩
  have ok : OKR p sl r 1000 1000 := by
    unfold OKR
    omega
  have eg := loadG_eq (g := g) (c := c) (p := p) (r := r) (sl := sl) (s := s) hr ⟨w.2.1.1, by omega, w.2.2.2.1⟩ cy.2.2.1
  have E : EF g (loadG g c p r sl s) p sl r 1000 1000 := by
    rw [eg]
    unfold fillG
    split
    · (repeat' (first | exact EF.rf _ _ _ _ _ _ | refine EF.sp ?_ (by omega) | refine EF.sr ?_ (by omega) | refine EF.sc ?_ (by omega) | refine EF.sy ?_ (by omega) | refine EF.cl ?_ (by omega) | refine EF.put ?_ (by omega)))
    · (repeat' (first | exact EF.rf _ _ _ _ _ _ | refine EF.sp ?_ (by omega) | refine EF.sr ?_ (by omega) | refine EF.sc ?_ (by omega) | refine EF.sy ?_ (by omega) | refine EF.cl ?_ (by omega) | refine EF.put ?_ (by omega)))
  have pj : ∀ x, 0 ≤ x → x < 11 → pg (loadG g c p r sl s) p x = pg (fillG g p (cp g c 3) r (cp g c 2) (cp g c 4) (cp g c 5) (if cp g c 6 = 1 then 2 else 0)) p x := by
    intro x a b
    rw [eg]
    by_cases z : cp g c 3 = 1
    · rw [if_pos z, pg_sp (by omega), pg_sr (by omega)]
    · have m := mvv z
      rw [if_neg z, pg_sp (by omega), pg_sr (by omega), pg_sr (by omega)]
  have ss : ∀ x, 0 ≤ x → x < 11 → pg (loadG g c p r sl s) sl x = if x = 7 + s then 0 else pg g sl x := by
    intro x a b
    rw [eg]
    by_cases y : x = 7 + s
    · rw [if_pos y, y]
      split
      · rw [pg_s]
      · rw [pg_s]
    · rw [if_neg y]
      by_cases z : cp g c 3 = 1
      · rw [if_pos z, pg_sp (by omega), pg_sr (by omega)]
        unfold fillG
        rw [pg_sp (by omega), pg_sp (by omega), pg_sp (by omega), pg_sp (by omega), pg_sp (by omega), pg_sp (by omega), pg_clear_o (by omega)]
      · have m := mvv z
        rw [if_neg z, pg_sp (by omega), pg_sr (by omega), pg_sr (by omega)]
        unfold fillG
        rw [pg_sp (by omega), pg_sp (by omega), pg_sp (by omega), pg_sp (by omega), pg_sp (by omega), pg_sp (by omega), pg_clear_o (by omega)]
  have rr : ∀ x, 0 ≤ x → x < 23 → (cp g c 3 = 1 → x ≠ 6) → (cp g c 3 ≠ 1 → x ≠ 7 + cp g c 2 ∧ x ≠ 15 + cp g c 2) → rm (loadG g c p r sl s) r x = rm g r x := by
    intro x a b d e
    rw [eg]
    by_cases z : cp g c 3 = 1
    · have := d z
      rw [if_pos z, rm_sp (by omega), rm_sr (by omega)]
      unfold fillG
      rw [rm_sp (by omega), rm_sp (by omega), rm_sp (by omega), rm_sp (by omega), rm_sp (by omega), rm_sp (by omega), rm_clear (by omega)]
    · have m := mvv z
      have := e z
      rw [if_neg z, rm_sp (by omega), rm_sr (by omega), rm_sr (by omega)]
      unfold fillG
      rw [rm_sp (by omega), rm_sp (by omega), rm_sp (by omega), rm_sp (by omega), rm_sp (by omega), rm_sp (by omega), rm_clear (by omega)]
  have r6 : cp g c 3 = 1 → rm (loadG g c p r sl s) r 6 = 0 := by
    intro z
    rw [eg, if_pos z, rm_sp (by omega), rm_s]
  have r7 : cp g c 3 ≠ 1 → rm (loadG g c p r sl s) r (7 + cp g c 2) = 1 := by
    intro z
    have m := mvv z
    rw [eg, if_neg z, rm_sp (by omega), rm_sr (by omega), rm_s]
  have r15 : cp g c 3 ≠ 1 → rm (loadG g c p r sl s) r (15 + cp g c 2) = p + 1 := by
    intro z
    rw [eg, if_neg z, rm_sp (by omega), rm_s]
  have h34 : loadG g c p r sl s 343 = g 343 ∧ loadG g c p r sl s 344 = g 344 := by
    rw [eg]
    by_cases z : cp g c 3 = 1
    · rw [if_pos z]
      unfold fillG
      constructor <;> rw [at_sp (by omega), at_sr (by omega), at_sp (by omega), at_sp (by omega), at_sp (by omega), at_sp (by omega), at_sp (by omega), at_sp (by omega), at_clear (by omega)]
    · have m := mvv z
      rw [if_neg z]
      unfold fillG
      constructor <;> rw [at_sp (by omega), at_sr (by omega), at_sr (by omega), at_sp (by omega), at_sp (by omega), at_sp (by omega), at_sp (by omega), at_sp (by omega), at_sp (by omega), at_clear (by omega)]
  have k0 := pj 0 (by omega) (by omega)
  have k1 := pj 1 (by omega) (by omega)
  have k2 := pj 2 (by omega) (by omega)
  have k4 := pj 4 (by omega) (by omega)
  have k5 := pj 5 (by omega) (by omega)
  clear pj
  unfold fillG at k0 k1 k2 k4 k5
  rw [pg_sp (by omega), pg_sp (by omega), pg_sp (by omega), pg_sp (by omega), pg_sp (by omega), pg_s] at k0
  rw [pg_sp (by omega), pg_sp (by omega), pg_sp (by omega), pg_sp (by omega), pg_s] at k1
  rw [pg_sp (by omega), pg_sp (by omega), pg_sp (by omega), pg_s] at k2
  rw [pg_sp (by omega), pg_s] at k4
  rw [pg_sp (by omega), pg_sp (by omega), pg_sp (by omega), pg_sp (by omega), pg_sp (by omega), pg_sp (by omega), pg_clear_5] at k5
  generalize loadG g c p r sl s = g' at *
  have V : ∀ q x, 0 ≤ q → q < 4 → 0 ≤ x → x < 23 → (q ≠ r ∨ ((cp g c 3 = 1 → x ≠ 6) ∧ (cp g c 3 ≠ 1 → x ≠ 7 + cp g c 2 ∧ x ≠ 15 + cp g c 2))) → rm g' q x = rm g q x := by
    intro q x a b d e f
    by_cases eq : q = r
    · rw [eq]; exact rr x d e (by omega) (by omega)
    · exact E.rm ok a b d e eq
  have m2 : cp g c 3 = 1 ∨ (cp g c 3 ≠ 1 ∧ 0 ≤ cp g c 2 ∧ cp g c 2 < 8) := by
    by_cases z : cp g c 3 = 1
    · exact Or.inl z
    · exact Or.inr ⟨z, (mvv z).1, (mvv z).2.2.1⟩
  have C : ∀ d j, isCo P d → 0 ≤ j → j < 11 → co g' d j = co g d j := fun d j hd x y => E.co ok hd.1 (by omega) x y (by omega)
  have U : ∀ q x, isPg P q → 0 ≤ x → x < 11 → q ≠ p → (q ≠ sl ∨ x ≠ 7 + s) → pg g' q x = pg g q x := by
    intro q x hq a b d e
    by_cases eq : q = sl
    · rw [eq, ss x a b, if_neg (by omega)]
    · exact E.pg ok hq.1 (by omega) a b d eq
  have SP : ∀ q, isPg P q → q ≠ p → SmP g g' q := fun q hq z => ⟨U q 0 hq (by omega) (by omega) z (by omega), U q 1 hq (by omega) (by omega) z (by omega), U q 2 hq (by omega) (by omega) z (by omega), U q 4 hq (by omega) (by omega) z (by omega), U q 5 hq (by omega) (by omega) z (by omega)⟩
  have nb : ∀ d, isCo P d → co g d 1 ≠ -1 → co g d 2 ≠ p := fun d hd z e => by have := (hg.c.ins d hd z).2.1.2.1; rw [e] at this; omega
  have ns : ∀ d i, isCo P d → 0 ≤ i → i < co g d 4 → co g d (6 + 2 * i) ≠ p := fun d i hd x y e => by have := (hg.c.see d i hd x y).2.2.1; rw [e] at this; omega
  refine ⟨?_, hg.n.step hn (fun q x y => Or.inl (V q 2 x y (by omega) (by omega) (by omega))) (fun q b x y z t => ?_) (fun q x y => Or.inl (V q 5 x y (by omega) (by omega) (by omega))) (Or.inl h34.1) (Or.inl h34.2) (fun q b x y z t => Or.inl ⟨V q 2 x y (by omega) (by omega) (by omega), by (by_cases e : q = r ∧ b = cp g c 2 ∧ cp g c 3 ≠ 1 <;> first | (have m := mvv e.2.2; rw [e.1]; exact Or.inl (by omega)) | exact Or.inr (V q _ x y (by omega) (by omega) (by omega)))⟩), hg.c.keep (fun d j hd x y => C d j hd (by omega) y) (fun d hd => by rw [C d 0 hd (by omega) (by omega)]; exact hg.c.reg d hd) hk.h1 (fun d hd z => ?_) (fun d i hd x y => ?_) (fun d hd z => ?_), hg.s.load (r := r) (sl := sl) (s := s) w.1 w.2.1 w.2.2.1 w.2.2.2.1 w.2.2.2.2.2.2.1.symm lv.1 lv.2.1 (fun d x a b e f => E.cp ok a b e f (by omega)) (fun q t hq k4' a b => ?_) (fun q hq => ?_) h34.1 h34.2 v0.1⟩
  · by_cases z : cp g c 3 = 1
    · have aw := lv.2.2.1 z
      refine hg.p.rootin (p := p) (r := r) (by omega) (by omega) hr (fun _ => aw) (by omega) k1 (by rw [k2]; exact cy.2.1 z) (by rw [k4]; exact cy.2.2.2.1) k5 SP (fun q x y e => ⟨V q 0 x y (by omega) (by omega) (Or.inl e), V q 2 x y (by omega) (by omega) (Or.inl e), V q 3 x y (by omega) (by omega) (Or.inl e), V q 5 x y (by omega) (by omega) (Or.inl e), V q 6 x y (by omega) (by omega) (Or.inl e)⟩) (by rw [V r 0 hr.1 hr.2 (by omega) (by omega) (by omega)]; exact lv.1.2) (r6 z) ?_ (fun b x y => ?_) (fun q b x y s t e => V q _ x y (by omega) (by omega) (Or.inl e))
      · rw [V r 2 hr.1 hr.2 (by omega) (by omega) (by omega), V r 3 hr.1 hr.2 (by omega) (by omega) (by omega)]
        exact ⟨rf.1, rf.2.1⟩
      · rw [V r 2 hr.1 hr.2 (by omega) (by omega) (by omega)] at y
        rw [V r _ hr.1 hr.2 (by omega) (by omega) (by omega)]
        intro e
        obtain ⟨q, hq⟩ := hg.p.he r b lv.1 x y e
        have o := hg.p.ow q hq.1 (by omega) (by omega)
        rw [hq.2.2.1] at o
        omega
    · have m := mvv z
      exact hg.p.fill (p := p) (r := r) (a := cp g c 2) (by omega) (by omega) lv.1 ⟨m.1, m.2.1⟩ m.2.2.2.2 (by omega) (by omega) k1 k2 (by rw [k4]; exact cy.2.2.2.1) k5 SP (fun q x y => ⟨V q 0 x y (by omega) (by omega) (by omega), V q 2 x y (by omega) (by omega) (by omega), V q 3 x y (by omega) (by omega) (by omega), V q 5 x y (by omega) (by omega) (by omega), V q 6 x y (by omega) (by omega) (by omega)⟩) (r7 z) (fun q b x y s t e => V q _ x y (by omega) (by omega) (by omega))
  · by_cases e : q = r ∧ cp g c 3 ≠ 1 ∧ b = cp g c 2
    · rw [e.1, e.2.2, r15 e.2.1]; right; omega
    · exact Or.inl (V q _ x y (by omega) (by omega) (by omega))
  · have i := (hg.c.ins d hd z).2.1.1
    have e := nb d hd z
    exact ⟨U _ 0 i (by omega) (by omega) e (by omega), U _ 1 i (by omega) (by omega) e (by omega), U _ 6 i (by omega) (by omega) e (by omega)⟩
  · have i' := (hg.c.see d i hd x y).2.1
    have e := ns d i hd x y
    exact ⟨U _ 0 i' (by omega) (by omega) e (by omega), U _ 1 i' (by omega) (by omega) e (by omega), U _ 2 i' (by omega) (by omega) e (by omega), Or.inl (U _ 5 i' (by omega) (by omega) e (by omega))⟩
  · have i := (hg.c.ins d hd z).1
    rw [V _ 5 i.1.1 i.1.2 (by omega) (by omega) (by omega)]
    exact ⟨⟨i.1, by rw [V _ 0 i.1.1 i.1.2 (by omega) (by omega) (by omega)]; exact i.2⟩, Int.le_refl _⟩
  · have eq : q ≠ p := fun e => by rw [e, k0] at k4'; omega
    rw [U q 0 hq (by omega) (by omega) eq (by omega)] at k4'
    refine ⟨k4', fun z => ?_, fun z => U q _ hq (by omega) (by omega) eq (by omega)⟩
    rw [z.1, z.2, ss _ (by omega) (by omega), if_pos rfl]
  · have z : isRm g q := ⟨hq.1, by rw [← V q 0 hq.1.1 hq.1.2 (by omega) (by omega) (by omega)]; exact hq.2⟩
    rw [V q 1 hq.1.1 hq.1.2 (by omega) (by omega) (by omega), V q 2 hq.1.1 hq.1.2 (by omega) (by omega) (by omega)]
    refine ⟨z, rfl, rfl, fun t => V q 6 hq.1.1 hq.1.2 (by omega) (by omega) (by omega), fun b b0 b1 t => V q _ hq.1.1 hq.1.2 (by omega) (by omega) (by omega)⟩
/-- every act -/
theorem G_do (hg : GW P g n) (hk : MPok P) (hn : n + 1 ≤ 100000) {t a b c d e : Int} (h0 : 0 ≤ t) (h1 : t ≤ 19) (hw : whyG P g t a b c d e = -1) : GW P (doG P g t a b c d e) (n + 1) := by
  have up : ∀ f, GW P f n → GW P f (n + 1) := fun f h => h.mono (by omega) hn
  rcases (show t = 0 ∨ t = 1 ∨ t = 2 ∨ t = 3 ∨ t = 4 ∨ t = 5 ∨ t = 6 ∨ t = 7 ∨ t = 8 ∨ t = 9 ∨ t = 10 ∨ t = 11 ∨ t = 12 ∨ t = 13 ∨ t = 14 ∨ t = 15 ∨ t = 16 ∨ t = 17 ∨ t = 18 ∨ t = 19 by omega) with z | z | z | z | z | z | z | z | z | z | z | z | z | z | z | z | z | z | z | z
  · subst z; rw [whyG_0] at hw; rw [doG_0]; exact G_0 hg hk hn hw
  · subst z; rw [whyG_1] at hw; rw [doG_1]; exact G_1 hg hk hn hw
  · subst z; rw [whyG_2] at hw; rw [doG_2]; exact G_2 hg hk hn hw
  · subst z; rw [whyG_3] at hw; rw [doG_3]; exact G_3 hg hk hn hw _
  · subst z; rw [whyG_4] at hw; rw [doG_4]; exact G_4 hg hk hn hw
  · subst z; rw [whyG_5] at hw; rw [doG_5]; exact up _ (G_5 hg hk hn (Or.inl rfl) hw)
  · subst z; rw [whyG_6] at hw; rw [doG_6]; exact up _ (G_6 hg hk hn hw)
  · subst z; rw [whyG_7] at hw; rw [doG_7]; exact up _ (G_7 hg hk hn hw)
  · subst z; rw [whyG_8] at hw; rw [doG_8]; exact up _ (G_8 hg hk hn hw)
  · subst z; rw [whyG_9] at hw; rw [doG_9]; exact up _ (G_9 hg hk hn hw)
  · subst z; rw [whyG_10] at hw; rw [doG_10]; exact G_10 hg hk hn hw
  · subst z; rw [whyG_11] at hw; rw [doG_11]; exact G_11 hg hk hn hw
  · subst z; rw [whyG_12] at hw; rw [doG_12]; exact G_12 hg hk hn hw
  · subst z; rw [whyG_13] at hw; rw [doG_13]; exact G_13 hg hk hn hw
  · subst z; rw [whyG_14] at hw; rw [doG_14]; exact G_14 hg hk hn hw
  · subst z; rw [whyG_15] at hw; rw [doG_15]; exact G_15 hg hk hn hw
  · subst z; rw [whyG_16] at hw; rw [doG_16]; exact G_16 hg hk hn hw
  · subst z; rw [whyG_17] at hw; rw [doG_17]; exact G_17 hg hk hn hw
  · subst z; rw [whyG_18] at hw; rw [doG_18]; exact G_18 hg hk hn hw
  · subst z; rw [whyG_19] at hw; rw [doG_19]
    have w := W_tell hw
    exact G_19 hg hk hn w.1 w.2.1
end GDS
