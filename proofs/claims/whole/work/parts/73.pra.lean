/-! acts on both: the pair -/
section PRA
variable {σ s : ST} {P : MP} {g : Int → Int} {n : Int}
theorem lg_zr {r w : Int} (hr : r < 4) (hw : 345 ≤ w) (f : Int → Int) : zrF r 23 0 f w = f w := zr_o (fun h => h w = f w) (fun h j h0 h1 e => by rw [at_sr (by omega)]; exact e) 23 0 f (by omega) (by omega) rfl
theorem do_lg (hg : GW P g n) (hk : MPok P) {t a b c d e w : Int} (h0 : 0 ≤ t) (h1 : t ≤ 19) (hw : whyG P g t a b c d e = -1) (hx : 345 ≤ w) : doG P g t a b c d e w = g w := by
  have p1 := hk.p1
  have p0 := hk.p0
  have c1 := hk.c1
  have f1 := fPage_in P g hk.p0
  have f2 := fRoom_in g
  have f3 := fPlace_in g
  rcases (show t = 0 ∨ t = 1 ∨ t = 2 ∨ t = 3 ∨ t = 4 ∨ t = 5 ∨ t = 6 ∨ t = 7 ∨ t = 8 ∨ t = 9 ∨ t = 10 ∨ t = 11 ∨ t = 12 ∨ t = 13 ∨ t = 14 ∨ t = 15 ∨ t = 16 ∨ t = 17 ∨ t = 18 ∨ t = 19 by omega) with z | z | z | z | z | z | z | z | z | z | z | z | z | z | z | z | z | z | z | z <;> subst z
  · rw [whyG_0] at hw; rw [doG_0]
    have v := W_create hw
    unfold createG makeG mk1
    rw [at_sr (by omega), at_sr (by omega), at_sr (by omega), at_sr (by omega), at_sr (by omega), at_put_o (by omega), lg_zr (by omega) hx, at_sp (by omega), at_sp (by omega), at_clear (by omega)]
  · rw [whyG_1] at hw; rw [doG_1]
    have v := W_slots hw
    rw [at_sp (by omega), at_clear (by omega)]
  · rw [whyG_2] at hw; rw [doG_2]
    have v := W_add hw
    have rf := hg.p.rf _ v.1
    unfold addG add1
    rw [at_sr (by omega), at_sr (by omega), at_sr (by omega), at_sp (by omega), at_sp (by omega), at_sp (by omega), at_sp (by omega), at_sp (by omega), at_clear (by omega)]
  · rw [whyG_3] at hw; rw [doG_3]
    have v := W_extend hw
    rw [at_sr (by omega)]
  · rw [whyG_4] at hw; rw [doG_4]
    have v := W_seal hw
    rw [at_sr (by omega)]
  · rw [whyG_5] at hw; rw [doG_5]
    have v := W_enter hw
    have po := v.2.2.2.2.2.2.1.1
    unfold enterG
    rw [at_sp (by omega), at_sc (by omega), at_sc (by omega), at_sc (by omega), at_sc (by omega)]
  · rw [whyG_6] at hw; rw [doG_6]
    have v := W_leave hw
    have po := (hg.c.ins _ v.1 v.2).2.1.1
    unfold leaveG outG
    rw [at_sc (by omega), at_sc (by omega), at_sc (by omega), at_sc (by omega), at_sp (by omega)]
  · rw [whyG_7] at hw; rw [doG_7]
    have v := W_leave hw
    have po := (hg.c.ins _ v.1 v.2).2.1.1
    unfold trapG outG
    rw [at_sc (by omega), at_sc (by omega), at_sc (by omega), at_sc (by omega), at_sc (by omega), at_sp (by omega), at_sp (by omega)]
  · rw [whyG_8] at hw; rw [doG_8]
    have v := W_enter hw
    have po := v.2.2.2.2.2.2.1.1
    unfold resumeG enterG
    rw [at_sp (by omega), at_sc (by omega), at_sp (by omega), at_sc (by omega), at_sc (by omega), at_sc (by omega), at_sc (by omega)]
  · rw [whyG_9] at hw; rw [doG_9]
    have v := W_touch hw
    have tp := touched_pg hg hw
    have nh := hg.n.nh (by omega)
    have nh3 := hk.h1
    have ct := hg.c.cnt _ v.1
    have e1 : touch1 P g a b w = g w := by
      unfold touch1
      split
      · unfold seesG see3
        split
        · rw [at_sc (by omega), at_sc (by omega), at_sc (by omega), shF_o (by omega) _ _ _ (by omega) (by omega)]
        · rw [at_sc (by omega), at_sc (by omega), at_sc (by omega)]
      · rfl
    unfold touch2
    split
    · rw [at_sp (by omega), e1]
    · rw [at_sc (by omega), e1]
  · rw [whyG_10] at hw; rw [doG_10]
    have v := W_block hw
    rw [at_sp (by omega)]
  · rw [whyG_11] at hw; rw [doG_11]
    have v := W_track hw
    rw [at_sr (by omega)]
  · rw [whyG_12] at hw; rw [doG_12]
    have v := W_evict hw
    have kd := hg.p.kd _ v.1
    have cg := v.2.2.2.2.1
    have ow := hg.p.ow _ v.1 (by omega) (by omega)
    have rf := hg.p.rf _ ow.1
    rw [evictG_eq]
    unfold keepG
    split
    · rw [at_clear (by omega), at_sr (by omega), at_sp (by omega), at_sy (by omega), at_sy (by omega), at_sy (by omega), at_sy (by omega), at_sy (by omega), at_sy (by omega), at_sy (by omega), at_sy (by omega), at_sy (by omega), at_put_o (by omega)]
    · have mv := (hg.p.mv _ v.1 (by omega)).1
      rw [at_clear (by omega), at_sr (by omega), at_sp (by omega), at_sy (by omega), at_sy (by omega), at_sy (by omega), at_sy (by omega), at_sy (by omega), at_sy (by omega), at_sy (by omega), at_sy (by omega), at_sy (by omega), at_put_o (by omega)]
  · rw [whyG_13] at hw; rw [doG_13]
    have v := W_load hw
    have lv := roomS_lv hg hw
    have cy := hg.s.cy _ v.1
    have rf := hg.p.rf _ lv.1
    rw [loadG_eq lv.1.1 ⟨v.2.1.1, by omega, v.2.2.2.1⟩ cy.2.2.1]
    unfold fillG
    split
    · rw [at_sp (by omega), at_sr (by omega), at_sp (by omega), at_sp (by omega), at_sp (by omega), at_sp (by omega), at_sp (by omega), at_sp (by omega), at_clear (by omega)]
    · rename_i h3
      have a1 := cy.2.2.1 h3
      rw [at_sp (by omega), at_sr (by omega), at_sr (by omega), at_sp (by omega), at_sp (by omega), at_sp (by omega), at_sp (by omega), at_sp (by omega), at_sp (by omega), at_clear (by omega)]
  · rw [whyG_14] at hw; rw [doG_14]
    have v := W_remove hw
    have kd := hg.p.kd _ v.1
    unfold removeG
    split
    · rw [at_clear (by omega)]
    · have ow := hg.p.ow _ v.1 (by omega) (by omega)
      have rf := hg.p.rf _ ow.1
      split
      · rw [at_clear (by omega), at_sr (by omega)]
      · have mv := (hg.p.mv _ v.1 (by omega)).1
        rw [at_clear (by omega), at_sr (by omega)]
  · rw [whyG_15] at hw; rw [doG_15]
    have v := W_map hw
    have rf := hg.p.rf _ v.1
    rw [at_sr (by omega)]
  · rw [whyG_16] at hw; rw [doG_16]
    have v := W_double hw
    exact at_dblF (by omega) (by omega) 9 0 g (by omega) (by omega)
  · rw [whyG_17] at hw; rw [doG_17]
    have v := W_change hw
    rw [at_sy (by omega), at_sy (by omega)]
  · rw [whyG_18] at hw; rw [doG_18]
    have v := W_drop hw
    rw [at_sy (by omega)]
  · rw [whyG_19] at hw; rw [doG_19]
    have v := W_tell hw
    rw [at_sc (by omega)]
theorem ZS.np0 (hz : ZS σ P g) : P.np ≠ 0 ∨ P.np = 0 := by omega
/-- after an act that was done, on both -/
theorem INV_done {g1 : Int → Int} {pn u : Int} (hI : IVg σ P g n) (hn : n + 1 ≤ 100000) (hpn : σ 0 0 0 11 = pn) (hu : σ 40 0 0 18 = u) (fr : AFr pn σ s) (np : P.np ≠ 0) (z : ZS s P g1) (x : RX s 0 P g1) (w : GW P g1 (n + 1)) (rf : ∀ i, 0 ≤ i → i < 5 → s 10 0 0 i = s 47 0 0 i) (e11 : s 0 0 0 11 = (pn + 1) % 41) (e12 : s 0 0 0 12 = (if u = 40 then 40 else u + 1)) (e18 : s 40 0 0 18 = (if u = 40 then 40 else u + 1))
    (k1 : ∀ j x, 0 ≤ j → j < (if u = 40 then 39 else u) → 0 ≤ x → x < 526 → s 48 0 0 (526 * j + x) = σ 48 0 0 (526 * (if u = 40 then j + 1 else j) + x)) (k2 : ∀ x, 0 ≤ x → x < 526 → s 48 0 0 (526 * (if u = 40 then 39 else u) + x) = g x) (xp : RX s (3 + pn) P g) : IVg s P g1 (n + 1) := by
  have p0 := hI.u.p0
  have p1 := hI.u.p1
  have u0 := hI.u.u0
  have u1 := hI.u.u1
  refine ⟨z, x, w, hI.m.keep (fr _ _ _ _ (by omega)) (fun x => fr _ _ _ _ (by omega)) (fun x => fr _ _ _ _ (by omega)), rf, hI.t.keep (fr _ _ _ _ (by omega)) (fr _ _ _ _ (by omega)) (fun x => fr _ _ _ _ (by omega)) (fun x => fr _ _ _ _ (by omega)), hI.s.keep (fr _ _ _ _ (by omega)) (fr _ _ _ _ (by omega)) (fun m a b => fr _ _ _ _ (by omega)) (fun m x a b => fr _ _ _ _ (by omega)) (fun x a => fr _ _ _ _ (by omega)) (fun x a => fr _ _ _ _ (by omega)), ?_, hI.i.keep (by omega) hn (fr _ _ _ _ (by omega)) (fr _ _ _ _ (by omega)) (fun x => fr _ _ _ _ (by omega)) (fun t i x a b => fr _ _ _ _ (by omega))⟩
  unfold UNi
  rw [e11, e12, e18]
  by_cases h4 : u = 40
  · rw [if_pos h4] at k1 k2 ⊢
    refine ⟨by omega, by omega, rfl, by omega, by omega, fun q => absurd q np, fun j a b => ?_⟩
    by_cases hj : j = 39
    · refine ⟨g, fun y y0 y1 => ?_, ?_, hI.w.mono (by omega) hn⟩
      · rw [hj]; exact k2 y y0 y1
      · rw [show 3 + ((pn + 1) % 41 - 40 + j) % 41 = 3 + pn by omega]; exact xp
    · obtain ⟨gj, c, d, e⟩ := hI.u.row (j + 1) (by omega) (by omega)
      refine ⟨gj, fun y y0 y1 => ?_, ?_, e.mono (by omega) hn⟩
      · rw [k1 j y a (by omega) y0 y1, if_pos h4]; exact c y y0 y1
      · rw [show 3 + ((pn + 1) % 41 - 40 + j) % 41 = 3 + (σ 0 0 0 11 - σ 40 0 0 18 + (j + 1)) % 41 by omega]
        exact d.keepo (fun t i y h1 h2 => fr _ _ _ _ (by omega))
  · rw [if_neg h4] at k1 k2 ⊢
    refine ⟨by omega, by omega, rfl, by omega, by omega, fun q => absurd q np, fun j a b => ?_⟩
    by_cases hj : j = u
    · refine ⟨g, fun y y0 y1 => ?_, ?_, hI.w.mono (by omega) hn⟩
      · rw [hj]; exact k2 y y0 y1
      · rw [show 3 + ((pn + 1) % 41 - (u + 1) + j) % 41 = 3 + pn by omega]; exact xp
    · obtain ⟨gj, c, d, e⟩ := hI.u.row j (by omega) (by omega)
      refine ⟨gj, fun y y0 y1 => ?_, ?_, e.mono (by omega) hn⟩
      · rw [k1 j y a (by omega) y0 y1, if_neg h4]; exact c y y0 y1
      · rw [show 3 + ((pn + 1) % 41 - (u + 1) + j) % 41 = 3 + (σ 0 0 0 11 - σ 40 0 0 18 + j) % 41 by omega]
        exact d.keepo (fun t i y h1 h2 => fr _ _ _ _ (by omega))
/-- after an act that was refused, on both -/
theorem INV_no {pn : Int} (hI : IVg σ P g n) (hpn : σ 0 0 0 11 = pn) (fr : AFr pn σ s) (z : ZS s P g) (x : RX s 0 P g) (rf : ∀ i, 0 ≤ i → i < 5 → s 10 0 0 i = s 47 0 0 i) (e11 : s 0 0 0 11 = pn) (e12 : s 0 0 0 12 = σ 0 0 0 12) (e18 : s 40 0 0 18 = σ 40 0 0 18) (e48 : ∀ x, s 48 0 0 x = σ 48 0 0 x) : IVg s P g n := by
  have le := hI.w.n.le
  have p0 := hI.u.p0
  exact ⟨z, x, hI.w, hI.m.keep (fr _ _ _ _ (by omega)) (fun x => fr _ _ _ _ (by omega)) (fun x => fr _ _ _ _ (by omega)), rf, hI.t.keep (fr _ _ _ _ (by omega)) (fr _ _ _ _ (by omega)) (fun x => fr _ _ _ _ (by omega)) (fun x => fr _ _ _ _ (by omega)), hI.s.keep (fr _ _ _ _ (by omega)) (fr _ _ _ _ (by omega)) (fun m a b => fr _ _ _ _ (by omega)) (fun m x a b => fr _ _ _ _ (by omega)) (fun x a => fr _ _ _ _ (by omega)) (fun x a => fr _ _ _ _ (by omega)), hI.u.keep (by omega) le (by rw [e11, hpn]) e12 e18 e48 (fun t k i x a b c d => fr _ _ _ _ (by omega)), hI.i.keep (by omega) le (fr _ _ _ _ (by omega)) (fr _ _ _ _ (by omega)) (fun x => fr _ _ _ _ (by omega)) (fun t i x a b => fr _ _ _ _ (by omega))⟩
theorem PR_act (hI : IVg σ P g n) (hn : n + 1 ≤ 100000) {t a a' b c d e no : Int} (h0 : 0 ≤ t) (h1 : t ≤ 19) (ha : t ≠ 1 → a' = a) (ha1 : t = 1 → a = -1) {F : Int → Int → ST → Prop} (K : ∀ r s, INV s (n + 1) → F r r s) : wpM m_X_act [xx, .inl t, .inl no, .inl a, .inl b, .inl c, .inl d, .inl e] σ (asI fun r s => wpM m_Z_hand [zz, .inl no, .inl t, .inl a', .inl b, .inl c, .inl d, .inl e] s (asI fun r' s' => F r r' s')) := by
  have p0 := hI.u.p0
  have p1 := hI.u.p1
  have u0 := hI.u.u0
  have u1 := hI.u.u1
  have ew : whyG P g t a' b c d e = whyG P g t a b c d e := by
    by_cases z : t = 1
    · subst z; rw [whyG_1, whyG_1]
    · rw [ha z]
  have wi := why_in hI (a := a) (b := b) (c := c) (d := d) (e := e) h0 h1
  refine T_X_act _ _ _ _ _ _ _ _ _ _ _ ?_
  refine C_past hI.x ⟨p0, p1⟩ rfl (fun s1 o1 r1 => ?_)
  have x1 : RX s1 0 P g := hI.x.keepo (fun t i x a b => o1 t 0 i x (fun z => by have := z.1; omega))
  refine C_A_do x1 hI.w h0 h1 (fun s2 v o2 hno hdo => ?_)
  have f2 : ∀ (t : Nat) (k i x : Int), ¬ ((11 ≤ t ∧ t ≤ 29) ∧ (k = 0 ∨ k = 3 + σ 0 0 0 11)) → s2 t k i x = σ t k i x := fun t k i x hn => (o2 t k i x (fun z => hn (by omega))).trans (o1 t k i x (fun z => hn (by omega)))
  by_cases hy : whyG P g t a b c d e = -1
  · have np : P.np ≠ 0 := fun q => why_np hI.z q t a b c d e h0 h1 hy
    obtain ⟨e1, r2, ev⟩ := hdo hy
    subst ev
    have gd := G_do hI.w hI.z.ok hn h0 h1 hy
    have x2 : RX s2 0 P (doG P g t a b c d e) := gd.x r2
    have ld := do_lg hI.w hI.z.ok h0 h1 hy (w := 345) (by omega)
    have lg := hI.x.1.lg
    refine C_keeps1 x2 e1 ⟨p0, p1⟩ (f2 0 0 0 11 (by omega)) (u := σ 40 0 0 18) ⟨u0, u1⟩ ((f2 0 0 0 12 (by omega)).trans hI.u.eq) _ _ _ (fun s3 f3 e11 e12 x3 => ?_)
    refine And.intro (fun q => absurd q (by omega)) (fun _ => ?_)
    have ea : ansG P g t a' b c d e = ansG P g t a b c d e := by
      by_cases z : t = 1
      · subst z; rw [ansG_1, ansG_1]
      · rw [ha z]
    have ed : doG P g t a' b c d e = doG P g t a b c d e := by
      by_cases z : t = 1
      · subst z; rw [doG_1, doG_1]
      · rw [ha z]
    have eaa : (if t = 1 then -1 else a') = a := by
      by_cases z : t = 1
      · rw [if_pos z, ha1 z]
      · rw [if_neg z, ha z]
    have f3' : ∀ (t : Nat) (k i x : Int), ¬ ((11 ≤ t ∧ t ≤ 29) ∧ (k = 0 ∨ k = 3 + σ 0 0 0 11)) → ¬ (t = 0 ∧ (x = 11 ∨ x = 12)) → s3 t k i x = σ t k i x := fun t k i x h1 h2 => (f3 t k i x (fun z => h1 (by omega)) h2).trans (f2 t k i x h1)
    have z3 : ZS s3 P g := hI.z.keepo (fun x => f3' _ _ _ _ (by omega) (by omega)) (fun x => f3' _ _ _ _ (by omega) (by omega)) (f3' _ _ _ _ (by omega) (by omega))
    have e18 : s3 40 0 0 18 = σ 40 0 0 18 := f3' _ _ _ _ (by omega) (by omega)
    refine T_Z_hand _ _ _ _ _ _ _ _ _ _ _ ?_
    refine PU.I (P_Z_whyNot z3 (hI.w.GR hI.z.ok) hI.w.p.kd t a' b c d e) ?_
    rw [ew, hy]
    refine And.intro (fun _ => ?_) (fun q => absurd rfl q)
    refine A_Z_act z3 np hI.w ⟨lg.l0, lg.l1⟩ ⟨u0, u1⟩ e18 h0 h1 (ew.trans hy) (by rw [ed]; exact ld) (fun s4 f4 z4 g18 k1 k2 => ?_)
    rw [ea]
    refine K _ _ ⟨P, _, INV_done (pn := σ 0 0 0 11) (u := σ 40 0 0 18) hI hn rfl rfl (fun t k i x hn => ?_) np z4 ?_ ?_ (fun i i0 i1 => ?_) ?_ ?_ g18 (fun j x j0 j1 y0 y1 => ?_) k2 ?_⟩
    · rw [f4 t k i x (by omega), f3' t k i x (by omega) (by omega)]
    · rw [eaa, ed, ea]
      exact x3.keepo (fun t i x a b => f4 _ _ _ _ (by omega))
    · refine (gd.ext hI.z.ok (fun x x0 x1 => ?_))
      rw [ed]
      exact note_lo (by rw [ld]; exact lg.l0) x1
    · rw [f4 10 0 0 i (by omega), f4 47 0 0 i (by omega), f3' 10 0 0 i (by omega) (by omega), f3' 47 0 0 i (by omega) (by omega)]
      exact hI.r.eq i i0 i1
    · rw [f4 0 0 0 11 (by omega)]; exact e11
    · rw [f4 0 0 0 12 (by omega)]; exact e12
    · rw [k1 j x j0 j1 y0 y1]
      exact f3' _ _ _ _ (by omega) (by omega)
    · refine (r1.keepo (fun t i x a b => ?_))
      rw [f4 _ _ _ _ (by omega), f3 t _ i x (by omega) (by omega), o2 t _ i x (fun z => by have := z.1; omega)]
  · obtain ⟨e1, r2⟩ := hno hy
    refine C_keeps0 (by rw [e1]; exact hy) _ _ _ ?_
    refine And.intro (fun _ => ?_) (fun q => absurd rfl q)
    rw [e1]
    refine And.intro (fun q => absurd q (by omega)) (fun _ => And.intro (fun q => absurd q (by omega)) (fun _ => And.intro (by omega) (And.intro (by omega) ?_)))
    generalize hww : whyG P g t a b c d e = w at *
    have f3 : ∀ (t : Nat) (k i x : Int), ¬ ((11 ≤ t ∧ t ≤ 29) ∧ (k = 0 ∨ k = 3 + σ 0 0 0 11)) → t ≠ 10 → up s2 10 0 0 w (wr (s2 10 0 0 w + 1)) t k i x = σ t k i x := fun t k i x h1 h2 => (up_o h2).trans (f2 t k i x h1)
    have z3 : ZS (up s2 10 0 0 w (wr (s2 10 0 0 w + 1))) P g := hI.z.keepo (fun x => f3 _ _ _ _ (by omega) (by omega)) (fun x => f3 _ _ _ _ (by omega) (by omega)) (f3 _ _ _ _ (by omega) (by omega))
    show wpM m_Z_hand _ _ _
    refine T_Z_hand _ _ _ _ _ _ _ _ _ _ _ ?_
    refine PU.I (P_Z_whyNot z3 (hI.w.GR hI.z.ok) hI.w.p.kd t a' b c d e) ?_
    rw [ew]
    refine And.intro (fun q => absurd q hy) (fun _ => And.intro (by omega) (And.intro (by omega) ?_))
    refine K _ _ ⟨P, g, ?_⟩
    have I2 := INV_no (s := up (up s2 10 0 0 w (wr (s2 10 0 0 w + 1))) 47 0 0 w (wr (up s2 10 0 0 w (wr (s2 10 0 0 w + 1)) 47 0 0 w + 1))) hI rfl (fun t k i x hn => ?_) (z3.keepo (fun x => up_o (by decide)) (fun x => up_o (by decide)) (up_o (by decide))) (r2.keepo (fun t i x a b => by rw [up_o (by omega), up_o (by omega)])) (fun i i0 i1 => ?_) ?_ ?_ ?_ (fun x => ?_)
    · exact ⟨I2.z, I2.x, I2.w.mono (by omega) hn, I2.m, I2.r, I2.t, I2.s, I2.u.keep (by omega) hn rfl rfl rfl (fun _ => rfl) (fun _ _ _ _ _ _ _ _ => rfl), I2.i.keep (by omega) hn rfl rfl (fun _ => rfl) (fun _ _ _ _ _ => rfl)⟩
    · rw [up_o (by omega)]; exact f3 t k i x (by omega) (by omega)
    · have q := hI.r.eq i i0 i1
      have q1 := hI.r.eq w (by omega) (by omega)
      rw [up_o (by decide), up_s, up_s, up_o (by decide), up_o (by decide), f2 10 0 0 i (by omega), f2 47 0 0 i (by omega), f2 10 0 0 w (by omega), f2 47 0 0 w (by omega), q, q1]
    · rw [up_o (by decide)]; exact f3 _ _ _ _ (by omega) (by omega)
    · rw [up_o (by decide)]; exact f3 _ _ _ _ (by omega) (by omega)
    · rw [up_o (by decide)]; exact f3 _ _ _ _ (by omega) (by omega)
    · rw [up_o (by decide)]; exact f3 _ _ _ _ (by omega) (by omega)
end PRA
