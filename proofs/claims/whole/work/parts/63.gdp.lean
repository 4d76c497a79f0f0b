/-! what always holds stays so: the acts, second half -/
theorem i_or_z {x y : Int} (hx : in32 x) (hy : in32 y) (h : i_or x y = 0) : x = 0 ∧ y = 0 := by
  unfold i_or at h
  rw [i_z0] at h
  have hb : ∀ i, bt (Int32.ofInt x) i = false ∧ bt (Int32.ofInt y) i = false := by
    intro i
    have := congrArg (fun z => bt z i) h
    rw [b_or, b_0] at this
    exact Bool.or_eq_false_iff.mp this
  constructor
  · have e : Int32.ofInt x = 0 := b_ext (fun i hi => by rw [(hb i).1, b_0])
    have := congrArg Int32.toInt e
    rw [n_toInt hx] at this
    exact this
  · have e : Int32.ofInt y = 0 := b_ext (fun i hi => by rw [(hb i).2, b_0])
    have := congrArg Int32.toInt e
    rw [n_toInt hy] at this
    exact this
theorem shl_ne : ∀ i : Nat, i < 31 → i_shl 1 (i : Int) ≠ 0 := by decide +kernel
theorem in32_shl (x y : Int) : in32 (i_shl x y) := n_of _
theorem bf_ne {c : Int → Prop} [DecidablePred c] : ∀ (n : Nat) (i a : Int), in32 a → a ≠ 0 → bf c n i a ≠ 0
  | 0, _, _, _, h => h
  | n + 1, i, a, ha, h => by
    by_cases hc : c i
    · rw [bf_y hc]
      exact bf_ne n (i + 1) _ (i_or_32 _ _) (fun z => h (i_or_z ha (in32_shl _ _) z).1)
    · rw [bf_n hc]
      exact bf_ne n (i + 1) a ha h
theorem bf_none {c : Int → Prop} [DecidablePred c] : ∀ (n : Nat) (i a : Int), 0 ≤ i → i + n ≤ 31 → in32 a → bf c n i a = 0 → ∀ j, i ≤ j → j < i + n → ¬ c j
  | 0, i, a, _, _, _, _, j, h1, h2 => absurd h1 (by omega)
  | n + 1, i, a, h0, hn, ha, h, j, h1, h2 => by
    by_cases hc : c i
    · exfalso
      rw [bf_y hc] at h
      refine bf_ne n (i + 1) _ (i_or_32 _ _) (fun z => ?_) h
      have := (i_or_z ha (in32_shl _ _) z).2
      have e := shl_ne i.toNat (by omega)
      rw [show ((i.toNat : Nat) : Int) = i by omega] at e
      exact e this
    · rw [bf_n hc] at h
      rcases (show j = i ∨ i + 1 ≤ j by omega) with e | e
      · rw [e]; exact hc
      · exact bf_none n (i + 1) a (by omega) (by omega) ha h j e (by omega)
theorem nf_ge {c : Int → Prop} [DecidablePred c] : ∀ (n : Nat) (i a : Int), a ≤ nf c n i a
  | 0, _, _ => Int.le_refl _
  | n + 1, i, a => by
    by_cases hc : c i
    · rw [nf_y hc]
      have := nf_ge (c := c) n (i + 1) (a + 1)
      omega
    · rw [nf_n hc]
      exact nf_ge n (i + 1) a
theorem nf_none {c : Int → Prop} [DecidablePred c] : ∀ (n : Nat) (i a : Int), nf c n i a ≤ a → ∀ j, i ≤ j → j < i + n → ¬ c j
  | 0, i, a, _, j, h1, h2 => absurd h1 (by omega)
  | n + 1, i, a, h, j, h1, h2 => by
    by_cases hc : c i
    · exfalso
      rw [nf_y hc] at h
      have := nf_ge (c := c) n (i + 1) (a + 1)
      omega
    · rw [nf_n hc] at h
      rcases (show j = i ∨ i + 1 ≤ j by omega) with e | e
      · rw [e]; exact hc
      · exact nf_none n (i + 1) a h j e (by omega)
section GDP
variable {P : MP} {g g' : Int → Int} {n : Int}
theorem GN.mono (h : GN P g n) {m : Int} (h1 : n ≤ m) (h2 : m ≤ 100000) : GN P g m := by
  have v0 := h.v0
  have s0 := h.s0
  unfold GN
  refine ⟨h.rsz, h.map, fun r a b => ?_, by omega, by omega, h.nh, h2, h.nb⟩
  have := h.epo r a b
  omega
theorem GW.mono (h : GW P g n) {m : Int} (h1 : n ≤ m) (h2 : m ≤ 100000) : GW P g m := ⟨h.p, h.n.mono h1 h2, h.c, h.s⟩
theorem GN.same0 (h : GN P g n) (hrm : ∀ q j, 0 ≤ q → q < 4 → 0 ≤ j → j < 23 → rm g' q j = rm g q j) (h3 : g' 343 = g 343) (h4 : g' 344 = g 344) : GN P g' n := by
  unfold GN
  refine ⟨fun r a b => ?_, fun r x a b c d => ?_, fun r a b => ?_, by rw [h3]; exact h.v0, by rw [h4]; exact h.s0, h.nh, h.le, fun r x a b c d => ?_⟩
  · rw [hrm r 2 a b (by omega) (by omega)]; exact h.rsz r a b
  · rw [hrm r _ a b (by omega) (by omega)]; exact h.map r x a b c d
  · rw [hrm r 5 a b (by omega) (by omega)]; exact h.epo r a b
  · have r1 := h.rsz r a b
    rw [hrm r 2 a b (by omega) (by omega)] at c
    rw [hrm r _ a b (by omega) (by omega)]
    exact h.nb r x a b c d
theorem G_regn (hg : GW P g n) (hk : MPok P) (hn : n + 1 ≤ 100000) {c v : Int} (hc : isCo P c) (hv : 0 ≤ v ∧ v ≤ 999) : GW P (sc g c 0 v) n := by
  have c1 := hk.c1
  have G := G_19 hg hk hn hc hv
  exact ⟨G.p, hg.n.same0 (fun q j a b x y => rm_sc (by omega)) (at_sc (by omega)) (at_sc (by omega)), G.c, G.s⟩
theorem G_valn (hg : GW P g n) (hk : MPok P) (hn : n + 1 ≤ 100000) {p v : Int} (hp : isPg P p) (hv : 0 ≤ v ∧ v ≤ 999) : GW P (sp g p 4 v) n := by
  have p1 := hk.p1
  have G := G_val hg hk hn hp hv
  exact ⟨G.p, hg.n.same0 (fun q j a b x y => rm_sp (by omega)) (at_sp (by omega)) (at_sp (by omega)), G.c, G.s⟩
theorem G_5 (hg : GW P g n) (hk : MPok P) (hn : n + 1 ≤ 100000) {c r a d : Int} (hd : d = 0 ∨ d = 2) (hw : whyEnterG P g c r a d = -1) : GW P (enterG g c r (rm g r (15 + a) - 1)) n := by
  have p1 := hk.p1
  have c1 := hk.c1
  have w := W_enter hw
  have po := w.2.2.2.2.2.2.1
  have ep := hg.n.epo r w.2.1.1.1 w.2.1.1.2
  have U : ∀ q j, isPg P q → 0 ≤ j → j < 11 → (q ≠ rm g r (15 + a) - 1 ∨ j ≠ 6) → pg (enterG g c r (rm g r (15 + a) - 1)) q j = pg g q j := by
    intro q j hq x y z
    unfold enterG
    rw [pg_sp (by omega), pg_sc (by omega), pg_sc (by omega), pg_sc (by omega), pg_sc (by omega)]
  have V : ∀ q j, 0 ≤ q → q < 4 → 0 ≤ j → j < 23 → rm (enterG g c r (rm g r (15 + a) - 1)) q j = rm g q j := by
    intro q j x y z t
    unfold enterG
    rw [rm_sp (by omega), rm_sc (by omega), rm_sc (by omega), rm_sc (by omega), rm_sc (by omega)]
  have S : ∀ d j, 0 ≤ d → d < 12 → 0 ≤ j → j < 9 → cp (enterG g c r (rm g r (15 + a) - 1)) d j = cp g d j := by
    intro q j x y z t
    unfold enterG
    rw [cp_sp (by omega), cp_sc (by omega), cp_sc (by omega), cp_sc (by omega), cp_sc (by omega)]
  have T : ∀ x, 343 ≤ x → enterG g c r (rm g r (15 + a) - 1) x = g x := by
    intro x hx
    unfold enterG
    rw [at_sp (by omega), at_sc (by omega), at_sc (by omega), at_sc (by omega), at_sc (by omega)]
  have C : ∀ d j, isCo P d → (d ≠ c ∨ j = 0 ∨ 5 ≤ j) → 0 ≤ j → j < 11 → co (enterG g c r (rm g r (15 + a) - 1)) d j = co g d j := by
    intro d j hd z x y
    unfold enterG
    rw [co_sp (by omega), co_sc (by omega), co_sc (by omega), co_sc (by omega), co_sc (by omega)]
  refine ⟨hg.p.same0 (fun q j hq x y z => U q j hq x (by omega) (by omega)) (fun q hq => by rw [U q 4 hq (by omega) (by omega) (by omega)]; exact hg.p.vl q hq) (fun q j x y z => V q j x y (by omega) (by omega)), hg.n.same0 V (T _ (by omega)) (T _ (by omega)), hg.c.goin w.1 w.2.2.2.1 w.2.1 ep.1 po.1 (by omega) po.2.2.1 (by omega) ⟨hk.h0, hk.h1⟩ ?_ ?_ ?_ ?_ ?_ (fun d j hd z x y => C d j hd (Or.inl z) x y) (fun q hq => ⟨U q 0 hq (by omega) (by omega) (by omega), U q 1 hq (by omega) (by omega) (by omega), U q 2 hq (by omega) (by omega) (by omega), U q 5 hq (by omega) (by omega) (by omega), fun z => U q 6 hq (by omega) (by omega) (Or.inl z)⟩) pg_s (fun q x y => ⟨V q 0 x y (by omega) (by omega), V q 5 x y (by omega) (by omega)⟩), hg.s.same S (fun q j hq x y => U q j hq (by omega) y (by omega)) (fun q j x y z => V q j x y (by omega) (by omega)) ⟨hg.n.v0.1, hg.n.s0.1⟩ (T _ (by omega)) (T _ (by omega))⟩
  · rw [C c 0 w.1 (by omega) (by omega) (by omega)]; exact hg.c.reg c w.1
  · unfold enterG
    rw [co_sp (by omega), co_sc (by omega), co_sc (by omega), co_sc (by omega), co_s]
  · unfold enterG
    rw [co_sp (by omega), co_sc (by omega), co_sc (by omega), co_s]
  · unfold enterG
    rw [co_sp (by omega), co_sc (by omega), co_s]
  · unfold enterG
    rw [co_sp (by omega), co_s]
theorem G_8 (hg : GW P g n) (hk : MPok P) (hn : n + 1 ≤ 100000) {c r a : Int} (hw : whyEnterG P g c r a 2 = -1) : GW P (resumeG g c r (rm g r (15 + a) - 1)) n := by
  have w := W_enter hw
  have po := w.2.2.2.2.2.2.1
  exact G_valn (G_regn (G_5 hg hk hn (Or.inr rfl) hw) hk hn w.1 (hg.p.vl _ po.1)) hk hn po.1 (by omega)
theorem G_out (hg : GW P g n) (hk : MPok P) (hn : n + 1 ≤ 100000) {c w : Int} (hc : isCo P c) (hi : co g c 1 ≠ -1) : GW P (outG (sp g (co g c 2) 6 w) c) n := by
  have p1 := hk.p1
  have c1 := hk.c1
  have i := hg.c.ins c hc hi
  have b := i.2.1.1
  have U : ∀ q j, isPg P q → 0 ≤ j → j < 11 → (q ≠ co g c 2 ∨ j ≠ 6) → pg (outG (sp g (co g c 2) 6 w) c) q j = pg g q j := by
    intro q j hq x y z
    unfold outG
    rw [pg_sc (by omega), pg_sc (by omega), pg_sc (by omega), pg_sc (by omega), pg_sp (by omega)]
  have V : ∀ q j, 0 ≤ q → q < 4 → 0 ≤ j → j < 23 → rm (outG (sp g (co g c 2) 6 w) c) q j = rm g q j := by
    intro q j x y z t
    unfold outG
    rw [rm_sc (by omega), rm_sc (by omega), rm_sc (by omega), rm_sc (by omega), rm_sp (by omega)]
  have S : ∀ d j, 0 ≤ d → d < 12 → 0 ≤ j → j < 9 → cp (outG (sp g (co g c 2) 6 w) c) d j = cp g d j := by
    intro q j x y z t
    unfold outG
    rw [cp_sc (by omega), cp_sc (by omega), cp_sc (by omega), cp_sc (by omega), cp_sp (by omega)]
  have T : ∀ x, 343 ≤ x → outG (sp g (co g c 2) 6 w) c x = g x := by
    intro x hx
    unfold outG
    rw [at_sc (by omega), at_sc (by omega), at_sc (by omega), at_sc (by omega), at_sp (by omega)]
  have C : ∀ d j, isCo P d → (d ≠ c ∨ j = 0 ∨ 5 ≤ j) → 0 ≤ j → j < 11 → co (outG (sp g (co g c 2) 6 w) c) d j = co g d j := by
    intro d j hd z x y
    unfold outG
    rw [co_sc (by omega), co_sc (by omega), co_sc (by omega), co_sc (by omega), co_sp (by omega)]
  refine ⟨hg.p.same0 (fun q j hq x y z => U q j hq x (by omega) (by omega)) (fun q hq => by rw [U q 4 hq (by omega) (by omega) (by omega)]; exact hg.p.vl q hq) (fun q j x y z => V q j x y (by omega) (by omega)), hg.n.same0 V (T _ (by omega)) (T _ (by omega)), hg.c.goout hc hi ⟨hk.h0, hk.h1⟩ ?_ ?_ ?_ (fun d j hd z x y => C d j hd (Or.inl z) x y) (fun q hq => ⟨U q 0 hq (by omega) (by omega) (by omega), U q 1 hq (by omega) (by omega) (by omega), U q 2 hq (by omega) (by omega) (by omega), U q 5 hq (by omega) (by omega) (by omega), fun z => U q 6 hq (by omega) (by omega) (Or.inl z)⟩) (fun q x y => ⟨V q 0 x y (by omega) (by omega), V q 5 x y (by omega) (by omega)⟩), hg.s.same S (fun q j hq x y => U q j hq (by omega) y (by omega)) (fun q j x y z => V q j x y (by omega) (by omega)) ⟨hg.n.v0.1, hg.n.s0.1⟩ (T _ (by omega)) (T _ (by omega))⟩
  · rw [C c 0 hc (by omega) (by omega) (by omega)]; exact hg.c.reg c hc
  · unfold outG
    rw [co_sc (by omega), co_sc (by omega), co_sc (by omega), co_s]
  · unfold outG
    rw [co_s]
theorem G_6 (hg : GW P g n) (hk : MPok P) (hn : n + 1 ≤ 100000) {c : Int} (hw : whyLeaveG P g c = -1) : GW P (leaveG g c) n := G_out hg hk hn (W_leave hw).1 (W_leave hw).2
theorem G_7 (hg : GW P g n) (hk : MPok P) (hn : n + 1 ≤ 100000) {c : Int} (hw : whyLeaveG P g c = -1) : GW P (trapG g c) n := by
  have p1 := hk.p1
  have c1 := hk.c1
  have w := W_leave hw
  have b := (hg.c.ins c w.1 w.2).2.1.1
  have G1 := G_regn (G_valn hg hk hn b (hg.c.reg c w.1)) hk hn (v := 0) w.1 (by omega)
  have e : ∀ j, 1 ≤ j → j < 5 → co (sc (sp g (co g c 2) 4 (co g c 0)) c 0 0) c j = co g c j := fun j x y => by rw [co_sc (by omega), co_sp (by omega)]
  have G2 := G_out (w := 2) G1 hk hn w.1 (by rw [e 1 (by omega) (by omega)]; exact w.2)
  rw [e 2 (by omega) (by omega)] at G2
  have e2 : sp (sc (sp g (co g c 2) 4 (co g c 0)) c 0 0) (co g c 2) 6 2 = sc (sp (sp g (co g c 2) 6 2) (co g c 2) 4 (co g c 0)) c 0 0 := by
    unfold sp sc
    rw [put_comm (i := 202 + 11 * c + 0) (by omega), put_comm (i := 11 * co g c 2 + 4) (by omega)]
  rw [e2] at G2
  exact G2
theorem G_sees (hg : GW P g n) (hk : MPok P) {c a p : Int} (hc : isCo P c) (hi : co g c 1 ≠ -1) (hp : isPg P p) (h0 : pg g p 0 = 2) (h1 : pg g p 1 = co g c 1) (h2 : pg g p 2 = a) (h5 : pg g p 5 = -1) : GW P (seesG P g c a p) n := by
  have p1 := hk.p1
  have c1 := hk.c1
  have nh := hg.n.nh (by omega)
  have nh3 := hk.h1
  have ct := hg.c.cnt c hc
  have O : ∀ x, ¬ (202 + 11 * c ≤ x ∧ x < 202 + 11 * c + 11) → seesG P g c a p x = g x := by
    intro x hx
    unfold seesG see3
    split
    · rw [sc_o hx (by omega) (by omega), sc_o hx (by omega) (by omega), sc_o hx (by omega) (by omega), shF_o hx _ _ _ (by omega) (by omega)]
    · rw [sc_o hx (by omega) (by omega), sc_o hx (by omega) (by omega), sc_o hx (by omega) (by omega)]
  have V : ∀ q j, 0 ≤ q → q < 4 → 0 ≤ j → j < 23 → rm (seesG P g c a p) q j = rm g q j := fun q j x y z t => O _ (by omega)
  have U : ∀ q j, isPg P q → 0 ≤ j → j < 11 → pg (seesG P g c a p) q j = pg g q j := fun q j hq x y => O _ (by omega)
  refine ⟨hg.p.same0 (fun q j hq x y z => U q j hq x (by omega)) (fun q hq => by rw [U q 4 hq (by omega) (by omega)]; exact hg.p.vl q hq) (fun q j x y z => V q j x y (by omega) (by omega)), hg.n.same0 V (O _ (by omega)) (O _ (by omega)), hg.c.sees hc hi hp h0 h1 h2 h5 nh3 (fun j x y => ?_) ?_ (fun i x y => ?_) (fun d j hd z x y => O _ (by omega)) U V, hg.s.same (fun d j x y z t => O _ (by omega)) (fun q j hq x y => U q j hq (by omega) y) (fun q j x y z => V q j x y (by omega) (by omega)) ⟨hg.n.v0.1, hg.n.s0.1⟩ (O _ (by omega)) (O _ (by omega))⟩
  · unfold seesG see3
    split
    · rw [co_sc (by omega), co_sc (by omega), co_sc (by omega), co_shF _ _ _ (by omega) (by omega) j x (by omega) (Or.inr (by omega)) hc.1 (by omega) hc.1 (by omega)]
    · rw [co_sc (by omega), co_sc (by omega), co_sc (by omega)]
  · unfold seesG see3
    split
    · rw [co_s]; omega
    · rw [co_s]; omega
  · by_cases hq : co g c 4 = P.nh
    · have e : seesG P g c a p = see3 (shF c (2 * P.nh - 2).toNat 2 g) c (P.nh - 1) a p := if_pos hq
      rw [e] at y ⊢
      unfold see3 at y ⊢
      rw [co_s] at y
      rw [co_sc (by omega), co_sc (by omega)]
      by_cases z : i = P.nh - 1
      · right
        subst z
        rw [co_s, co_sc (by omega), show 6 + 2 * (P.nh - 1) = 5 + 2 * (P.nh - 1) + 1 by omega, co_s]
        exact ⟨rfl, rfl⟩
      · left
        refine ⟨i + 1, by omega, by omega, ?_⟩
        rw [co_sc (by omega), co_sc (by omega), co_sc (by omega), co_sc (by omega), co_shF_at _ _ _ (2 * i) (by omega) (by omega) (by omega) (by omega), show 6 + 2 * i = 5 + (2 * i + 1) by omega, co_shF_at _ _ _ (2 * i + 1) (by omega) (by omega) (by omega) (by omega)]
        exact ⟨congrArg _ (by omega), congrArg _ (by omega)⟩
    · have e : seesG P g c a p = see3 g c (co g c 4) a p := if_neg hq
      rw [e] at y ⊢
      unfold see3 at y ⊢
      rw [co_s] at y
      rw [co_sc (by omega), co_sc (by omega)]
      by_cases z : i = co g c 4
      · right
        subst z
        rw [co_s, co_sc (by omega), show 6 + 2 * co g c 4 = 5 + 2 * co g c 4 + 1 by omega, co_s]
        exact ⟨rfl, rfl⟩
      · left
        refine ⟨i, x, by omega, ?_⟩
        rw [co_sc (by omega), co_sc (by omega), co_sc (by omega), co_sc (by omega)]
        exact ⟨rfl, rfl⟩
theorem G_9 (hg : GW P g n) (hk : MPok P) (hn : n + 1 ≤ 100000) {c a h : Int} (hw : whyTouchG P g c a h = -1) : GW P (touch2 (touch1 P g c a) c (touchedG g c a) h) n := by
  have w := W_touch hw
  have tp := touched_pg hg hw
  have G1 : GW P (touch1 P g c a) n := by
    unfold touch1
    split
    · rename_i hs
      rcases w.2.2.2.2.2.1 with z | z
      · exact absurd hs z
      · exact G_sees hg hk w.1 w.2.2.2.1 tp z.2.2 z.1.2.2.1 z.1.2.2.2 z.2.1
    · exact hg
  have rg := G1.c.reg c w.1
  have vl := G1.p.vl _ tp
  unfold touch2
  split
  · exact G_valn G1 hk hn tp rg
  · refine G_regn G1 hk hn w.1 ?_
    unfold touchV
    rename_i h1
    rw [if_neg h1]
    split
    · exact vl
    · have ex : wr (wr (7 * co (touch1 P g c a) c 0) + pg (touch1 P g c a) (touchedG g c a) 4) = 7 * co (touch1 P g c a) c 0 + pg (touch1 P g c a) (touchedG g c a) 4 := by
        rw [wr_id (x := 7 * co (touch1 P g c a) c 0) (by omega), wr_id (by omega)]
      rw [ex, i_rem_eq ⟨by omega, by omega⟩ (by omega) (by omega), Int.tmod_eq_emod_of_nonneg (by omega)]
      omega
theorem G_1 (hg : GW P g n) (hk : MPok P) (hn : n + 1 ≤ 100000) (hw : whySlotsG P g = -1) : GW P (sp (clearG g (fPage P g)) (fPage P g) 0 4) (n + 1) := by
  have p1 := hk.p1
  have c1 := hk.c1
  have w := W_slots hw
  have f := fPage_in P g hk.p0
  generalize fPage P g = p at f w
  have ok : OKR p p 1000 1000 1000 := by
    unfold OKR
    omega
  have E : EF g (sp (clearG g p) p 0 4) p p 1000 1000 1000 := by
    (repeat' (first | exact EF.rf _ _ _ _ _ _ | refine EF.sp ?_ (by omega) | refine EF.sr ?_ (by omega) | refine EF.sc ?_ (by omega) | refine EF.sy ?_ (by omega) | refine EF.cl ?_ (by omega) | refine EF.put ?_ (by omega)))
  have V : ∀ q j, 0 ≤ q → q < 4 → 0 ≤ j → j < 23 → rm (sp (clearG g p) p 0 4) q j = rm g q j := fun q j x y z t => E.rm ok x y z t (by omega)
  have C : ∀ d j, isCo P d → 0 ≤ j → j < 11 → co (sp (clearG g p) p 0 4) d j = co g d j := fun d j hd x y => E.co ok hd.1 (by omega) x y (by omega)
  have U : ∀ q j, isPg P q → 0 ≤ j → j < 11 → q ≠ p → pg (sp (clearG g p) p 0 4) q j = pg g q j := fun q j hq x y z => E.pg ok hq.1 (by omega) x y z z
  have h34 : sp (clearG g p) p 0 4 343 = g 343 ∧ sp (clearG g p) p 0 4 344 = g 344 := by
    constructor <;> rw [at_sp (by omega), at_clear (by omega)]
  have pk : ∀ j, 1 ≤ j → j < 11 → pg (sp (clearG g p) p 0 4) p j = if j = 1 ∨ j = 2 ∨ j = 5 then -1 else 0 := fun j x y => by rw [pg_sp (by omega), pg_clear_s (by omega)]
  have nb : ∀ d, isCo P d → co g d 1 ≠ -1 → co g d 2 ≠ p := fun d hd z e => by have := (hg.c.ins d hd z).2.1.2.1; rw [e] at this; omega
  have ns : ∀ d i, isCo P d → 0 ≤ i → i < co g d 4 → co g d (6 + 2 * i) ≠ p := fun d i hd x y e => by have := (hg.c.see d i hd x y).2.2.1; rw [e] at this; omega
  refine ⟨hg.p.slots (p := p) (by omega) (by omega) pg_s (pk 1 (by omega) (by omega)) (pk 2 (by omega) (by omega)) (pk 4 (by omega) (by omega)) (pk 5 (by omega) (by omega)) (fun q hq z => ⟨U q 0 hq (by omega) (by omega) z, U q 1 hq (by omega) (by omega) z, U q 2 hq (by omega) (by omega) z, U q 4 hq (by omega) (by omega) z, U q 5 hq (by omega) (by omega) z⟩) (fun q x y => ⟨V q 0 x y (by omega) (by omega), V q 2 x y (by omega) (by omega), V q 3 x y (by omega) (by omega), V q 5 x y (by omega) (by omega), V q 6 x y (by omega) (by omega)⟩) (fun q b x y z t => V q _ x y (by omega) (by omega)), hg.n.same hn V (Or.inl h34.1) (Or.inl h34.2), hg.c.keep (fun d j hd x y => C d j hd (by omega) y) (fun d hd => by rw [C d 0 hd (by omega) (by omega)]; exact hg.c.reg d hd) hk.h1 (fun d hd z => ?_) (fun d i hd x y => ?_) (fun d hd z => ?_), hg.s.keep (r0 := 1000) (fun d x y => ?_) (fun d hd => ⟨d, ?_⟩) (fun q s hq k4 x y => ?_) (fun q hq => ?_) ⟨hg.n.v0.1, hg.n.s0.1⟩ h34.1 (by omega)⟩
  · have i := (hg.c.ins d hd z).2.1.1
    have e := nb d hd z
    exact ⟨U _ 0 i (by omega) (by omega) e, U _ 1 i (by omega) (by omega) e, U _ 6 i (by omega) (by omega) e⟩
  · have i' := (hg.c.see d i hd x y).2.1
    have e := ns d i hd x y
    exact ⟨U _ 0 i' (by omega) (by omega) e, U _ 1 i' (by omega) (by omega) e, U _ 2 i' (by omega) (by omega) e, Or.inl (U _ 5 i' (by omega) (by omega) e)⟩
  · have i := (hg.c.ins d hd z).1
    rw [V _ 5 i.1.1 i.1.2 (by omega) (by omega)]
    exact ⟨⟨i.1, by rw [V _ 0 i.1.1 i.1.2 (by omega) (by omega)]; exact i.2⟩, Int.le_refl _⟩
  · rw [E.cp ok x y (by omega) (by omega) (by omega)]; exact hg.s.cfl d x y
  · have e := fun j a b => E.cp ok (j := j) hd.1.1 hd.1.2 a b (by omega)
    have z : isCp g d := ⟨hd.1, by rw [← e 0 (by omega) (by omega)]; exact hd.2⟩
    have cy := hg.s.cy d z
    rw [e 1 (by omega) (by omega), e 2 (by omega) (by omega), e 3 (by omega) (by omega), e 7 (by omega) (by omega), e 5 (by omega) (by omega), e 8 (by omega) (by omega)]
    exact ⟨z, rfl, rfl, rfl, rfl, cy.2.2.2.1, cy.2.2.2.2.1⟩
  · by_cases e : q = p
    · right
      rw [e, pk _ (by omega) (by omega), if_neg (by omega)]
    · rw [U q 0 hq (by omega) (by omega) e] at k4
      exact Or.inl ⟨k4, U q _ hq (by omega) (by omega) e⟩
  · have z : isRm g q := ⟨hq.1, by rw [← V q 0 hq.1.1 hq.1.2 (by omega) (by omega)]; exact hq.2⟩
    rw [V q 1 hq.1.1 hq.1.2 (by omega) (by omega), V q 2 hq.1.1 hq.1.2 (by omega) (by omega), V q 6 hq.1.1 hq.1.2 (by omega) (by omega)]
    exact Or.inl ⟨z, rfl, rfl, fun w => w, fun b b0 b1 w => by rw [V q _ hq.1.1 hq.1.2 (by omega) (by omega)]; exact w⟩
end GDP
