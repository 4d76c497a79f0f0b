/-! the component's acts: touch; all acts -/
abbrev SAc (k : Int) : Nat → Int → Int → Prop := fun t k' _ => k' = k ∧ 11 ≤ t ∧ t ≤ 29
theorem W_Ac {k : Int} : ∀ t k' i, SWd k t k' i → SAc k t k' i := fun t k' i z => ⟨z.1, by have := z.2; omega⟩
theorem RX.keepo {σ σ' : ST} {k : Int} {P : MP} {g : Int → Int} (h : RX σ k P g) (o : ∀ (t : Nat) (i s : Int), 12 ≤ t → t ≤ 29 → σ' t k i s = σ t k i s) : RX σ' k P g := by
  refine ⟨?_, h.2⟩
  have hw := h.1
  unfold RW
  rw [o 12 0 0 (by omega) (by omega), o 12 0 1 (by omega) (by omega), o 12 0 2 (by omega) (by omega), o 12 0 3 (by omega) (by omega), o 12 0 4 (by omega) (by omega)]
  refine ⟨hw.ok, hw.np, hw.nc, hw.nh, hw.ver, hw.ser, fun q a b => ?_, fun q a b => ?_, fun q a b => ?_, fun q a b => ?_, ?_⟩
  · exact (hw.pg q a b).same (fun s => o 14 q s (by omega) (by omega)) (fun s => o 15 q s (by omega) (by omega)) (fun j x y => rfl)
  · exact (hw.rm q a b).same (fun s => o 17 q s (by omega) (by omega)) (fun s => o 18 q s (by omega) (by omega)) (fun s => o 19 q s (by omega) (by omega)) (fun j x y => rfl)
  · exact (hw.co q a b).same (h.2 q ⟨a, b⟩) (fun s => o 21 q s (by omega) (by omega)) (fun s => o 22 q s (by omega) (by omega)) (fun s => o 23 q s (by omega) (by omega)) (fun j x y => rfl)
  · exact (hw.cp q a b).same (fun s => o 25 q s (by omega) (by omega)) (fun j x y => rfl)
  · have l := hw.lg
    unfold RLg
    rw [o 26 0 0 (by omega) (by omega), o 26 0 1 (by omega) (by omega)]
    refine ⟨l.len, l.l0, l.l1, l.n0, l.n1, fun i x y => ?_⟩
    rw [o 27 0 _ (by omega) (by omega), o 28 0 _ (by omega) (by omega), o 29 0 _ (by omega) (by omega)]
    exact l.row i x y
section TOU
variable {σ s : ST} {k : Int} {P : MP} {g f : Int → Int} {n : Int}
theorem D_touch {c p h : Int} (H : RX s k P f) (hc : isCo P c) (hp : isPg P p) (h0 : 0 ≤ h) (hr : 0 ≤ co f c 0 ∧ co f c 0 ≤ 999) (hv : 0 ≤ pg f p 4 ∧ pg f p 4 ≤ 999) (o0 o1 o2 o5 o6 o7 : Option AV) {F : Int → ST → Prop} (K : ∀ t, Off (SWd k) s t → RX t k P (touch2 f c p h) → F (touchV f c p h) t) : wp m_Acts_touchPage (237, [o0, o1, o2, some (.inl h), some (kk k c), o5, o6, o7, some (pp k p)], [], s) (asI F) := by
  have z1 := (H.1.co c hc.1 hc.2).reg
  have x5 := (H.1.pg p hp.1 hp.2).val
  refine T_Acts_touchPage_237 _ _ _ _ _ _ _ _ _ _ _ _ _ ?_
  unfold touch2 touchV at K
  rw [z1, x5]
  by_cases e1 : h = 1
  · subst e1
    rw [if_pos rfl, if_pos rfl] at K
    refine And.intro (fun _ => And.intro (fun q => absurd rfl q) (fun _ => ?_)) (fun q => absurd (show (1 : Int) ≠ 0 by decide) q)
    have := K _ (Off_up (Off_refl _ _) ⟨rfl, by omega⟩) (H.val (v := co f c 0) hp)
    show F _ _
    rw [up_o (by decide), z1]
    exact this
  · rw [if_neg e1, if_neg e1] at K
    by_cases e2 : h = 0
    · subst e2
      rw [if_pos rfl] at K
      refine And.intro (fun q => absurd rfl q) (fun _ => ?_)
      have := K _ (Off_up (Off_refl _ _) ⟨rfl, by omega⟩) (H.reg (v := pg f p 4) hc)
      show F _ _
      rw [up_s, if_pos rfl]
      exact this
    · rw [if_neg e2] at K
      refine And.intro (fun _ => And.intro (fun _ => ?_) (fun q => absurd e1 q)) (fun q => absurd e2 q)
      have ex : wr (wr (7 * co f c 0) + pg f p 4) = 7 * co f c 0 + pg f p 4 := by
        rw [wr_id (x := 7 * co f c 0) (by omega), wr_id (by omega)]
      rw [ex] at K ⊢
      have e3 := i_rem_eq (x := 7 * co f c 0 + pg f p 4) (y := 1000) ⟨by omega, by omega⟩ (by omega) (by omega)
      have e4 : (7 * co f c 0 + pg f p 4).tmod 1000 = (7 * co f c 0 + pg f p 4) % 1000 := Int.tmod_eq_emod_of_nonneg (by omega)
      rw [e3, e4] at K
      refine PU.I (P_floorMod ⟨by omega, by omega⟩ (by omega) (by omega) s) ?_
      have := K _ (Off_up (Off_refl _ _) ⟨rfl, by omega⟩) (H.reg (v := (7 * co f c 0 + pg f p 4) % 1000) hc)
      show F _ _
      rw [up_s, if_pos rfl]
      exact this
theorem C_A_touch (hw : RW σ k P g) (hg : GW P g n) (c a h : Int) {F : Int → ST → Prop} (K : ACK σ k P (whyTouchG P g c a h) (touch2 (touch1 P g c a) c (touchedG g c a) h) (touchV (touch1 P g c a) c (touchedG g c a) h) F) : wpM m_Acts_touchPage [aa k, .inl c, .inl a, .inl h] σ (asI F) := by
  have H := hg.x hw
  have p1 := hw.ok.p1
  have c1 := hw.ok.c1
  refine T_Acts_touchPage _ _ _ _ _ _ _ ?_
  by_cases hc : isCo P c
  · by_cases ha : (0 ≤ a ∧ a < 8) ∧ (0 ≤ h ∧ h ≤ 2)
    · have z := hw.co c hc.1 hc.2
      have z2 := z.room
      have e4 : PU m_World_isRoom [ww k, .inl (σ 21 k c 1)] σ (b2 (isRm g (co g c 1))) := by
        rw [z2]
        exact P_W_isRoom hw _
      by_cases hi : co g c 1 = -1
      · (repeat' (first | (refine And.intro ?_ ?_) | (intro hzq; simp only [b2_e0, b2_e1, Classical.not_not, ne_eq] at hzq) | (intro hzq) | exact Or.inl rfl | exact Or.inr rfl | refine PU.I (P_W_isCore hw _) ?_ | refine PU.I (e4) ?_)) <;> try omega
        all_goals (try exact K.no (by unfold whyTouchG; (repeat' split) <;> first | rfl | omega) (by omega))
      · have i := hg.c.ins c hc hi
        have hr := i.1
        have f1 := hg.p.rf _ hr
        have ct := hg.c.cnt c hc
        have rg := hg.c.reg c hc
        have y := (hw.rm _ hr.1.1 hr.1.2).y hr.2
        have e5 : PU m_Room_hasAddress [rr k (σ 21 k c 1), .inl a] σ (b2 (0 ≤ a ∧ a < rm g (co g c 1) 2)) := by
          rw [z2]
          exact P_R_hasAddress y f1.1.2 _
        by_cases hb : a < rm g (co g c 1) 2
        · have y8 : σ 19 k (σ 21 k c 1) a = rm g (co g c 1) (15 + a) - 1 := by
            rw [z2]
            exact y.map a ha.1.1 ha.1.2
          have sg := sight_in g c a
          have e6 := P_C_seenAt z ct.1 (by have := hw.ok.h1; omega) a
          have go : ∀ (t : Int) (oo o1 o8 : Option AV), (sightG g c a ≠ -1 → t = 1) → (sightG g c a = -1 → t = 0) → wp m_Acts_touchPage (138, [some (aa k), o1, some (.inl a), some (.inl h), some (kk k c), some (.inl (σ 21 k c 1)), some (.inl (touchedG g c a)), some (.inl t), o8], [], σ) (asI F) := by
            intro t oo o1 o8 t1 t0
            refine T_Acts_touchPage_138 _ _ _ _ _ _ _ _ _ _ _ _ _ ?_
            have e7 : PU m_World_isPageOf [ww k, .inl (touchedG g c a), .inl (σ 21 k c 1), .inl a] σ (b2 (isPg P (touchedG g c a) ∧ a ≠ -1 ∧ pg g (touchedG g c a) 1 = co g c 1 ∧ pg g (touchedG g c a) 2 = a)) := by
              rw [z2]
              exact P_W_isPageOf hw _ _ _
            have sk : sightG g c a ≠ -1 → isPg P (touchedG g c a) ∧ a ≠ -1 ∧ pg g (touchedG g c a) 1 = co g c 1 ∧ pg g (touchedG g c a) 2 = a ∧ pg g (touchedG g c a) 0 = 2 := by
              intro hs
              have hq := hg.c.see c (sightG g c a) hc (by omega) (by omega)
              have e : touchedG g c a = co g c (6 + 2 * sightG g c a) := if_neg hs
              rw [e]
              exact ⟨hq.2.1, by omega, hq.2.2.2.1, by rw [hq.2.2.2.2.1]; omega, hq.2.2.1⟩
            have nk := hg.p.no (touchedG g c a)
            by_cases hp : isPg P (touchedG g c a)
            · have x := hw.pg _ hp.1 hp.2
              have x1 := x.kind
              have x4 := x.rig
              have x6 := bz_iff x.blk
              have vl := hg.p.vl _ hp
              have rt : i_and (σ 14 k (touchedG g c a) 3) (i_shl 1 h) ≠ 0 ↔ i_and (i_shr (pg g (touchedG g c a) 3) h) 1 = 1 := by
                rw [x4]
                exact rgt ha.2.1 ha.2.2
              have go2 : ∀ (o1 o5 : Option AV), pg g (touchedG g c a) 1 = co g c 1 → pg g (touchedG g c a) 2 = a → (sightG g c a = -1 → pg g (touchedG g c a) 5 = -1 ∧ pg g (touchedG g c a) 0 = 2) → wp m_Acts_touchPage (199, [some (aa k), o1, some (.inl a), some (.inl h), some (kk k c), o5, some (.inl (touchedG g c a)), some (.inl t), some (pp k (touchedG g c a))], [], σ) (asI F) := by
                intro o1 o5 q1 q2 q3
                refine T_Acts_touchPage_199 _ _ _ _ _ _ _ _ _ _ _ _ _ _ ?_
                refine And.intro (fun hb2 => ?_) (fun hb2 => ?_)
                · have hy : whyTouchG P g c a h = -1 := by
                    have := rt.mp hb2
                    unfold whyTouchG
                    (repeat' split) <;> first | rfl | omega
                  have K2 := K.2 hy
                  by_cases hs : sightG g c a = -1
                  · have e8 : touch1 P g c a = seesG P g c a (touchedG g c a) := if_pos hs
                    rw [e8] at K2
                    have t00 := t0 hs
                    refine And.intro (fun q => absurd t00 q) (fun _ => ?_)
                    refine C_see H hc ct.1 ct.2 (hg.n.nh (by omega)) (fun s1 o1 R1 => ?_)
                    have so : Off (SWd k) σ s1 := Off_sub o1 (fun t k' i z => ⟨z.2.1, by have := z.1; omega⟩)
                    have h1 : co (seesG P g c a (touchedG g c a)) c 0 = co g c 0 := by
                      have := hw.ok.h1
                      unfold seesG see3
                      split
                      · rw [co_sc (by omega), co_sc (by omega), co_sc (by omega), co_shF _ _ _ (by omega) (by omega) 0 (by omega) (by omega) (Or.inr (by omega)) hc.1 (by omega) hc.1 (by omega)]
                      · rw [co_sc (by omega), co_sc (by omega), co_sc (by omega)]
                    have h2 : pg (seesG P g c a (touchedG g c a)) (touchedG g c a) 4 = pg g (touchedG g c a) 4 := by
                      have := hw.ok.h1
                      unfold seesG see3
                      split
                      · rw [pg_sc (by omega), pg_sc (by omega), pg_sc (by omega)]
                        exact shF_o (by omega) _ _ _ (by omega) (by omega)
                      · rw [pg_sc (by omega), pg_sc (by omega), pg_sc (by omega)]
                    exact D_touch R1 hc hp ha.2.1 (by rw [h1]; exact rg) (by rw [h2]; exact vl) _ _ _ _ _ _ (fun t o r => K2 t (Off_cat so o) r.1)
                  · have e8 : touch1 P g c a = g := if_neg hs
                    rw [e8] at K2
                    have t11 := t1 hs
                    refine And.intro (fun _ => ?_) (fun q => absurd (show t ≠ 0 by omega) q)
                    exact D_touch H hc hp ha.2.1 rg vl _ _ _ _ _ _ (fun t o r => K2 t o r.1)
                · have hb3 : ¬ (i_and (i_shr (pg g (touchedG g c a) 3) h) 1 = 1) := fun q => hb2 (rt.mpr q)
                  exact K.no (by unfold whyTouchG; (repeat' split) <;> first | rfl | omega) (by omega)
              clear rt rg vl ct
              (repeat' (first | (refine And.intro ?_ ?_) | (intro hzq; simp only [b2_e0, b2_e1, Classical.not_not, ne_eq] at hzq) | (intro hzq) | exact Or.inl rfl | exact Or.inr rfl | refine PU.I (e7) ?_ | exact go2 _ _ (by omega) (by omega) (by omega))) <;> try omega
              all_goals (try exact K.no (by unfold whyTouchG; (repeat' split) <;> first | rfl | omega) (by omega))
            · (repeat' (first | (refine And.intro ?_ ?_) | (intro hzq; simp only [b2_e0, b2_e1, Classical.not_not, ne_eq] at hzq) | (intro hzq) | exact Or.inl rfl | exact Or.inr rfl | refine PU.I (e7) ?_)) <;> try omega
              all_goals (try exact K.no (by unfold whyTouchG; (repeat' split) <;> first | rfl | omega) (by omega))
          have go3 : ∀ (t x : Int) (o1 o7 o8 : Option AV), (sightG g c a ≠ -1 → t = 1 ∧ x = touchedG g c a) → (sightG g c a = -1 → t = 0) → wp m_Acts_touchPage (114, [some (aa k), o1, some (.inl a), some (.inl h), some (kk k c), some (.inl (σ 21 k c 1)), some (.inl x), o7, o8], [.inl t], σ) (asI F) := by
            intro t x o1 o7 o8 t1 t0
            refine T_Acts_touchPage_114 _ _ _ _ _ _ _ _ _ _ _ _ _ _ ?_
            by_cases hs : sightG g c a = -1
            · have := t0 hs
              refine And.intro (fun q => absurd this q) (fun _ => And.intro (by omega) (And.intro (by omega) ?_))
              have e : touchedG g c a = rm g (co g c 1) (15 + a) - 1 := if_pos hs
              rw [y8, ← e]
              exact go t none _ _ (fun q => (t1 q).1) t0
            · have := t1 hs
              refine And.intro (fun _ => ?_) (fun q => absurd (show t ≠ 0 by omega) q)
              rw [this.2]
              exact go t none _ _ (fun q => (t1 q).1) t0
          by_cases hs : sightG g c a = -1
          · rw [if_pos hs] at e6
            (repeat' (first | (refine And.intro ?_ ?_) | (intro hzq; simp only [b2_e0, b2_e1, Classical.not_not, ne_eq] at hzq) | (intro hzq) | exact Or.inl rfl | exact Or.inr rfl | refine PU.I (P_W_isCore hw _) ?_ | refine PU.I (e4) ?_ | refine PU.I (e5) ?_ | refine PU.I (e6) ?_ | exact go3 0 _ _ _ _ (fun q => absurd hs q) (fun _ => rfl))) <;> try omega
            all_goals (exact absurd True.intro (by assumption))
          · rw [if_neg hs] at e6
            have e : touchedG g c a = co g c (6 + 2 * sightG g c a) := if_neg hs
            have hq := (hg.c.see c (sightG g c a) hc (by omega) (by omega)).2.1
            (repeat' (first | (refine And.intro ?_ ?_) | (intro hzq; simp only [b2_e0, b2_e1, Classical.not_not, ne_eq] at hzq) | (intro hzq) | exact Or.inl rfl | exact Or.inr rfl | refine PU.I (P_W_isCore hw _) ?_ | refine PU.I (e4) ?_ | refine PU.I (e5) ?_ | refine PU.I (e6) ?_ | exact go3 1 _ _ _ _ (fun _ => ⟨rfl, e.symm⟩) (fun q => absurd q hs))) <;> try omega
        · (repeat' (first | (refine And.intro ?_ ?_) | (intro hzq; simp only [b2_e0, b2_e1, Classical.not_not, ne_eq] at hzq) | (intro hzq) | exact Or.inl rfl | exact Or.inr rfl | refine PU.I (P_W_isCore hw _) ?_ | refine PU.I (e4) ?_ | refine PU.I (e5) ?_)) <;> try omega
          all_goals (try exact K.no (by unfold whyTouchG; (repeat' split) <;> first | rfl | omega) (by omega))
    · (repeat' (first | (refine And.intro ?_ ?_) | (intro hzq; simp only [b2_e0, b2_e1, Classical.not_not, ne_eq] at hzq) | (intro hzq) | exact Or.inl rfl | exact Or.inr rfl | refine PU.I (P_W_isCore hw _) ?_)) <;> try omega
      all_goals (try exact K.no (by unfold whyTouchG; (repeat' split) <;> first | rfl | omega) (by omega))
  · (repeat' (first | (refine And.intro ?_ ?_) | (intro hzq; simp only [b2_e0, b2_e1, Classical.not_not, ne_eq] at hzq) | (intro hzq) | exact Or.inl rfl | exact Or.inr rfl | refine PU.I (P_W_isCore hw _) ?_)) <;> try omega
    all_goals (try exact K.no (by unfold whyTouchG; (repeat' split) <;> first | rfl | omega) (by omega))
theorem C_A_do (H : RX σ k P g) (hg : GW P g n) {t a b c d e : Int} (h0 : 0 ≤ t) (h1 : t ≤ 19) {F : Int → ST → Prop} (K : ∀ s v, Off (SAc k) σ s → (whyG P g t a b c d e ≠ -1 → s 11 k 0 1 = whyG P g t a b c d e ∧ RX s k P g) → (whyG P g t a b c d e = -1 → s 11 k 0 1 = -1 ∧ RW s k P (doG P g t a b c d e) ∧ v = ansG P g t a b c d e) → F v s) : wpM m_Acts_carryOut [aa k, .inl t, .inl a, .inl b, .inl c, .inl d, .inl e] σ (asI F) := by
  have H1 : RX (up σ 11 k 0 1 (-1)) k P g := H.keepo (fun t i s x y => up_o (by omega))
  have hw := H1.1
  have A : ∀ w g' an, whyG P g t a b c d e = w → doG P g t a b c d e = g' → ansG P g t a b c d e = an → ACK (up σ 11 k 0 1 (-1)) k P w g' an F := by
    intro w g' an e1 e2 e3
    subst e1 e2 e3
    refine ⟨fun hn => K _ _ (Off_up (Off_up (Off_refl _ _) ⟨rfl, by omega⟩) ⟨rfl, by omega⟩) (fun _ => ⟨by rw [up_s, if_pos rfl], H1.keepo (fun t i s x y => up_o (by omega))⟩) (fun z => absurd z hn), fun hy s o r => K s _ (Off_cat (Off_up (Off_refl _ _) ⟨rfl, by omega⟩) (Off_sub o W_Ac)) (fun z => absurd hy z) (fun _ => ⟨?_, r, rfl⟩)⟩
    rw [o 11 k 0 1 (fun z => by have := z.2; omega), up_s, if_pos rfl]
  refine T_Acts_carryOut _ _ _ _ _ _ _ _ _ _ ?_
  refine And.intro (fun h => ?_) (fun n0 => ?_)
  · subst h; exact C_A_create hw hg _ (A _ _ _ whyG_0 doG_0 ansG_0)
  refine And.intro (fun h => ?_) (fun n1 => ?_)
  · subst h; exact C_A_slots hw hg (A _ _ _ whyG_1 doG_1 ansG_1)
  refine And.intro (fun h => ?_) (fun n2 => ?_)
  · subst h; exact C_A_add hw hg _ _ _ _ _ (A _ _ _ whyG_2 doG_2 ansG_2)
  refine And.intro (fun h => ?_) (fun n3 => ?_)
  · subst h; exact C_A_extend hw hg _ _ (A _ _ _ whyG_3 doG_3 ansG_3)
  refine And.intro (fun h => ?_) (fun n4 => ?_)
  · subst h; exact C_A_seal hw hg _ _ (A _ _ _ whyG_4 doG_4 ansG_4)
  refine And.intro (fun h => ?_) (fun n5 => ?_)
  · subst h; exact C_A_in hw hg _ _ _ _ (Or.inl rfl) (fun _ => A _ _ _ whyG_5 doG_5 ansG_5) (fun z => absurd z (by omega))
  refine And.intro (fun h => ?_) (fun n6 => ?_)
  · subst h; exact C_A_leave hw hg _ (A _ _ _ whyG_6 doG_6 ansG_6)
  refine And.intro (fun h => ?_) (fun n7 => ?_)
  · subst h; exact C_A_trap hw hg _ (A _ _ _ whyG_7 doG_7 ansG_7)
  refine And.intro (fun h => ?_) (fun n8 => ?_)
  · subst h; exact C_A_in hw hg _ _ _ _ (Or.inr rfl) (fun z => absurd z (by omega)) (fun _ => A _ _ _ whyG_8 doG_8 ansG_8)
  refine And.intro (fun h => ?_) (fun n9 => ?_)
  · subst h; exact C_A_touch hw hg _ _ _ (A _ _ _ whyG_9 doG_9 ansG_9)
  refine And.intro (fun h => ?_) (fun n10 => ?_)
  · subst h; exact C_A_block hw hg _ (A _ _ _ whyG_10 doG_10 ansG_10)
  refine And.intro (fun h => ?_) (fun n11 => ?_)
  · subst h; exact C_A_track hw hg _ (A _ _ _ whyG_11 doG_11 ansG_11)
  refine And.intro (fun h => ?_) (fun n12 => ?_)
  · subst h; exact C_A_evict hw hg _ _ _ (A _ _ _ whyG_12 doG_12 ansG_12)
  refine And.intro (fun h => ?_) (fun n13 => ?_)
  · subst h; exact C_A_load hw hg _ _ _ (A _ _ _ whyG_13 doG_13 ansG_13)
  refine And.intro (fun h => ?_) (fun n14 => ?_)
  · subst h; exact C_A_remove hw hg _ (A _ _ _ whyG_14 doG_14 ansG_14)
  refine And.intro (fun h => ?_) (fun n15 => ?_)
  · subst h; exact C_A_map hw hg _ _ _ (A _ _ _ whyG_15 doG_15 ansG_15)
  refine And.intro (fun h => ?_) (fun n16 => ?_)
  · subst h; exact C_A_double hw hg _ (A _ _ _ whyG_16 doG_16 ansG_16)
  refine And.intro (fun h => ?_) (fun n17 => ?_)
  · subst h; exact C_A_change hw hg _ _ (A _ _ _ whyG_17 doG_17 ansG_17)
  refine And.intro (fun h => ?_) (fun n18 => ?_)
  · subst h; exact C_A_drop hw hg _ (A _ _ _ whyG_18 doG_18 ansG_18)
  refine And.intro (fun h => ?_) (fun n19 => absurd (show t = 19 by omega) n19)
  subst h; exact C_A_tell hw hg _ _ (A _ _ _ whyG_19 doG_19 ansG_19)
end TOU
