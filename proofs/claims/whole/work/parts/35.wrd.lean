/-! the component's readers, the rest -/
def nHere (P : MP) (g : Int → Int) (r : Int) : Int := nf (fun p => pg g p 1 = r) P.np.toNat 0 0
abbrev pp (k p : Int) : AV := .inr (.inr (14, k, p))
abbrev rr (k r : Int) : AV := .inr (.inr (17, k, r))
abbrev kk (k c : Int) : AV := .inr (.inr (21, k, c))
abbrev cc (k c : Int) : AV := .inr (.inr (25, k, c))
section WRD
variable {σ : ST} {k : Int} {P : MP} {g : Int → Int}
theorem L_W_pagesHere (hw : RW σ k P g) (r : Int) (Q : Option AV → ST → Prop) : ∀ (n : Nat) (i a : Int), i + n = P.np → 0 ≤ i → 0 ≤ a → a ≤ i → (∀ x, x = nf (fun p => pg g p 1 = r) n i a → Q (some (.inl x)) σ) → wp m_World_pagesHere (4, [some (ww k), some (.inl r), some (.inl a), some (.inl i)], [], σ) Q
  | 0, i, a, h, h0, ha, hb, hQ => by
    have e0 := hw.np
    refine T_World_pagesHere_4 _ _ _ _ _ _ _ ?_
    (repeat' (first | (refine And.intro ?_ ?_) | (intro hzq; simp only [b2_e0, b2_e1, Classical.not_not, ne_eq] at hzq) | (intro hzq) | exact Or.inl rfl | exact Or.inr rfl)) <;> try omega
    exact hQ _ rfl
  | n + 1, i, a, h, h0, ha, hb, hQ => by
    have e0 := hw.np
    have e2 := hw.ok.p1
    have e3 := (hw.pg i (by omega) (by omega)).own
    refine T_World_pagesHere_4 _ _ _ _ _ _ _ ?_
    (repeat' (first | (refine And.intro ?_ ?_) | (intro hzq; simp only [b2_e0, b2_e1, Classical.not_not, ne_eq] at hzq) | (intro hzq) | exact Or.inl rfl | exact Or.inr rfl)) <;> try omega
    all_goals (simp (disch := omega) only [wr_id]; first | exact L_W_pagesHere hw r Q n (i + 1) _ (by omega) (by omega) (by omega) (by omega) (fun x e => hQ x (by rw [e, nf_y (by omega)])) | exact L_W_pagesHere hw r Q n (i + 1) _ (by omega) (by omega) (by omega) (by omega) (fun x e => hQ x (by rw [e, nf_n (by omega)])))
theorem P_W_pagesHere (hw : RW σ k P g) (r : Int) : PU m_World_pagesHere [ww k, .inl r] σ (nHere P g r) := by
  have e1 := hw.ok.p0
  exact PU.mk fun Q hQ => T_World_pagesHere _ _ _ _ _ (L_W_pagesHere hw r Q P.np.toNat 0 0 (by omega) (by omega) (by omega) (by omega) hQ)
theorem L_W_coresInside (hw : RW σ k P g) (r s : Int) (Q : Option AV → ST → Prop) : ∀ (n : Nat) (i a : Int), i + n = P.nc → 0 ≤ i → in32 a → (∀ x, x = bf (fun c => co g c 1 = r ∧ co g c 3 ≤ s) n i a → Q (some (.inl x)) σ) → wp m_World_coresInside (5, [some (ww k), some (.inl r), some (.inl s), some (.inl a), some (.inl i)], [], σ) Q
  | 0, i, a, h, h0, ha, hQ => by
    have e0 := hw.nc
    refine T_World_coresInside_5 _ _ _ _ _ _ _ _ ?_
    (repeat' (first | (refine And.intro ?_ ?_) | (intro hzq; simp only [b2_e0, b2_e1, Classical.not_not, ne_eq] at hzq) | (intro hzq) | exact Or.inl rfl | exact Or.inr rfl)) <;> try omega
    exact hQ _ rfl
  | n + 1, i, a, h, h0, ha, hQ => by
    have e0 := hw.nc
    have e2 := hw.ok.c1
    have e3 := (hw.co i (by omega) (by omega)).room
    have e4 := (hw.co i (by omega) (by omega)).sin
    refine T_World_coresInside_5 _ _ _ _ _ _ _ _ ?_
    (repeat' (first | (refine And.intro ?_ ?_) | (intro hzq; simp only [b2_e0, b2_e1, Classical.not_not, ne_eq] at hzq) | (intro hzq) | exact Or.inl rfl | exact Or.inr rfl)) <;> try omega
    all_goals (simp (disch := omega) only [wr_id]; first | exact L_W_coresInside hw r s Q n (i + 1) _ (by omega) (by omega) (i_or_32 _ _) (fun x e => hQ x (by rw [e, bf_y (by omega)])) | exact L_W_coresInside hw r s Q n (i + 1) _ (by omega) (by omega) ha (fun x e => hQ x (by rw [e, bf_n (by omega)])))
theorem P_W_coresInside (hw : RW σ k P g) (r s : Int) : PU m_World_coresInside [ww k, .inl r, .inl s] σ (inSince P g r s) := by
  have e1 := hw.ok.c0
  exact PU.mk fun Q hQ => T_World_coresInside _ _ _ _ _ _ (L_W_coresInside hw r s Q P.nc.toNat 0 0 (by omega) (by omega) in32_0 hQ)
theorem P_P_hasRoom {p : Int} (hp : RPg σ k p g) : PU m_Page_hasRoom [pp k p] σ (b2 (pg g p 0 = 1 ∨ pg g p 0 = 2 ∨ pg g p 0 = 3)) := by
  have e1 := hp.kind
  refine PU.mk fun Q hQ => T_Page_hasRoom _ _ _ _ ?_
  (repeat' (first | (refine And.intro ?_ ?_) | (intro hzq; simp only [b2_e0, b2_e1, Classical.not_not, ne_eq] at hzq) | (intro hzq) | exact Or.inl rfl | exact Or.inr rfl)) <;> try omega
  all_goals (first | exact hQ _ (b2_l (by omega)) | exact hQ _ (b2_h (by omega)))
theorem P_P_hasAddress {p : Int} (hp : RPg σ k p g) : PU m_Page_hasAddress [pp k p] σ (b2 (pg g p 0 = 2 ∨ pg g p 0 = 3)) := by
  have e1 := hp.kind
  refine PU.mk fun Q hQ => T_Page_hasAddress _ _ _ _ ?_
  (repeat' (first | (refine And.intro ?_ ?_) | (intro hzq; simp only [b2_e0, b2_e1, Classical.not_not, ne_eq] at hzq) | (intro hzq) | exact Or.inl rfl | exact Or.inr rfl)) <;> try omega
  all_goals (first | exact hQ _ (b2_l (by omega)) | exact hQ _ (b2_h (by omega)))
theorem L_P_emptySlots {p : Int} (hp : RPg σ k p g) (Q : Option AV → ST → Prop) : ∀ (n : Nat) (i a : Int), i + n = 4 → 0 ≤ i → 0 ≤ a → a ≤ i → (∀ x, x = nf (fun s => pg g p (7 + s) = 0) n i a → Q (some (.inl x)) σ) → wp m_Page_emptySlots (4, [some (pp k p), some (.inl a), some (.inl i)], [], σ) Q
  | 0, i, a, h, h0, ha, hb, hQ => by
    refine T_Page_emptySlots_4 _ _ _ _ _ _ ?_
    (repeat' (first | (refine And.intro ?_ ?_) | (intro hzq; simp only [b2_e0, b2_e1, Classical.not_not, ne_eq] at hzq) | (intro hzq) | exact Or.inl rfl | exact Or.inr rfl)) <;> try omega
    exact hQ _ rfl
  | n + 1, i, a, h, h0, ha, hb, hQ => by
    have e3 := hp.ver i (by omega) (by omega)
    refine T_Page_emptySlots_4 _ _ _ _ _ _ ?_
    (repeat' (first | (refine And.intro ?_ ?_) | (intro hzq; simp only [b2_e0, b2_e1, Classical.not_not, ne_eq] at hzq) | (intro hzq) | exact Or.inl rfl | exact Or.inr rfl)) <;> try omega
    all_goals (simp (disch := omega) only [wr_id]; first | exact L_P_emptySlots hp Q n (i + 1) _ (by omega) (by omega) (by omega) (by omega) (fun x e => hQ x (by rw [e, nf_y (by omega)])) | exact L_P_emptySlots hp Q n (i + 1) _ (by omega) (by omega) (by omega) (by omega) (fun x e => hQ x (by rw [e, nf_n (by omega)])))
theorem P_P_emptySlots {p : Int} (hp : RPg σ k p g) : PU m_Page_emptySlots [pp k p] σ (nEmpty g p) :=
  PU.mk fun Q hQ => T_Page_emptySlots _ _ _ _ (L_P_emptySlots hp Q 4 0 0 (by omega) (by omega) (by omega) (by omega) hQ)
def slotOf (g : Int → Int) (p v : Int) : Int := ff (fun s => pg g p (7 + s) = v) 4 0
theorem L_P_hasVersion {p : Int} (hp : RPg σ k p g) (v : Int) (Q : Option AV → ST → Prop) : ∀ (n : Nat) (i : Int), i + n = 4 → 0 ≤ i → (∀ x, x = b2 (ff (fun s => pg g p (7 + s) = v) n i ≠ -1) → Q (some (.inl x)) σ) → wp m_Page_hasVersion (2, [some (pp k p), some (.inl v), some (.inl i)], [], σ) Q
  | 0, i, h, h0, hQ => by
    refine T_Page_hasVersion_2 _ _ _ _ _ _ ?_
    (repeat' (first | (refine And.intro ?_ ?_) | (intro hzq; simp only [b2_e0, b2_e1, Classical.not_not, ne_eq] at hzq) | (intro hzq) | exact Or.inl rfl | exact Or.inr rfl)) <;> try omega
    exact hQ _ (b2_l (fun z => z rfl))
  | n + 1, i, h, h0, hQ => by
    have e3 := hp.ver i (by omega) (by omega)
    refine T_Page_hasVersion_2 _ _ _ _ _ _ ?_
    (repeat' (first | (refine And.intro ?_ ?_) | (intro hzq; simp only [b2_e0, b2_e1, Classical.not_not, ne_eq] at hzq) | (intro hzq) | exact Or.inl rfl | exact Or.inr rfl)) <;> try omega
    · rw [wr_id (by omega)]
      exact L_P_hasVersion hp v Q n (i + 1) (by omega) (by omega) (fun x e => hQ x (by rw [e, ff_no (by omega)]))
    · exact hQ _ (b2_h (by rw [ff_yes (by omega)]; omega))
theorem P_P_hasVersion {p : Int} (hp : RPg σ k p g) (v : Int) : PU m_Page_hasVersion [pp k p, .inl v] σ (b2 (slotOf g p v ≠ -1)) :=
  PU.mk fun Q hQ => T_Page_hasVersion _ _ _ _ _ (L_P_hasVersion hp v Q 4 0 (by omega) (by omega) hQ)
theorem P_R_hasAddress {r : Int} (hr : RRy σ k r g) (hs : rm g r 2 ≤ 8) (a : Int) : PU m_Room_hasAddress [rr k r, .inl a] σ (b2 (0 ≤ a ∧ a < rm g r 2)) := by
  have e1 := hr.size
  refine PU.mk fun Q hQ => T_Room_hasAddress _ _ _ _ _ ?_
  (repeat' (first | (refine And.intro ?_ ?_) | (intro hzq; simp only [b2_e0, b2_e1, Classical.not_not, ne_eq] at hzq) | (intro hzq) | exact Or.inl rfl | exact Or.inr rfl)) <;> try omega
  all_goals (first | exact hQ _ (b2_l (by omega)) | exact hQ _ (b2_h (by omega)))
theorem P_R_canBeBuilt {r : Int} (hr : RRy σ k r g) : PU m_Room_canBeBuilt [rr k r] σ (b2 (rm g r 3 ≠ 2 ∧ ¬ rm g r 6 = 1)) := by
  refine PU.mk fun Q hQ => T_Room_canBeBuilt _ _ _ _ ?_
  rw [hr.seal, hr.away]
  (repeat' (first | (refine And.intro ?_ ?_) | (intro hzq; simp only [b2_e0, b2_e1, Classical.not_not, ne_eq] at hzq) | (intro hzq) | exact Or.inl rfl | exact Or.inr rfl)) <;> try omega
  all_goals (first | exact hQ _ (b2_l (by omega)) | exact hQ _ (b2_h (by omega)))
theorem L_R_that {r : Int} (hr : RRy σ k r g) (hs : rm g r 2 ≤ 8) (w : Int) (Q : Option AV → ST → Prop) : ∀ (n : Nat) (i a : Int), i + n = 8 → 0 ≤ i → in32 a → (∀ x, x = bf (fun a => a < rm g r 2 ∧ rm g r (7 + a) = w) n i a → Q (some (.inl x)) σ) → wp m_Room_addressesThatAre (4, [some (rr k r), some (.inl w), some (.inl a), some (.inl i)], [], σ) Q
  | 0, i, a, h, h0, ha, hQ => by
    refine T_Room_addressesThatAre_4 _ _ _ _ _ _ _ ?_
    (repeat' (first | (refine And.intro ?_ ?_) | (intro hzq; simp only [b2_e0, b2_e1, Classical.not_not, ne_eq] at hzq) | (intro hzq) | exact Or.inl rfl | exact Or.inr rfl)) <;> try omega
    exact hQ _ rfl
  | n + 1, i, a, h, h0, ha, hQ => by
    have e3 := hr.wher i (by omega) (by omega)
    refine T_Room_addressesThatAre_4 _ _ _ _ _ _ _ ?_
    (repeat' (first | (refine And.intro ?_ ?_) | (intro hzq; simp only [b2_e0, b2_e1, Classical.not_not, ne_eq] at hzq) | (intro hzq) | exact Or.inl rfl | exact Or.inr rfl | refine PU.I (P_R_hasAddress hr hs _) ?_)) <;> try omega
    all_goals (simp (disch := omega) only [wr_id]; first | exact L_R_that hr hs w Q n (i + 1) _ (by omega) (by omega) (i_or_32 _ _) (fun x e => hQ x (by rw [e, bf_y (by omega)])) | exact L_R_that hr hs w Q n (i + 1) _ (by omega) (by omega) ha (fun x e => hQ x (by rw [e, bf_n (by omega)])))
theorem P_R_that {r : Int} (hr : RRy σ k r g) (hs : rm g r 2 ≤ 8) (w : Int) : PU m_Room_addressesThatAre [rr k r, .inl w] σ (bf (fun a => a < rm g r 2 ∧ rm g r (7 + a) = w) 8 0 0) :=
  PU.mk fun Q hQ => T_Room_addressesThatAre _ _ _ _ _ (L_R_that hr hs w Q 8 0 0 (by omega) (by omega) in32_0 hQ)
theorem L_C_seenAt {c : Int} (hc : RCo σ k c g) (hn : co g c 4 ≤ 3) (a : Int) (Q : Option AV → ST → Prop) : ∀ (n : Nat) (i : Int), i + n = co g c 4 → 0 ≤ i → (∀ x, x = (if ff (fun i => co g c (5 + 2 * i) = a) n i = -1 then -1 else co g c (6 + 2 * ff (fun i => co g c (5 + 2 * i) = a) n i)) → Q (some (.inl x)) σ) → wp m_Core_pageSeenAt (2, [some (kk k c), some (.inl a), some (.inl i)], [], σ) Q
  | 0, i, h, h0, hQ => by
    have e1 := hc.cnt
    refine T_Core_pageSeenAt_2 _ _ _ _ _ _ ?_
    (repeat' (first | (refine And.intro ?_ ?_) | (intro hzq; simp only [b2_e0, b2_e1, Classical.not_not, ne_eq] at hzq) | (intro hzq) | exact Or.inl rfl | exact Or.inr rfl)) <;> try omega
    all_goals exact hQ _ rfl
  | n + 1, i, h, h0, hQ => by
    have e1 := hc.cnt
    have e2 := hc.adr i h0 (by omega)
    have e3 := hc.pag i h0 (by omega)
    refine T_Core_pageSeenAt_2 _ _ _ _ _ _ ?_
    (repeat' (first | (refine And.intro ?_ ?_) | (intro hzq; simp only [b2_e0, b2_e1, Classical.not_not, ne_eq] at hzq) | (intro hzq) | exact Or.inl rfl | exact Or.inr rfl)) <;> try omega
    · rw [wr_id (by omega)]
      exact L_C_seenAt hc hn a Q n (i + 1) (by omega) (by omega) (fun x e => hQ x (by rw [e, ff_no (by omega)]))
    · exact hQ _ (by rw [ff_yes (by omega), if_neg (by omega), e3])
theorem P_C_seenAt {c : Int} (hc : RCo σ k c g) (h0 : 0 ≤ co g c 4) (hn : co g c 4 ≤ 3) (a : Int) : PU m_Core_pageSeenAt [kk k c, .inl a] σ (if sightG g c a = -1 then -1 else co g c (6 + 2 * sightG g c a)) :=
  PU.mk fun Q hQ => T_Core_pageSeenAt _ _ _ _ _ (L_C_seenAt hc hn a Q (co g c 4).toNat 0 (by omega) (by omega) hQ)
abbrev canGoW (P : MP) (g : Int → Int) (p : Int) : Prop := isPg P p ∧ ((pg g p 0 = 1 ∧ nHere P g (pg g p 1) = 1) ∨ ((pg g p 0 = 2 ∨ pg g p 0 = 3) ∧ pg g p 5 ≠ -1 ∧ ¬ (pg g p 0 = 3 ∧ pg g p 6 = 1) ∧ pg g p 5 < rm g (pg g p 1) 5 ∧ inSince P g (pg g p 1) (pg g p 5) = 0))
theorem P_W_canGo (hw : RW σ k P g) (ho : ∀ p, isPg P p → pg g p 0 = 2 ∨ pg g p 0 = 3 → isRm g (pg g p 1)) (p : Int) : PU m_World_canGo [ww k, .inl p] σ (b2 (canGoW P g p)) := by
  have e2 := hw.ok.p1
  refine PU.mk fun Q hQ => T_World_canGo _ _ _ _ _ ?_
  by_cases hp : isPg P p
  · have hq := hw.pg p hp.1 hp.2
    have e3 := hq.kind
    have e7 := hq.ent
    have e9 := hq.own
    have e8 : pg g p 0 = 2 ∨ pg g p 0 = 3 → isRm g (pg g p 1) := ho p hp
    have e10 : bz (σ 14 k p 5) = 0 ↔ pg g p 5 = -1 := by
      rw [hq.blk, b2_e0]
      omega
    have e4 : PU m_World_isRoom [ww k, .inl (σ 14 k p 1)] σ (b2 (isRm g (pg g p 1))) := by
      rw [hq.own]
      exact P_W_isRoom hw _
    have e5 : PU m_World_pagesHere [ww k, .inl (σ 14 k p 1)] σ (nHere P g (pg g p 1)) := by
      rw [hq.own]
      exact P_W_pagesHere hw _
    have key : (pg g p 0 = 2 ∨ pg g p 0 = 3) → pg g p 5 ≠ -1 → ¬ (pg g p 0 = 3 ∧ pg g p 6 = 1) → ∀ (o1 : Option AV) (Q : Option AV → ST → Prop), (∀ x, x = b2 (canGoW P g p) → Q (some (.inl x)) σ) → wp m_World_canGo (88, [some (ww k), o1, some (pp k p)], [], σ) Q := by
      intro h1 h2 h3 o1 Q hQ
      have e11 := hq.bin h2
      have e12 := ho p hp h1
      have e13 := ((hw.rm _ e12.1.1 e12.1.2).y e12.2).epo
      refine T_World_canGo_88 _ _ _ _ _ _ _ ?_
      rw [e11, e9]
      (repeat' (first | (refine And.intro ?_ ?_) | (intro hzq; simp only [b2_e0, b2_e1, Classical.not_not, ne_eq] at hzq) | (intro hzq) | exact Or.inl rfl | exact Or.inr rfl | refine PU.I (P_W_coresInside hw _ _) ?_)) <;> try omega
      all_goals (first | exact hQ _ (b2_l (by omega)) | exact hQ _ (b2_h (by omega)))
    (repeat' (first | (refine And.intro ?_ ?_) | (intro hzq; simp only [b2_e0, b2_e1, Classical.not_not, ne_eq] at hzq) | (intro hzq) | exact Or.inl rfl | exact Or.inr rfl | refine PU.I (P_W_isPage hw _) ?_ | refine PU.I (P_P_hasAddress hq) ?_ | refine PU.I (e4) ?_ | refine PU.I (e5) ?_)) <;> try omega
    all_goals (first | exact key (by omega) (by omega) (by omega) _ Q hQ | exact hQ _ (b2_l (by omega)) | exact hQ _ (b2_h (by omega)))
  · (repeat' (first | (refine And.intro ?_ ?_) | (intro hzq; simp only [b2_e0, b2_e1, Classical.not_not, ne_eq] at hzq) | (intro hzq) | exact Or.inl rfl | exact Or.inr rfl | refine PU.I (P_W_isPage hw _) ?_)) <;> try omega
    all_goals (first | exact hQ _ (b2_l (by omega)) | exact hQ _ (b2_h (by omega)))
end WRD
