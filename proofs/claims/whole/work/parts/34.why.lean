/-! why the reference refuses, the rest -/
def whyTouchG (P : MP) (g : Int → Int) (c a h : Int) : Int := if ¬ isCo P c then 0 else if ¬ (0 ≤ a ∧ a < 8) ∨ ¬ (0 ≤ h ∧ h ≤ 2) then 1 else if co g c 1 = -1 ∨ ¬ (0 ≤ a ∧ a < rm g (co g c 1) 2) then 2 else if (sightG g c a ≠ -1 ∨ (isPo P g (touchedG g c a) (co g c 1) a ∧ pg g (touchedG g c a) 5 = -1 ∧ pg g (touchedG g c a) 0 = 2)) ∧ i_and (i_shr (pg g (touchedG g c a) 3) h) 1 = 1 then -1 else 4
def whyEvictG (P : MP) (g : Int → Int) (p sl s : Int) : Int := if ¬ (isPg P p ∧ pg g p 0 ≠ 0) ∨ ¬ (isPg P sl ∧ pg g sl 0 = 4) then 0 else if ¬ (0 ≤ s ∧ s ≤ 3) then 1 else if ¬ ((pg g p 0 = 1 ∧ nPages P g (pg g p 1) 0 = 0) ∨ ((pg g p 0 = 2 ∨ pg g p 0 = 3) ∧ ¬ (pg g p 0 = 3 ∧ pg g p 6 = 1) ∧ pg g p 5 ≠ -1 ∧ pg g p 5 < rm g (pg g p 1) 5 ∧ inSince P g (pg g p 1) (pg g p 5) = 0)) ∨ pg g sl (7 + s) ≠ 0 then 2 else if fPlace g = -1 then 3 else -1
def whyLoadG (P : MP) (g : Int → Int) (c sl s : Int) : Int := if ¬ isCp g c ∨ ¬ (isPg P sl ∧ pg g sl 0 = 4) then 0 else if ¬ (0 ≤ s ∧ s ≤ 3) then 1 else if fPage P g = -1 then 3 else if ¬ (cp g c 8 = 0 ∧ cp g c 7 = pg g sl (7 + s) ∧ roomS g (cp g c 1) ≠ -1 ∧ (cp g c 3 = 1 ∨ ¬ rm g (roomS g (cp g c 1)) 6 = 1)) then 4 else -1
def whyRemoveG (P : MP) (g : Int → Int) (p : Int) : Int := if ¬ (isPg P p ∧ pg g p 0 ≠ 0) then 0 else if pg g p 0 = 4 then (if nEmpty g p < 4 then 2 else -1) else if inOf P g (pg g p 1) ≠ 0 ∨ (pg g p 0 = 1 ∧ nPages P g (pg g p 1) 0 > 0) then 2 else -1
section WHY2
variable {σ : ST} {P : MP} {g : Int → Int}
theorem roomS_in (g : Int → Int) (s : Int) : roomS g s = -1 ∨ (0 ≤ roomS g s ∧ roomS g s < 4 ∧ rm g (roomS g s) 0 = 1 ∧ rm g (roomS g s) 1 = s) := by
  unfold roomS
  rcases ff_at (c := fun r => rm g r 0 = 1 ∧ rm g r 1 = s) 4 0 with h | h
  · exact Or.inl h
  · exact Or.inr ⟨by omega, by omega, h.2.2.1, h.2.2.2⟩
theorem sight_in (g : Int → Int) (c a : Int) : sightG g c a = -1 ∨ (0 ≤ sightG g c a ∧ sightG g c a < co g c 4 ∧ co g c (5 + 2 * sightG g c a) = a) := by
  unfold sightG
  rcases ff_at (c := fun i => co g c (5 + 2 * i) = a) (co g c 4).toNat 0 with h | h
  · exact Or.inl h
  · exact Or.inr ⟨by omega, by omega, h.2.2⟩
theorem P_Z_has (s k : Int) (σ : ST) : PU m_Z_has [.inl s, .inl k] σ (b2 (i_and (i_shr s k) 1 = 1)) := by
  refine PU.mk fun Q hQ => T_Z_has _ _ _ _ ?_
  (repeat' (first | (refine And.intro ?_ ?_) | (intro hzq; simp only [b2_e0, b2_e1, Classical.not_not, ne_eq] at hzq) | (intro hzq) | exact Or.inl rfl | exact Or.inr rfl)) <;> try omega
  all_goals (first | exact hQ _ (b2_l (by omega)) | exact hQ _ (b2_h (by omega)))
theorem P_Z_canGo (hz : ZS σ P g) (hg : GR P g) {p : Int} (hp : isPg P p) (hk : 1 ≤ pg g p 0) (hk1 : pg g p 0 ≤ 3 ∨ pg g p 0 = 4) : PU m_Z_canGo [zz, .inl p] σ (b2 (canGoG P g p)) := by
  have e2 := hz.ok.p1
  have e1 := hg.own p hp
  have key : (pg g p 0 = 2 ∨ pg g p 0 = 3) → ¬ (pg g p 0 = 3 ∧ pg g p 6 = 1) → ∀ Q : Option AV → ST → Prop, (∀ x, x = b2 (canGoG P g p) → Q (some (.inl x)) σ) → wp m_Z_canGo (63, [some zz, some (.inl p), some (.inl (pg g p 1)), none], [], σ) Q := by
    intro h1 h2 Q hQ
    refine T_Z_canGo_63 _ _ _ _ _ _ _ ?_
    unfold canGoG at hQ
    (repeat' (first | (refine And.intro ?_ ?_) | (intro hzq; simp only [b2_e0, b2_e1, Classical.not_not, ne_eq] at hzq) | (intro hzq) | exact Or.inl rfl | exact Or.inr rfl | refine PU.I (P_Z_ofPage hz (by omega) (by omega) (by omega) (by omega)) ?_ | refine PU.I (P_Z_ofRoom hz (by omega) (by omega) (by omega) (by omega)) ?_ | refine PU.I (Q_inSince hz _ _) ?_)) <;> try omega
    all_goals (first | exact hQ _ (b2_l (by omega)) | exact hQ _ (b2_h (by omega)))
  refine PU.mk fun Q hQ => T_Z_canGo _ _ _ _ _ ?_
  (repeat' (first | (refine And.intro ?_ ?_) | (intro hzq; simp only [b2_e0, b2_e1, Classical.not_not, ne_eq] at hzq) | (intro hzq) | exact Or.inl rfl | exact Or.inr rfl | refine PU.I (P_Z_ofPage hz (by omega) (by omega) (by omega) (by omega)) ?_ | refine PU.I (P_Z_isMoving hz (by omega) (by omega)) ?_ | refine PU.I (Q_nPages hz _ _) ?_)) <;> try omega
  all_goals (first | exact key (by omega) (by omega) Q hQ | (unfold canGoG at hQ; first | exact hQ _ (b2_l (by omega)) | exact hQ _ (b2_h (by omega))))
theorem P_Z_isTrue (hz : ZS σ P g) {c sl s : Int} (hc : isCp g c) (hs : isPg P sl) (h0 : 0 ≤ s) (h1 : s < 4) : PU m_Z_isTrue [zz, .inl c, .inl sl, .inl s] σ (b2 (isTrueG g c sl s)) := by
  have e2 := hz.ok.p1
  have e1 := roomS_in g (cp g c 1)
  have key : ∀ (t : Int) (o2 o3 o5 : Option AV) (Q : Option AV → ST → Prop), (t = 0 ∨ roomS g (cp g c 1) ≠ -1) → (∀ x, x = b2 (t ≠ 0 ∧ (cp g c 3 = 1 ∨ ¬ rm g (roomS g (cp g c 1)) 6 = 1)) → Q (some (.inl x)) σ) → wp m_Z_isTrue (52, [some zz, some (.inl c), o2, o3, some (.inl (roomS g (cp g c 1))), o5], [.inl t], σ) Q := by
    intro t o2 o3 o5 Q ht hQ
    refine T_Z_isTrue_52 _ _ _ _ _ _ _ _ _ _ ?_
    (repeat' (first | (refine And.intro ?_ ?_) | (intro hzq; simp only [b2_e0, b2_e1, Classical.not_not, ne_eq] at hzq) | (intro hzq) | exact Or.inl rfl | exact Or.inr rfl | refine PU.I (P_Z_ofCopy hz (by omega) (by omega) (by omega) (by omega)) ?_ | refine PU.I (P_Z_isAway hz (by omega) (by omega)) ?_)) <;> try omega
    all_goals (first | exact hQ _ (b2_l (by omega)) | exact hQ _ (b2_h (by omega)))
  refine PU.mk fun Q hQ => T_Z_isTrue _ _ _ _ _ _ _ ?_
  rw [wr_id (x := 7 + s) (by omega)]
  unfold isTrueG at hQ
  (repeat' (first | (refine And.intro ?_ ?_) | (intro hzq; simp only [b2_e0, b2_e1, Classical.not_not, ne_eq] at hzq) | (intro hzq) | exact Or.inl rfl | exact Or.inr rfl | refine PU.I (P_Z_ofCopy hz (by omega) (by omega) (by omega) (by omega)) ?_ | refine PU.I (Q_roomS hz _) ?_ | refine PU.I (P_Z_ofPage hz (by omega) (by omega) (by omega) (by omega)) ?_)) <;> try omega
  all_goals exact key _ _ _ _ Q (by omega) (fun x e => hQ x (by rw [e]; exact b2_iff (by constructor <;> intro h <;> omega)))
theorem P_Z_touched (hz : ZS σ P g) (hg : GR P g) {c a : Int} (hc : isCo P c) (hin : co g c 1 ≠ -1) (h0 : 0 ≤ a) (h1 : a < 8) : PU m_Z_touched [zz, .inl c, .inl a] σ (touchedG g c a) := by
  have e3 := hz.ok.c1
  have e1 := hg.cin c hc hin
  have e4 := sight_in g c a
  have e5 := hg.cnt c hc
  refine PU.mk fun Q hQ => T_Z_touched _ _ _ _ _ _ ?_
  refine PU.I (Q_sight hz hg hc a) ?_
  unfold touchedG at hQ
  by_cases hs : sightG g c a = -1
  · rw [if_pos hs] at hQ
    (repeat' (first | (refine And.intro ?_ ?_) | (intro hzq; simp only [b2_e0, b2_e1, Classical.not_not, ne_eq] at hzq) | (intro hzq) | exact Or.inl rfl | exact Or.inr rfl | refine PU.I (P_Z_ofCore hz (by omega) (by omega) (by omega) (by omega)) ?_ | refine PU.I (P_Z_mapOf hz hg (by omega) (by omega) (by omega) (by omega)) ?_)) <;> try omega
    exact hQ _ rfl
  · rw [if_neg hs] at hQ
    simp (disch := omega) only [wr_id]
    (repeat' (first | (refine And.intro ?_ ?_) | (intro hzq; simp only [b2_e0, b2_e1, Classical.not_not, ne_eq] at hzq) | (intro hzq) | exact Or.inl rfl | exact Or.inr rfl | refine PU.I (P_Z_ofCore hz (by omega) (by omega) (by omega) (by omega)) ?_)) <;> try omega
    exact hQ _ (by rw [show 5 + 2 * sightG g c a + 1 = 6 + 2 * sightG g c a by omega])
theorem P_Z_whyTouch (hz : ZS σ P g) (hg : GR P g) (c a h : Int) : PU m_Z_whyTouch [zz, .inl c, .inl a, .inl h] σ (whyTouchG P g c a h) := by
  have e2 := hz.ok.p1
  have e3 := hz.ok.c1
  have e1 : isCo P c → co g c 1 ≠ -1 → 0 ≤ co g c 1 ∧ co g c 1 < 4 := hg.cin c
  have e4 := sight_in g c a
  have e5 : isCo P c → sightG g c a ≠ -1 → isPg P (touchedG g c a) := by
    intro x y
    unfold touchedG
    rw [if_neg y]
    exact hg.spg c _ x (by omega) (by omega)
  have key : ∀ (t : Int) (o1 o2 o5 : Option AV) (Q : Option AV → ST → Prop), (t = 0 ∨ isPg P (touchedG g c a)) → (∀ x, x = (if t ≠ 0 ∧ i_and (i_shr (pg g (touchedG g c a) 3) h) 1 = 1 then (-1 : Int) else 4) → Q (some (.inl x)) σ) → wp m_Z_whyTouch (116, [some zz, o1, o2, some (.inl h), some (.inl (touchedG g c a)), o5], [.inl t], σ) Q := by
    intro t o1 o2 o5 Q ht hQ
    refine T_Z_whyTouch_116 _ _ _ _ _ _ _ _ _ _ ?_
    (repeat' (first | (refine And.intro ?_ ?_) | (intro hzq; simp only [b2_e0, b2_e1, Classical.not_not, ne_eq] at hzq) | (intro hzq) | exact Or.inl rfl | exact Or.inr rfl | refine PU.I (P_Z_ofPage hz (by omega) (by omega) (by omega) (by omega)) ?_ | refine PU.I (P_Z_has _ _ _) ?_)) <;> try omega
    all_goals (refine hQ _ ?_; split <;> omega)
  refine PU.mk fun Q hQ => T_Z_whyTouch _ _ _ _ _ _ _ ?_
  (repeat' (first | (refine And.intro ?_ ?_) | (intro hzq; simp only [b2_e0, b2_e1, Classical.not_not, ne_eq] at hzq) | (intro hzq) | exact Or.inl rfl | exact Or.inr rfl | refine PU.I (P_Z_isCore hz _) ?_ | refine PU.I (P_Z_in _ _ _ _) ?_ | refine PU.I (P_Z_isInside hz (by omega) (by omega)) ?_ | refine PU.I (P_Z_ofCore hz (by omega) (by omega) (by omega) (by omega)) ?_ | refine PU.I (P_Z_isAddress hz hg (by omega) (by omega) _) ?_ | refine PU.I (P_Z_touched hz hg (by omega) (by omega) (by omega) (by omega)) ?_ | refine PU.I (Q_sight hz hg (by omega) _) ?_ | refine PU.I (P_Z_isPageOf hz _ _ _) ?_ | refine PU.I (P_Z_ofPage hz (by omega) (by omega) (by omega) (by omega)) ?_)) <;> try omega
  all_goals (first | (refine hQ _ ?_; unfold whyTouchG; (repeat' split) <;> first | rfl | omega) | exact key _ _ _ _ Q (by omega) (fun x e => hQ x (by rw [e]; unfold whyTouchG; (repeat' split) <;> first | rfl | omega)))
theorem P_Z_whyEvict (hz : ZS σ P g) (hg : GR P g) (hk : ∀ p, isPg P p → 0 ≤ pg g p 0 ∧ pg g p 0 ≤ 4) (p sl s : Int) : PU m_Z_whyEvict [zz, .inl p, .inl sl, .inl s] σ (whyEvictG P g p sl s) := by
  have e2 := hz.ok.p1
  have e4 : isPg P p → 0 ≤ pg g p 0 ∧ pg g p 0 ≤ 4 := hk p
  refine PU.mk fun Q hQ => T_Z_whyEvict _ _ _ _ _ _ _ ?_
  by_cases hs : 0 ≤ s ∧ s < 4
  · rw [wr_id (x := 7 + s) (by omega)]
    (repeat' (first | (refine And.intro ?_ ?_) | (intro hzq; simp only [b2_e0, b2_e1, Classical.not_not, ne_eq] at hzq) | (intro hzq) | exact Or.inl rfl | exact Or.inr rfl | refine PU.I (P_Z_isUsed hz _) ?_ | refine PU.I (P_Z_areSlots hz _) ?_ | refine PU.I (P_Z_in _ _ _ _) ?_ | refine PU.I (P_Z_canGo hz hg (by omega) (by omega) (by omega)) ?_ | refine PU.I (P_Z_ofPage hz (by omega) (by omega) (by omega) (by omega)) ?_ | refine PU.I (Q_fPlace hz) ?_)) <;> try omega
    all_goals (refine hQ _ ?_; unfold whyEvictG; (repeat' split) <;> first | rfl | omega)
  · (repeat' (first | (refine And.intro ?_ ?_) | (intro hzq; simp only [b2_e0, b2_e1, Classical.not_not, ne_eq] at hzq) | (intro hzq) | exact Or.inl rfl | exact Or.inr rfl | refine PU.I (P_Z_isUsed hz _) ?_ | refine PU.I (P_Z_areSlots hz _) ?_ | refine PU.I (P_Z_in _ _ _ _) ?_)) <;> try omega
    all_goals (refine hQ _ ?_; unfold whyEvictG; (repeat' split) <;> first | rfl | omega)
theorem P_Z_whyLoad (hz : ZS σ P g) (c sl s : Int) : PU m_Z_whyLoad [zz, .inl c, .inl sl, .inl s] σ (whyLoadG P g c sl s) := by
  refine PU.mk fun Q hQ => T_Z_whyLoad _ _ _ _ _ _ _ ?_
  (repeat' (first | (refine And.intro ?_ ?_) | (intro hzq; simp only [b2_e0, b2_e1, Classical.not_not, ne_eq] at hzq) | (intro hzq) | exact Or.inl rfl | exact Or.inr rfl | refine PU.I (P_Z_isCopy hz _) ?_ | refine PU.I (P_Z_areSlots hz _) ?_ | refine PU.I (P_Z_in _ _ _ _) ?_ | refine PU.I (Q_fPage hz) ?_ | refine PU.I (P_Z_isTrue hz (by omega) (by omega) (by omega) (by omega)) ?_)) <;> try omega
  all_goals (refine hQ _ ?_; unfold whyLoadG; (repeat' split) <;> first | rfl | omega)
theorem P_Z_whyRemove (hz : ZS σ P g) (p : Int) : PU m_Z_whyRemove [zz, .inl p] σ (whyRemoveG P g p) := by
  have e2 := hz.ok.p1
  refine PU.mk fun Q hQ => T_Z_whyRemove _ _ _ _ _ ?_
  (repeat' (first | (refine And.intro ?_ ?_) | (intro hzq; simp only [b2_e0, b2_e1, Classical.not_not, ne_eq] at hzq) | (intro hzq) | exact Or.inl rfl | exact Or.inr rfl | refine PU.I (P_Z_isUsed hz _) ?_ | refine PU.I (P_Z_ofPage hz (by omega) (by omega) (by omega) (by omega)) ?_ | refine PU.I (Q_inOf hz _) ?_ | refine PU.I (Q_nPages hz _ _) ?_ | refine PU.I (Q_nEmpty hz (by omega) (by omega)) ?_)) <;> try omega
  all_goals (refine hQ _ ?_; unfold whyRemoveG; (repeat' split) <;> first | rfl | omega)
end WHY2
