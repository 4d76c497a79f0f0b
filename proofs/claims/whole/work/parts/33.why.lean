/-! why the reference refuses -/
def fPage (P : MP) (g : Int → Int) : Int := ff (fun p => pg g p 0 = 0) P.np.toNat 0
def fRoom (g : Int → Int) : Int := ff (fun r => rm g r 0 = 0) 4 0
def fPlace (g : Int → Int) : Int := ff (fun r => cp g r 0 = 0) 12 0
def roomS (g : Int → Int) (s : Int) : Int := ff (fun r => rm g r 0 = 1 ∧ rm g r 1 = s) 4 0
def pageAtG (P : MP) (g : Int → Int) (r a : Int) : Int := ff (fun p => isPo P g p r a) P.np.toNat 0
def inOf (P : MP) (g : Int → Int) (r : Int) : Int := bf (fun c => co g c 1 = r) P.nc.toNat 0 0
def inSince (P : MP) (g : Int → Int) (r s : Int) : Int := bf (fun c => co g c 1 = r ∧ co g c 3 ≤ s) P.nc.toNat 0 0
def nPages (P : MP) (g : Int → Int) (r w : Int) : Int := nf (fun p => pg g p 0 ≠ 0 ∧ pg g p 1 = r ∧ (w ≠ 0 ∨ pg g p 0 ≠ 1)) P.np.toNat 0 0
def nEmpty (g : Int → Int) (p : Int) : Int := nf (fun s => pg g p (7 + s) = 0) 4 0 0
def sightG (g : Int → Int) (c a : Int) : Int := ff (fun i => co g c (5 + 2 * i) = a) (co g c 4).toNat 0
def touchedG (g : Int → Int) (c a : Int) : Int := if sightG g c a = -1 then rm g (co g c 1) (15 + a) - 1 else co g c (6 + 2 * sightG g c a)
abbrev canGoG (P : MP) (g : Int → Int) (p : Int) : Prop := (pg g p 0 = 1 ∧ nPages P g (pg g p 1) 0 = 0) ∨ ((pg g p 0 = 2 ∨ pg g p 0 = 3) ∧ ¬ (pg g p 0 = 3 ∧ pg g p 6 = 1) ∧ pg g p 5 ≠ -1 ∧ pg g p 5 < rm g (pg g p 1) 5 ∧ inSince P g (pg g p 1) (pg g p 5) = 0)
abbrev isTrueG (g : Int → Int) (c sl s : Int) : Prop := cp g c 8 = 0 ∧ cp g c 7 = pg g sl (7 + s) ∧ roomS g (cp g c 1) ≠ -1 ∧ (cp g c 3 = 1 ∨ ¬ rm g (roomS g (cp g c 1)) 6 = 1)
def whyCreateG (P : MP) (g : Int → Int) (s : Int) : Int := if P.np = 0 then 0 else if ¬ (1 ≤ s ∧ s ≤ 8) then 1 else if fPage P g = -1 ∨ fRoom g = -1 then 3 else -1
def whySlotsG (P : MP) (g : Int → Int) : Int := if P.np = 0 then 0 else if fPage P g = -1 then 3 else -1
def whyAddG (P : MP) (g : Int → Int) (r a k ri v : Int) : Int := if ¬ isRm g r then 0 else if ¬ (0 ≤ a ∧ a < rm g r 2) ∨ ¬ (0 ≤ k ∧ k ≤ 1) ∨ ¬ (1 ≤ ri ∧ ri ≤ 7) ∨ ¬ (0 ≤ v ∧ v ≤ 999) then 1 else if rm g r 3 ≠ 1 ∨ rm g r 6 = 1 ∨ rm g r (7 + a) ≠ 0 then 2 else if fPage P g = -1 then 3 else -1
def whyExtendG (g : Int → Int) (r a : Int) : Int := if ¬ isRm g r then 0 else if ¬ (0 ≤ a ∧ a < rm g r 2) then 1 else if rm g r 3 ≠ 1 ∨ rm g r 6 = 1 ∨ rm g r (7 + a) ≠ 1 then 2 else -1
def whySealG (g : Int → Int) (r m : Int) : Int := if ¬ isRm g r then 0 else if rm g r 3 ≠ 1 ∨ rm g r 6 = 1 then 2 else if m ≠ rm g r 4 then 4 else -1
def whyEnterG (P : MP) (g : Int → Int) (c r a d : Int) : Int := if ¬ isCo P c ∨ ¬ isRm g r then 0 else if ¬ (0 ≤ a ∧ a < rm g r 2) then 1 else if co g c 1 ≠ -1 ∨ rm g r 3 ≠ 2 ∨ rm g r 6 = 1 then 2 else if ¬ isPo P g (rm g r (15 + a) - 1) r a then 4 else if pg g (rm g r (15 + a) - 1) 0 ≠ 3 ∨ pg g (rm g r (15 + a) - 1) 6 ≠ d then 2 else if pg g (rm g r (15 + a) - 1) 5 ≠ -1 then 4 else -1
def whyLeaveG (P : MP) (g : Int → Int) (c : Int) : Int := if ¬ isCo P c then 0 else if co g c 1 = -1 then 2 else -1
def whyBlockG (P : MP) (g : Int → Int) (p : Int) : Int := if ¬ (isPg P p ∧ pg g p 0 ≠ 0) then 0 else if ¬ (pg g p 0 = 2 ∨ pg g p 0 = 3) ∨ pg g p 5 ≠ -1 ∨ rm g (pg g p 1) 6 = 1 then 2 else -1
def whyTrackG (P : MP) (g : Int → Int) (r : Int) : Int := if ¬ isRm g r then 0 else if rm g r 6 = 1 ∨ inSince P g r (rm g r 5 - 1) ≠ 0 then 2 else -1
def whyTellG (P : MP) (g : Int → Int) (c v : Int) : Int := if ¬ isCo P c then 0 else if ¬ (0 ≤ v ∧ v ≤ 999) then 1 else if co g c 1 ≠ -1 ∨ co g c 0 = v then 2 else -1
def whyChangeG (g : Int → Int) (c v : Int) : Int := if ¬ isCp g c then 0 else if ¬ (0 ≤ v ∧ v ≤ 999) then 1 else if cp g c 5 = v then 2 else -1
def whyMapG (P : MP) (g : Int → Int) (r a p : Int) : Int := if ¬ isRm g r then 0 else if ¬ (0 ≤ a ∧ a < rm g r 2) ∨ (p ≠ -1 ∧ ¬ isPg P p) then 1 else if rm g r (15 + a) - 1 = p then 2 else -1
section WHY
variable {σ : ST} {P : MP} {g : Int → Int}
theorem Q_fPage (hz : ZS σ P g) : PU m_Z_freePage [zz] σ (fPage P g) := P_Z_freePage hz
theorem Q_fRoom (hz : ZS σ P g) : PU m_Z_freeRoom [zz] σ (fRoom g) := P_Z_freeRoom hz
theorem Q_fPlace (hz : ZS σ P g) : PU m_Z_freePlace [zz] σ (fPlace g) := P_Z_freePlace hz
theorem Q_roomS (hz : ZS σ P g) (s : Int) : PU m_Z_roomBy [zz, .inl s] σ (roomS g s) := P_Z_roomBy hz s
theorem Q_inOf (hz : ZS σ P g) (r : Int) : PU m_Z_insideOf [zz, .inl r] σ (inOf P g r) := P_Z_insideOf hz r
theorem Q_inSince (hz : ZS σ P g) (r s : Int) : PU m_Z_insideSince [zz, .inl r, .inl s] σ (inSince P g r s) := P_Z_insideSince hz r s
theorem Q_nPages (hz : ZS σ P g) (r w : Int) : PU m_Z_pagesOf [zz, .inl r, .inl w] σ (nPages P g r w) := P_Z_pagesOf hz r w
theorem Q_nEmpty (hz : ZS σ P g) {p : Int} (h0 : 0 ≤ p) (h1 : p < 10) : PU m_Z_emptySlots [zz, .inl p] σ (nEmpty g p) := P_Z_emptySlots hz h0 h1
theorem Q_sight (hz : ZS σ P g) (hg : GR P g) {c : Int} (hc : isCo P c) (a : Int) : PU m_Z_sightOf [zz, .inl c, .inl a] σ (sightG g c a) := P_Z_sightOf hz hg hc a
theorem P_Z_whyCreate (hz : ZS σ P g) (s : Int) : PU m_Z_whyCreate [zz, .inl s] σ (whyCreateG P g s) := by
  refine PU.mk fun Q hQ => T_Z_whyCreate _ _ _ _ _ ?_
  rw [hz.mac]
  (repeat' (first | (refine And.intro ?_ ?_) | (intro hzq; simp only [b2_e0, b2_e1, Classical.not_not, ne_eq] at hzq) | (intro hzq) | exact Or.inl rfl | exact Or.inr rfl | refine PU.I (P_Z_in _ _ _ _) ?_ | refine PU.I (Q_fPage hz) ?_ | refine PU.I (Q_fRoom hz) ?_)) <;> try omega
  all_goals (refine hQ _ ?_; unfold whyCreateG; (repeat' split) <;> first | rfl | omega)
theorem P_Z_whyAdd (hz : ZS σ P g) (hg : GR P g) (r a k ri v : Int) : PU m_Z_whyAdd [zz, .inl r, .inl a, .inl k, .inl ri, .inl v] σ (whyAddG P g r a k ri v) := by
  have e1 : isRm g r → 0 ≤ rm g r 2 ∧ rm g r 2 ≤ 8 := fun h => hg.rsz r h.1.1 h.1.2
  refine PU.mk fun Q hQ => T_Z_whyAdd _ _ _ _ _ _ _ _ _ ?_
  by_cases ha : 0 ≤ a ∧ a < 8
  · rw [wr_id (x := 7 + a) (by omega)]
    (repeat' (first | (refine And.intro ?_ ?_) | (intro hzq; simp only [b2_e0, b2_e1, Classical.not_not, ne_eq] at hzq) | (intro hzq) | exact Or.inl rfl | exact Or.inr rfl | refine PU.I (P_Z_isRoom hz _) ?_ | refine PU.I (P_Z_isAddress hz hg (by omega) (by omega) _) ?_ | refine PU.I (P_Z_in _ _ _ _) ?_ | refine PU.I (P_Z_ofRoom hz (by omega) (by omega) (by omega) (by omega)) ?_ | refine PU.I (P_Z_isAway hz (by omega) (by omega)) ?_ | refine PU.I (Q_fPage hz) ?_)) <;> try omega
    all_goals (refine hQ _ ?_; unfold whyAddG; (repeat' split) <;> first | rfl | omega)
  · (repeat' (first | (refine And.intro ?_ ?_) | (intro hzq; simp only [b2_e0, b2_e1, Classical.not_not, ne_eq] at hzq) | (intro hzq) | exact Or.inl rfl | exact Or.inr rfl | refine PU.I (P_Z_isRoom hz _) ?_ | refine PU.I (P_Z_isAddress hz hg (by omega) (by omega) _) ?_)) <;> try omega
    all_goals (refine hQ _ ?_; unfold whyAddG; (repeat' split) <;> first | rfl | omega)
theorem P_Z_whyExtend (hz : ZS σ P g) (hg : GR P g) (r a : Int) : PU m_Z_whyExtend [zz, .inl r, .inl a] σ (whyExtendG g r a) := by
  have e1 : isRm g r → 0 ≤ rm g r 2 ∧ rm g r 2 ≤ 8 := fun h => hg.rsz r h.1.1 h.1.2
  refine PU.mk fun Q hQ => T_Z_whyExtend _ _ _ _ _ _ ?_
  by_cases ha : 0 ≤ a ∧ a < 8
  · rw [wr_id (x := 7 + a) (by omega)]
    (repeat' (first | (refine And.intro ?_ ?_) | (intro hzq; simp only [b2_e0, b2_e1, Classical.not_not, ne_eq] at hzq) | (intro hzq) | exact Or.inl rfl | exact Or.inr rfl | refine PU.I (P_Z_isRoom hz _) ?_ | refine PU.I (P_Z_isAddress hz hg (by omega) (by omega) _) ?_ | refine PU.I (P_Z_ofRoom hz (by omega) (by omega) (by omega) (by omega)) ?_ | refine PU.I (P_Z_isAway hz (by omega) (by omega)) ?_)) <;> try omega
    all_goals (refine hQ _ ?_; unfold whyExtendG; (repeat' split) <;> first | rfl | omega)
  · (repeat' (first | (refine And.intro ?_ ?_) | (intro hzq; simp only [b2_e0, b2_e1, Classical.not_not, ne_eq] at hzq) | (intro hzq) | exact Or.inl rfl | exact Or.inr rfl | refine PU.I (P_Z_isRoom hz _) ?_ | refine PU.I (P_Z_isAddress hz hg (by omega) (by omega) _) ?_)) <;> try omega
    all_goals (refine hQ _ ?_; unfold whyExtendG; (repeat' split) <;> first | rfl | omega)
theorem P_Z_whySeal (hz : ZS σ P g) (r m : Int) : PU m_Z_whySeal [zz, .inl r, .inl m] σ (whySealG g r m) := by
  refine PU.mk fun Q hQ => T_Z_whySeal _ _ _ _ _ _ ?_
  (repeat' (first | (refine And.intro ?_ ?_) | (intro hzq; simp only [b2_e0, b2_e1, Classical.not_not, ne_eq] at hzq) | (intro hzq) | exact Or.inl rfl | exact Or.inr rfl | refine PU.I (P_Z_isRoom hz _) ?_ | refine PU.I (P_Z_ofRoom hz (by omega) (by omega) (by omega) (by omega)) ?_ | refine PU.I (P_Z_isAway hz (by omega) (by omega)) ?_)) <;> try omega
  all_goals (refine hQ _ ?_; unfold whySealG; (repeat' split) <;> first | rfl | omega)
theorem P_Z_whyEnter (hz : ZS σ P g) (hg : GR P g) (c r a d : Int) : PU m_Z_whyEnter [zz, .inl c, .inl r, .inl a, .inl d] σ (whyEnterG P g c r a d) := by
  have e1 : isRm g r → 0 ≤ rm g r 2 ∧ rm g r 2 ≤ 8 := fun h => hg.rsz r h.1.1 h.1.2
  have e2 := hz.ok.p1
  have e3 := hz.ok.c1
  refine PU.mk fun Q hQ => T_Z_whyEnter _ _ _ _ _ _ _ _ ?_
  (repeat' (first | (refine And.intro ?_ ?_) | (intro hzq; simp only [b2_e0, b2_e1, Classical.not_not, ne_eq] at hzq) | (intro hzq) | exact Or.inl rfl | exact Or.inr rfl | refine PU.I (P_Z_isCore hz _) ?_ | refine PU.I (P_Z_isRoom hz _) ?_ | refine PU.I (P_Z_isAddress hz hg (by omega) (by omega) _) ?_ | refine PU.I (P_Z_isInside hz (by omega) (by omega)) ?_ | refine PU.I (P_Z_isAway hz (by omega) (by omega)) ?_ | refine PU.I (P_Z_mapOf hz hg (by omega) (by omega) (by omega) (by omega)) ?_ | refine PU.I (P_Z_isPageOf hz _ _ _) ?_ | refine PU.I (P_Z_ofRoom hz (by omega) (by omega) (by omega) (by omega)) ?_ | refine PU.I (P_Z_ofPage hz (by omega) (by omega) (by omega) (by omega)) ?_)) <;> try omega
  all_goals (refine hQ _ ?_; unfold whyEnterG; (repeat' split) <;> first | rfl | omega)
theorem P_Z_whyLeave (hz : ZS σ P g) (c : Int) : PU m_Z_whyLeave [zz, .inl c] σ (whyLeaveG P g c) := by
  have e3 := hz.ok.c1
  refine PU.mk fun Q hQ => T_Z_whyLeave _ _ _ _ _ ?_
  (repeat' (first | (refine And.intro ?_ ?_) | (intro hzq; simp only [b2_e0, b2_e1, Classical.not_not, ne_eq] at hzq) | (intro hzq) | exact Or.inl rfl | exact Or.inr rfl | refine PU.I (P_Z_isCore hz _) ?_ | refine PU.I (P_Z_isInside hz (by omega) (by omega)) ?_)) <;> try omega
  all_goals (refine hQ _ ?_; unfold whyLeaveG; (repeat' split) <;> first | rfl | omega)
theorem P_Z_whyBlock (hz : ZS σ P g) (hg : GR P g) (p : Int) : PU m_Z_whyBlock [zz, .inl p] σ (whyBlockG P g p) := by
  have e2 := hz.ok.p1
  have e1 := hg.own p
  refine PU.mk fun Q hQ => T_Z_whyBlock _ _ _ _ _ ?_
  (repeat' (first | (refine And.intro ?_ ?_) | (intro hzq; simp only [b2_e0, b2_e1, Classical.not_not, ne_eq] at hzq) | (intro hzq) | exact Or.inl rfl | exact Or.inr rfl | refine PU.I (P_Z_isUsed hz _) ?_ | refine PU.I (P_Z_isMoving hz (by omega) (by omega)) ?_ | refine PU.I (P_Z_ofPage hz (by omega) (by omega) (by omega) (by omega)) ?_ | refine PU.I (P_Z_isAway hz (by omega) (by omega)) ?_)) <;> try omega
  all_goals (refine hQ _ ?_; unfold whyBlockG; (repeat' split) <;> first | rfl | omega)
theorem P_Z_whyTrack (hz : ZS σ P g) (hg : GR P g) (r : Int) : PU m_Z_whyTrack [zz, .inl r] σ (whyTrackG P g r) := by
  refine PU.mk fun Q hQ => T_Z_whyTrack _ _ _ _ _ ?_
  by_cases hr : isRm g r
  · have e1 := hg.epo r hr.1.1 hr.1.2
    have e4 : PU m_Z_insideSince [zz, .inl r, .inl (wr (rm g r 5 - 1))] σ (inSince P g r (rm g r 5 - 1)) := by
      rw [wr_id (by omega)]
      exact Q_inSince hz _ _
    (repeat' (first | (refine And.intro ?_ ?_) | (intro hzq; simp only [b2_e0, b2_e1, Classical.not_not, ne_eq] at hzq) | (intro hzq) | exact Or.inl rfl | exact Or.inr rfl | refine PU.I (P_Z_isRoom hz _) ?_ | refine PU.I (P_Z_isAway hz (by omega) (by omega)) ?_ | refine PU.I (P_Z_ofRoom hz (by omega) (by omega) (by omega) (by omega)) ?_ | refine PU.I (e4) ?_)) <;> try omega
    all_goals (refine hQ _ ?_; unfold whyTrackG; (repeat' split) <;> first | rfl | omega)
  · (repeat' (first | (refine And.intro ?_ ?_) | (intro hzq; simp only [b2_e0, b2_e1, Classical.not_not, ne_eq] at hzq) | (intro hzq) | exact Or.inl rfl | exact Or.inr rfl | refine PU.I (P_Z_isRoom hz _) ?_)) <;> try omega
    all_goals (refine hQ _ ?_; unfold whyTrackG; (repeat' split) <;> first | rfl | omega)
theorem P_Z_whyTell (hz : ZS σ P g) (c v : Int) : PU m_Z_whyTell [zz, .inl c, .inl v] σ (whyTellG P g c v) := by
  have e3 := hz.ok.c1
  refine PU.mk fun Q hQ => T_Z_whyTell _ _ _ _ _ _ ?_
  (repeat' (first | (refine And.intro ?_ ?_) | (intro hzq; simp only [b2_e0, b2_e1, Classical.not_not, ne_eq] at hzq) | (intro hzq) | exact Or.inl rfl | exact Or.inr rfl | refine PU.I (P_Z_isCore hz _) ?_ | refine PU.I (P_Z_in _ _ _ _) ?_ | refine PU.I (P_Z_isInside hz (by omega) (by omega)) ?_ | refine PU.I (P_Z_ofCore hz (by omega) (by omega) (by omega) (by omega)) ?_)) <;> try omega
  all_goals (refine hQ _ ?_; unfold whyTellG; (repeat' split) <;> first | rfl | omega)
theorem P_Z_whyChange (hz : ZS σ P g) (c v : Int) : PU m_Z_whyChange [zz, .inl c, .inl v] σ (whyChangeG g c v) := by
  refine PU.mk fun Q hQ => T_Z_whyChange _ _ _ _ _ _ ?_
  (repeat' (first | (refine And.intro ?_ ?_) | (intro hzq; simp only [b2_e0, b2_e1, Classical.not_not, ne_eq] at hzq) | (intro hzq) | exact Or.inl rfl | exact Or.inr rfl | refine PU.I (P_Z_isCopy hz _) ?_ | refine PU.I (P_Z_in _ _ _ _) ?_ | refine PU.I (P_Z_ofCopy hz (by omega) (by omega) (by omega) (by omega)) ?_)) <;> try omega
  all_goals (refine hQ _ ?_; unfold whyChangeG; (repeat' split) <;> first | rfl | omega)
theorem P_Z_whyMap (hz : ZS σ P g) (hg : GR P g) (r a p : Int) : PU m_Z_whyMap [zz, .inl r, .inl a, .inl p] σ (whyMapG P g r a p) := by
  have e1 : isRm g r → 0 ≤ rm g r 2 ∧ rm g r 2 ≤ 8 := fun h => hg.rsz r h.1.1 h.1.2
  refine PU.mk fun Q hQ => T_Z_whyMap _ _ _ _ _ _ _ ?_
  (repeat' (first | (refine And.intro ?_ ?_) | (intro hzq; simp only [b2_e0, b2_e1, Classical.not_not, ne_eq] at hzq) | (intro hzq) | exact Or.inl rfl | exact Or.inr rfl | refine PU.I (P_Z_isRoom hz _) ?_ | refine PU.I (P_Z_isAddress hz hg (by omega) (by omega) _) ?_ | refine PU.I (P_Z_isPage hz _) ?_ | refine PU.I (P_Z_mapOf hz hg (by omega) (by omega) (by omega) (by omega)) ?_ | refine T_Z_whyMap_38 _ _ _ _ _ _ _ ?_)) <;> try omega
  all_goals (refine hQ _ ?_; unfold whyMapG; (repeat' split) <;> first | rfl | omega)
end WHY
