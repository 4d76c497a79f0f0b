/-! load; why not, of any sort -/
def load1 (g : Int → Int) (c p r : Int) : Int → Int := sp (sp (sp (sp (sp (clearG g p) p 0 (cp g c 3)) p 1 r) p 2 (cp g c 2)) p 3 (cp g c 4)) p 4 (cp g c 5)
def load2 (g : Int → Int) (c p r sl s h : Int) : Int → Int := sp (sp (load1 g c p r) p 6 h) sl (7 + s) 0
def loadG (g : Int → Int) (c p r sl s : Int) : Int → Int := if cp g c 3 = 1 then sr (load2 g c p r sl s (if cp g c 6 = 1 then 2 else 0)) r 6 0 else sr (sr (load2 g c p r sl s (if cp g c 6 = 1 then 2 else 0)) r (7 + cp g c 2) 1) r (15 + cp g c 2) (p + 1)
def whyDoubleG (g : Int → Int) (c : Int) : Int := if ¬ isCp g c then 0 else if fPlace g = -1 then 3 else -1
def whyDropG (g : Int → Int) (c : Int) : Int := if ¬ isCp g c then 0 else -1
def whyG (P : MP) (g : Int → Int) (t a b c d e : Int) : Int := if t = 0 then whyCreateG P g a else if t = 1 then whySlotsG P g else if t = 2 then whyAddG P g a b c d e else if t = 3 then whyExtendG g a b else if t = 4 then whySealG g a b else if t = 5 then whyEnterG P g a b c 0 else if t = 6 then whyLeaveG P g a else if t = 7 then whyLeaveG P g a else if t = 8 then whyEnterG P g a b c 2 else if t = 9 then whyTouchG P g a b c else if t = 10 then whyBlockG P g a else if t = 11 then whyTrackG P g a else if t = 12 then whyEvictG P g a b c else if t = 13 then whyLoadG P g a b c else if t = 14 then whyRemoveG P g a else if t = 15 then whyMapG P g a b c else if t = 16 then whyDoubleG g a else if t = 17 then whyChangeG g a b else if t = 18 then whyDropG g a else whyTellG P g a b
section ZC
variable {σ0 σ : ST} {P : MP} {g : Int → Int}
theorem P_Z_whySlots (hz : ZS σ P g) (Q : Option AV → ST → Prop) (hQ : ∀ x, x = whySlotsG P g → Q (some (.inl x)) σ) :
    (((bz (σ 40 0 0 11)) ≠ 0 → wpM m_Z_freePage [zz] σ (asI fun r s => ((r ≠ -1 → Q (some (.inl (-1))) s) ∧ (¬ (r ≠ -1) → Q (some (.inl 3)) s)))) ∧ (¬ ((bz (σ 40 0 0 11)) ≠ 0) → Q (some (.inl 0)) σ)) := by
  rw [hz.mac]
  (repeat' (first | (refine And.intro ?_ ?_) | (intro hzq; simp only [b2_e0, b2_e1, Classical.not_not, ne_eq] at hzq) | (intro hzq) | exact Or.inl rfl | exact Or.inr rfl | refine PU.I (Q_fPage hz) ?_)) <;> try omega
  all_goals (refine hQ _ ?_; unfold whySlotsG; (repeat' split) <;> first | rfl | omega)
theorem P_Z_whyDouble (hz : ZS σ P g) (c : Int) (Q : Option AV → ST → Prop) (hQ : ∀ x, x = whyDoubleG g c → Q (some (.inl x)) σ) :
    wpM m_Z_isCopy [zz, .inl c] σ (asI fun r s => ((r ≠ 0 → wpM m_Z_freePlace [zz] s (asI fun r s => ((r ≠ -1 → Q (some (.inl (-1))) s) ∧ (¬ (r ≠ -1) → Q (some (.inl 3)) s)))) ∧ (¬ (r ≠ 0) → Q (some (.inl 0)) s))) := by
  (repeat' (first | (refine And.intro ?_ ?_) | (intro hzq; simp only [b2_e0, b2_e1, Classical.not_not, ne_eq] at hzq) | (intro hzq) | exact Or.inl rfl | exact Or.inr rfl | refine PU.I (P_Z_isCopy hz _) ?_ | refine PU.I (Q_fPlace hz) ?_)) <;> try omega
  all_goals (refine hQ _ ?_; unfold whyDoubleG; (repeat' split) <;> first | rfl | omega)
theorem P_Z_whyNot (hz : ZS σ P g) (hg : GR P g) (hk : ∀ p, isPg P p → 0 ≤ pg g p 0 ∧ pg g p 0 ≤ 4) (t a b c d e : Int) : PU m_Z_whyNot [zz, .inl t, .inl a, .inl b, .inl c, .inl d, .inl e] σ (whyG P g t a b c d e) := by
  refine PU.mk fun Q hQ => T_Z_whyNot _ _ _ _ _ _ _ _ _ _ ?_
  refine And.intro (fun h => PU.I (P_Z_whyCreate hz _) (hQ _ (by subst h; rfl))) (fun n0 => ?_)
  refine And.intro (fun h => P_Z_whySlots hz Q (fun x e => hQ x (by subst h; exact e))) (fun n1 => ?_)
  refine And.intro (fun h => PU.I (P_Z_whyAdd hz hg _ _ _ _ _) (hQ _ (by subst h; rfl))) (fun n2 => ?_)
  refine And.intro (fun h => PU.I (P_Z_whyExtend hz hg _ _) (hQ _ (by subst h; rfl))) (fun n3 => ?_)
  refine And.intro (fun h => PU.I (P_Z_whySeal hz _ _) (hQ _ (by subst h; rfl))) (fun n4 => ?_)
  refine And.intro (fun h => PU.I (P_Z_whyEnter hz hg _ _ _ _) (hQ _ (by subst h; rfl))) (fun n5 => ?_)
  refine And.intro (fun h => PU.I (P_Z_whyLeave hz _) (hQ _ (by subst h; rfl))) (fun n6 => ?_)
  refine And.intro (fun h => PU.I (P_Z_whyLeave hz _) (hQ _ (by subst h; rfl))) (fun n7 => ?_)
  refine And.intro (fun h => PU.I (P_Z_whyEnter hz hg _ _ _ _) (hQ _ (by subst h; rfl))) (fun n8 => ?_)
  refine And.intro (fun h => PU.I (P_Z_whyTouch hz hg _ _ _) (hQ _ (by subst h; rfl))) (fun n9 => ?_)
  refine And.intro (fun h => PU.I (P_Z_whyBlock hz hg _) (hQ _ (by subst h; rfl))) (fun n10 => ?_)
  refine And.intro (fun h => PU.I (P_Z_whyTrack hz hg _) (hQ _ (by subst h; rfl))) (fun n11 => ?_)
  refine And.intro (fun h => PU.I (P_Z_whyEvict hz hg hk _ _ _) (hQ _ (by subst h; rfl))) (fun n12 => ?_)
  refine And.intro (fun h => PU.I (P_Z_whyLoad hz _ _ _) (hQ _ (by subst h; rfl))) (fun n13 => ?_)
  refine And.intro (fun h => PU.I (P_Z_whyRemove hz _) (hQ _ (by subst h; rfl))) (fun n14 => ?_)
  refine And.intro (fun h => PU.I (P_Z_whyMap hz hg _ _ _) (hQ _ (by subst h; rfl))) (fun n15 => ?_)
  refine And.intro (fun h => P_Z_whyDouble hz a Q (fun x e => hQ x (by subst h; exact e))) (fun n16 => ?_)
  refine And.intro (fun h => PU.I (P_Z_whyChange hz _ _) (hQ _ (by subst h; rfl))) (fun n17 => ?_)
  refine And.intro (fun h => ?_) (fun n18 => ?_)
  · have h18 : ∀ x, x = whyDropG g a → Q (some (.inl x)) σ := fun x e => hQ x (by subst h; exact e)
    (repeat' (first | (refine And.intro ?_ ?_) | (intro hzq; simp only [b2_e0, b2_e1, Classical.not_not, ne_eq] at hzq) | (intro hzq) | exact Or.inl rfl | exact Or.inr rfl | refine PU.I (P_Z_isCopy hz _) ?_)) <;> try omega
    all_goals (refine h18 _ ?_; unfold whyDropG; split <;> omega)
  refine PU.I (P_Z_whyTell hz _ _) (hQ _ ?_)
  unfold whyG
  rw [if_neg n0, if_neg n1, if_neg n2, if_neg n3, if_neg n4, if_neg n5, if_neg n6, if_neg n7, if_neg n8, if_neg n9, if_neg n10, if_neg n11, if_neg n12, if_neg n13, if_neg n14, if_neg n15, if_neg n16, if_neg n17, if_neg n18]
theorem A_Z_load (hz : ZT σ0 σ P g) (hf : fPage P g ≠ -1) {c sl s : Int} (hr : roomS g (cp g c 1) ≠ -1) (h0 : 0 ≤ c) (h1 : c < 12) (h2 : 0 ≤ sl) (h3 : sl < 10) (h4 : 0 ≤ s) (h5 : s < 4) (h8 : cp g c 3 ≠ 1 → 0 ≤ cp g c 2 ∧ cp g c 2 < 8) {F : Int → ST → Prop} (K : ∀ t, ZT σ0 t P (loadG g c (fPage P g) (roomS g (cp g c 1)) sl s) → F (fPage P g) t) : wpM m_Z_loadNow [zz, .inl c, .inl sl, .inl s] σ (asI F) := by
  have e0 := hz.1.ok.p0
  have e1 := hz.1.ok.p1
  have e2 := fPage_in P g e0
  have e3 := roomS_in g (cp g c 1)
  have ec : ∀ j, 0 ≤ j → j < 9 → ∀ p r, 0 ≤ p → p < 10 → cp (load1 g c p r) c j = cp g c j := by
    intro j j0 j1 p r p0 p1
    unfold load1
    rw [cp_sp (by omega), cp_sp (by omega), cp_sp (by omega), cp_sp (by omega), cp_sp (by omega), cp_clear (by omega)]
  have fin : ∀ (h : Int) (σ : ST), h = (if cp g c 6 = 1 then 2 else 0) → ZT σ0 σ P (load1 g c (fPage P g) (roomS g (cp g c 1))) → wp m_Z_loadNow (106, [some zz, some (.inl c), some (.inl sl), some (.inl s), some (.inl (fPage P g)), some (.inl (roomS g (cp g c 1)))], [.inl h, .inl 6, .inl (fPage P g), zz], σ) (asI F) := by
    intro h σ hh hz
    refine T_Z_loadNow_106 _ _ _ _ _ _ _ _ _ _ _ _ _ _ ?_
    rw [wr_id (x := 7 + s) (by omega)]
    refine Z_setPage hz (by omega) (by omega) (by omega) (by omega) (fun sx hz => ?_)
    refine Z_setPage hz (by omega) (by omega) (by omega) (by omega) (fun sx hz => ?_)
    have hz : ZT σ0 _ P (load2 g c (fPage P g) (roomS g (cp g c 1)) sl s h) := hz
    have e6 : ∀ j, 0 ≤ j → j < 9 → cp (load2 g c (fPage P g) (roomS g (cp g c 1)) sl s h) c j = cp g c j := by
      intro j j0 j1
      unfold load2
      rw [cp_sp (by omega), cp_sp (by omega), ec j j0 j1 _ _ (by omega) (by omega)]
    refine PU.I ((P_Z_ofCopy hz.1 (by omega) (by omega) (by omega) (by omega)).to (e6 3 (by omega) (by omega))) ?_
    unfold loadG at K
    rw [← hh] at K
    by_cases hk : cp g c 3 = 1
    · rw [if_pos hk] at K
      refine And.intro (fun q => absurd hk q) (fun _ => ?_)
      refine Z_setRoom hz (by omega) (by omega) (by omega) (by omega) (fun sx hz => ?_)
      exact K _ hz
    · rw [if_neg hk] at K
      refine And.intro (fun _ => ?_) (fun q => absurd hk q)
      have e7 := h8 hk
      refine PU.I ((P_Z_ofCopy hz.1 (by omega) (by omega) (by omega) (by omega)).to (e6 2 (by omega) (by omega))) ?_
      rw [wr_id (x := 7 + cp g c 2) (by omega)]
      refine Z_setRoom hz (by omega) (by omega) (by omega) (by omega) (fun sx hz => ?_)
      have e9 : ∀ v, cp (sr (load2 g c (fPage P g) (roomS g (cp g c 1)) sl s h) (roomS g (cp g c 1)) (7 + cp g c 2) v) c 2 = cp g c 2 := by
        intro v
        rw [cp_sr (by omega), e6 2 (by omega) (by omega)]
      refine PU.I ((P_Z_ofCopy hz.1 (by omega) (by omega) (by omega) (by omega)).to (e9 _)) ?_
      rw [wr_id (x := 15 + cp g c 2) (by omega), wr_id (x := fPage P g + 1) (by omega)]
      refine Z_setRoom hz (by omega) (by omega) (by omega) (by omega) (fun sx hz => ?_)
      exact K _ hz
  refine T_Z_loadNow _ _ _ _ _ _ _ ?_
  refine PU.I (Q_fPage hz.1) ?_
  refine PU.I (P_Z_ofCopy hz.1 (by omega) (by omega) (by omega) (by omega)) ?_
  refine PU.I (Q_roomS hz.1 _) ?_
  refine Z_clear hz (by omega) (by omega) (fun sx hz => ?_)
  refine PU.I (P_Z_ofCopy hz.1 (by omega) (by omega) (by omega) (by omega)) ?_
  rw [cp_clear (by omega)]
  refine Z_setPage hz (by omega) (by omega) (by omega) (by omega) (fun sx hz => ?_)
  refine Z_setPage hz (by omega) (by omega) (by omega) (by omega) (fun sx hz => ?_)
  refine PU.I (P_Z_ofCopy hz.1 (by omega) (by omega) (by omega) (by omega)) ?_
  rw [cp_sp (by omega), cp_sp (by omega), cp_clear (by omega)]
  refine Z_setPage hz (by omega) (by omega) (by omega) (by omega) (fun sx hz => ?_)
  refine PU.I (P_Z_ofCopy hz.1 (by omega) (by omega) (by omega) (by omega)) ?_
  rw [cp_sp (by omega), cp_sp (by omega), cp_sp (by omega), cp_clear (by omega)]
  refine Z_setPage hz (by omega) (by omega) (by omega) (by omega) (fun sx hz => ?_)
  refine PU.I (P_Z_ofCopy hz.1 (by omega) (by omega) (by omega) (by omega)) ?_
  rw [cp_sp (by omega), cp_sp (by omega), cp_sp (by omega), cp_sp (by omega), cp_clear (by omega)]
  refine Z_setPage hz (by omega) (by omega) (by omega) (by omega) (fun sx hz => ?_)
  refine PU.I (P_Z_ofCopy hz.1 (by omega) (by omega) (by omega) (by omega)) ?_
  rw [cp_sp (by omega), cp_sp (by omega), cp_sp (by omega), cp_sp (by omega), cp_sp (by omega), cp_clear (by omega)]
  refine And.intro (fun q => fin 0 _ (by rw [if_neg q]) hz) (fun q => fin 2 _ (by rw [if_pos (by omega)]) hz)
end ZC
