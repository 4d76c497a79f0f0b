/-! what is not written stays as it was told -/
theorem RPg.same {σ σ' : ST} {k p : Int} {g g' : Int → Int} (h : RPg σ k p g) (h1 : ∀ s, σ' 14 k p s = σ 14 k p s) (h2 : ∀ s, σ' 15 k p s = σ 15 k p s) (hg : ∀ j, 0 ≤ j → j < 11 → pg g' p j = pg g p j) : RPg σ' k p g' := by
  unfold RPg
  rw [h1, h1, h1, h1, h1, h1, h1, h1, hg 0 (by omega) (by omega), hg 1 (by omega) (by omega), hg 2 (by omega) (by omega), hg 3 (by omega) (by omega), hg 4 (by omega) (by omega), hg 5 (by omega) (by omega), hg 6 (by omega) (by omega)]
  refine ⟨h.kind, h.own, h.adr, h.rig, h.val, h.blk, h.bin, h.ent, fun s a b => ?_⟩
  rw [h2, hg _ (by omega) (by omega)]
  exact h.ver s a b
theorem RRm.same {σ σ' : ST} {k r : Int} {g g' : Int → Int} (h : RRm σ k r g) (h1 : ∀ s, σ' 17 k r s = σ 17 k r s) (h2 : ∀ s, σ' 18 k r s = σ 18 k r s) (h3 : ∀ s, σ' 19 k r s = σ 19 k r s) (hg : ∀ j, 0 ≤ j → j < 23 → rm g' r j = rm g r j) : RRm σ' k r g' := by
  unfold RRm
  rw [h1, hg 0 (by omega) (by omega)]
  refine ⟨h.there, fun z => ?_⟩
  have y := h.y z
  unfold RRy
  rw [h1, h1, h1, h1, h1, h1, hg 1 (by omega) (by omega), hg 2 (by omega) (by omega), hg 3 (by omega) (by omega), hg 4 (by omega) (by omega), hg 5 (by omega) (by omega), hg 6 (by omega) (by omega)]
  refine ⟨y.ser, y.size, y.seal, y.meas, y.epo, y.away, fun a x z => ?_, fun a x z => ?_⟩
  · rw [h2, hg _ (by omega) (by omega)]
    exact y.wher a x z
  · rw [h3, hg _ (by omega) (by omega)]
    exact y.map a x z
theorem RCp.same {σ σ' : ST} {k c : Int} {g g' : Int → Int} (h : RCp σ k c g) (h1 : ∀ s, σ' 25 k c s = σ 25 k c s) (hg : ∀ j, 0 ≤ j → j < 9 → cp g' c j = cp g c j) : RCp σ' k c g' := by
  unfold RCp
  rw [h1, hg 0 (by omega) (by omega)]
  refine ⟨h.there, fun z => ?_⟩
  have y := h.y z
  unfold RCy
  rw [h1, h1, h1, h1, h1, h1, h1, h1, hg 1 (by omega) (by omega), hg 2 (by omega) (by omega), hg 3 (by omega) (by omega), hg 4 (by omega) (by omega), hg 5 (by omega) (by omega), hg 6 (by omega) (by omega), hg 7 (by omega) (by omega), hg 8 (by omega) (by omega)]
  exact ⟨y.ser, y.adr, y.kind, y.rig, y.val, y.has, y.ver, y.cha⟩
theorem RCo.same {σ σ' : ST} {k c : Int} {g g' : Int → Int} (h : RCo σ k c g) (hn : co g c 4 ≤ 3) (h1 : ∀ s, σ' 21 k c s = σ 21 k c s) (h2 : ∀ s, σ' 22 k c s = σ 22 k c s) (h3 : ∀ s, σ' 23 k c s = σ 23 k c s) (hg : ∀ j, 0 ≤ j → j < 11 → co g' c j = co g c j) : RCo σ' k c g' := by
  unfold RCo
  rw [h1, h1, h1, h1, h1, hg 0 (by omega) (by omega), hg 1 (by omega) (by omega), hg 2 (by omega) (by omega), hg 3 (by omega) (by omega), hg 4 (by omega) (by omega)]
  refine ⟨h.reg, h.room, h.ent, h.sin, h.cnt, fun i x z => ?_, fun i x z => ?_⟩
  · rw [h2, hg _ (by omega) (by omega)]
    exact h.adr i x z
  · rw [h3, hg _ (by omega) (by omega)]
    exact h.pag i x z
