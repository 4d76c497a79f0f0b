/-! the reference's writers -/
def put (g : Int → Int) (i v : Int) : Int → Int := fun s => if s = i then v else g s
def sp (g : Int → Int) (p k v : Int) : Int → Int := put g (11 * p + k) v
def sr (g : Int → Int) (r k v : Int) : Int → Int := put g (110 + 23 * r + k) v
def sc (g : Int → Int) (c k v : Int) : Int → Int := put g (202 + 11 * c + k) v
def sy (g : Int → Int) (c k v : Int) : Int → Int := put g (235 + 9 * c + k) v
def outG (g : Int → Int) (c : Int) : Int → Int := sc (sc (sc (sc g c 1 (-1)) c 2 (-1)) c 3 (-1)) c 4 0
/-- the reference after some writes -/
def ZT (σ0 σ : ST) (P : MP) (g : Int → Int) : Prop := ZS σ P g ∧ P.np ≠ 0 ∧ ∀ t k i s, t ≠ 46 → σ t k i s = σ0 t k i s
theorem up_o {σ : ST} {t : Nat} {k i s v : Int} {t' : Nat} {k' i' s' : Int} (h : t' ≠ t) : up σ t k i s v t' k' i' s' = σ t' k' i' s' := by
  unfold up
  rw [if_neg (fun z => h z.1)]
theorem up_s {σ : ST} {t : Nat} {k i s v s' : Int} : up σ t k i s v t k i s' = if s' = s then v else σ t k i s' := up_at
section ZW
variable {σ0 σ : ST} {P : MP} {g : Int → Int}
theorem ZT.start (hz : ZS σ P g) (hp : P.np ≠ 0) : ZT σ σ P g := ⟨hz, hp, fun _ _ _ _ _ => rfl⟩
theorem ZT_put (hz : ZT σ0 σ P g) {j v : Int} (h0 : 0 ≤ j) (h1 : j < 526) : ZT σ0 (up σ 46 0 0 j v) P (put g j v) := by
  obtain ⟨h, hp, hf⟩ := hz
  refine ⟨⟨h.ok, fun s a b => ?_, ?_, ?_, ?_, ?_, ?_, fun z => absurd z hp, fun z => absurd z hp⟩, hp, fun t k i s ht => ?_⟩
  · rw [up_s]
    unfold put
    rw [h.now s a b]
  · rw [up_o (by decide)]; exact h.np
  · rw [up_o (by decide)]; exact h.nc
  · rw [up_o (by decide)]; exact h.nh
  · rw [up_o (by decide)]; exact h.key
  · rw [up_o (by decide)]; exact h.mac
  · rw [up_o ht]; exact hf t k i s ht
theorem Z_setPage (hz : ZT σ0 σ P g) {p k v : Int} (h0 : 0 ≤ p) (h1 : p < 10) (h2 : 0 ≤ k) (h3 : k < 11) {F : ST → Prop} (K : ∀ s, ZT σ0 s P (sp g p k v) → F s) : wpM m_Z_setPage [zz, .inl p, .inl k, .inl v] σ (asV F) := by
  refine T_Z_setPage _ _ _ _ _ _ _ ?_
  simp (disch := omega) only [wr_id]
  exact ⟨⟨by omega, by omega⟩, K _ (ZT_put hz (by omega) (by omega))⟩
theorem Z_setRoom (hz : ZT σ0 σ P g) {p k v : Int} (h0 : 0 ≤ p) (h1 : p < 4) (h2 : 0 ≤ k) (h3 : k < 23) {F : ST → Prop} (K : ∀ s, ZT σ0 s P (sr g p k v) → F s) : wpM m_Z_setRoom [zz, .inl p, .inl k, .inl v] σ (asV F) := by
  refine T_Z_setRoom _ _ _ _ _ _ _ ?_
  simp (disch := omega) only [wr_id]
  exact ⟨⟨by omega, by omega⟩, K _ (ZT_put hz (by omega) (by omega))⟩
theorem Z_setCore (hz : ZT σ0 σ P g) {p k v : Int} (h0 : 0 ≤ p) (h1 : p < 3) (h2 : 0 ≤ k) (h3 : k < 11) {F : ST → Prop} (K : ∀ s, ZT σ0 s P (sc g p k v) → F s) : wpM m_Z_setCore [zz, .inl p, .inl k, .inl v] σ (asV F) := by
  refine T_Z_setCore _ _ _ _ _ _ _ ?_
  simp (disch := omega) only [wr_id]
  exact ⟨⟨by omega, by omega⟩, K _ (ZT_put hz (by omega) (by omega))⟩
theorem Z_setCopy (hz : ZT σ0 σ P g) {p k v : Int} (h0 : 0 ≤ p) (h1 : p < 12) (h2 : 0 ≤ k) (h3 : k < 9) {F : ST → Prop} (K : ∀ s, ZT σ0 s P (sy g p k v) → F s) : wpM m_Z_setCopy [zz, .inl p, .inl k, .inl v] σ (asV F) := by
  refine T_Z_setCopy _ _ _ _ _ _ _ ?_
  simp (disch := omega) only [wr_id]
  exact ⟨⟨by omega, by omega⟩, K _ (ZT_put hz (by omega) (by omega))⟩
theorem A_Z_out (hz : ZT σ0 σ P g) {c : Int} (h0 : 0 ≤ c) (h1 : c < 3) {F : ST → Prop} (K : ∀ s, ZT σ0 s P (outG g c) → F s) : wpM m_Z_putOutside [zz, .inl c] σ (asV F) := by
  refine T_Z_putOutside _ _ _ _ _ ?_
  refine Z_setCore hz (by omega) (by omega) (by omega) (by omega) (fun sx hz => ?_)
  refine Z_setCore hz (by omega) (by omega) (by omega) (by omega) (fun sx hz => ?_)
  refine Z_setCore hz (by omega) (by omega) (by omega) (by omega) (fun sx hz => ?_)
  refine Z_setCore hz (by omega) (by omega) (by omega) (by omega) (fun sx hz => ?_)
  exact K _ hz
theorem A_Z_seal (hz : ZT σ0 σ P g) {r : Int} (h0 : 0 ≤ r) (h1 : r < 4) {F : Int → ST → Prop} (K : ∀ s, ZT σ0 s P (sr g r 3 2) → F (rm g r 1) s) : wpM m_Z_sealNow [zz, .inl r] σ (asI F) := by
  refine T_Z_sealNow _ _ _ _ _ ?_
  refine Z_setRoom hz (by omega) (by omega) (by omega) (by omega) (fun sx hz => ?_)
  refine PU.I (P_Z_ofRoom hz.1 (by omega) (by omega) (by omega) (by omega)) ?_
  have e : rm (sr g r 3 2) r 1 = rm g r 1 := by
    (simp only [outG, sc, sp, sr, sy, co, pg, rm, cp, put] at *; (repeat' split) <;> first | rfl | omega)
  show F (rm (sr g r 3 2) r 1) _
  rw [e]
  exact K _ hz
theorem A_Z_block (hz : ZT σ0 σ P g) {p : Int} (h0 : 0 ≤ p) (h1 : p < 10) (h2 : 0 ≤ pg g p 1) (h3 : pg g p 1 < 4) {F : Int → ST → Prop} (K : ∀ s, ZT σ0 s P (sp g p 5 (rm g (pg g p 1) 5)) → F (rm g (pg g p 1) 5) s) : wpM m_Z_blockNow [zz, .inl p] σ (asI F) := by
  refine T_Z_blockNow _ _ _ _ _ ?_
  refine PU.I (P_Z_ofPage hz.1 (by omega) (by omega) (by omega) (by omega)) ?_
  refine PU.I (P_Z_ofRoom hz.1 (by omega) (by omega) (by omega) (by omega)) ?_
  refine Z_setPage hz (by omega) (by omega) (by omega) (by omega) (fun sx hz => ?_)
  refine PU.I (P_Z_ofPage hz.1 (by omega) (by omega) (by omega) (by omega)) ?_
  have e : ∀ v, pg (sp g p 5 v) p 5 = v := by
    intro v
    unfold pg sp put
    exact if_pos rfl
  show F (pg (sp g p 5 _) p 5) _
  rw [e]
  exact K _ hz
theorem A_Z_track (hz : ZT σ0 σ P g) {r : Int} (h0 : 0 ≤ r) (h1 : r < 4) (h2 : 0 ≤ rm g r 5) (h3 : rm g r 5 ≤ 1000000) {F : Int → ST → Prop} (K : ∀ s, ZT σ0 s P (sr g r 5 (rm g r 5 + 1)) → F (rm g r 5 + 1) s) : wpM m_Z_trackNow [zz, .inl r] σ (asI F) := by
  refine T_Z_trackNow _ _ _ _ _ ?_
  refine PU.I (P_Z_ofRoom hz.1 (by omega) (by omega) (by omega) (by omega)) ?_
  rw [wr_id (by omega)]
  refine Z_setRoom hz (by omega) (by omega) (by omega) (by omega) (fun sx hz => ?_)
  refine PU.I (P_Z_ofRoom hz.1 (by omega) (by omega) (by omega) (by omega)) ?_
  have e : ∀ v, rm (sr g r 5 v) r 5 = v := by
    intro v
    unfold rm sr put
    exact if_pos rfl
  show F (rm (sr g r 5 _) r 5) _
  rw [e]
  exact K _ hz
theorem A_Z_map (hz : ZT σ0 σ P g) (hg : GR P g) {r a p : Int} (h0 : 0 ≤ r) (h1 : r < 4) (h2 : 0 ≤ a) (h3 : a < 8) (h4 : -1 ≤ p) (h5 : p < 10) {F : Int → ST → Prop} (K : ∀ s, ZT σ0 s P (sr g r (15 + a) (p + 1)) → F (rm g r (15 + a) - 1) s) : wpM m_Z_mapNow [zz, .inl r, .inl a, .inl p] σ (asI F) := by
  refine T_Z_mapNow _ _ _ _ _ _ _ ?_
  rw [wr_id (x := 15 + a) (by omega), wr_id (x := p + 1) (by omega)]
  refine PU.I (P_Z_mapOf hz.1 hg (by omega) (by omega) (by omega) (by omega)) ?_
  refine Z_setRoom hz (by omega) (by omega) (by omega) (by omega) (fun sx hz => ?_)
  exact K _ hz
theorem A_Z_change (hz : ZT σ0 σ P g) {c v : Int} (h0 : 0 ≤ c) (h1 : c < 12) {F : Int → ST → Prop} (K : ∀ s, ZT σ0 s P (sy (sy g c 5 v) c 8 1) → F (cp g c 5) s) : wpM m_Z_changeNow [zz, .inl c, .inl v] σ (asI F) := by
  refine T_Z_changeNow _ _ _ _ _ _ ?_
  refine PU.I (P_Z_ofCopy hz.1 (by omega) (by omega) (by omega) (by omega)) ?_
  refine Z_setCopy hz (by omega) (by omega) (by omega) (by omega) (fun sx hz => ?_)
  refine Z_setCopy hz (by omega) (by omega) (by omega) (by omega) (fun sx hz => ?_)
  exact K _ hz
theorem A_Z_drop (hz : ZT σ0 σ P g) {c : Int} (h0 : 0 ≤ c) (h1 : c < 12) {F : Int → ST → Prop} (K : ∀ s, ZT σ0 s P (sy g c 0 0) → F (cp g c 7) s) : wpM m_Z_dropNow [zz, .inl c] σ (asI F) := by
  refine T_Z_dropNow _ _ _ _ _ ?_
  refine Z_setCopy hz (by omega) (by omega) (by omega) (by omega) (fun sx hz => ?_)
  refine PU.I (P_Z_ofCopy hz.1 (by omega) (by omega) (by omega) (by omega)) ?_
  have e : cp (sy g c 0 0) c 7 = cp g c 7 := by
    (simp only [outG, sc, sp, sr, sy, co, pg, rm, cp, put] at *; (repeat' split) <;> first | rfl | omega)
  show F (cp (sy g c 0 0) c 7) _
  rw [e]
  exact K _ hz
theorem A_Z_tell (hz : ZT σ0 σ P g) {c v : Int} (h0 : 0 ≤ c) (h1 : c < 3) {F : Int → ST → Prop} (K : ∀ s, ZT σ0 s P (sc g c 0 v) → F (co g c 0) s) : wpM m_Z_tellNow [zz, .inl c, .inl v] σ (asI F) := by
  refine T_Z_tellNow _ _ _ _ _ _ ?_
  refine PU.I (P_Z_ofCore hz.1 (by omega) (by omega) (by omega) (by omega)) ?_
  refine Z_setCore hz (by omega) (by omega) (by omega) (by omega) (fun sx hz => ?_)
  exact K _ hz
def leaveG (g : Int → Int) (c : Int) : Int → Int := outG (sp g (co g c 2) 6 0) c
theorem A_Z_leave (hz : ZT σ0 σ P g) {c : Int} (h0 : 0 ≤ c) (h1 : c < 3) (h2 : 0 ≤ co g c 2) (h3 : co g c 2 < 10) {F : Int → ST → Prop} (K : ∀ s, ZT σ0 s P (leaveG g c) → F (co g c 0) s) : wpM m_Z_leaveNow [zz, .inl c] σ (asI F) := by
  refine T_Z_leaveNow _ _ _ _ _ ?_
  refine PU.I (P_Z_ofCore hz.1 (by omega) (by omega) (by omega) (by omega)) ?_
  refine Z_setPage hz (by omega) (by omega) (by omega) (by omega) (fun sx hz => ?_)
  refine A_Z_out hz h0 h1 (fun s hz => ?_)
  refine PU.I (P_Z_ofCore hz.1 (by omega) (by omega) (by omega) (by omega)) ?_
  have e : co (outG (sp g (co g c 2) 6 0) c) c 0 = co g c 0 := by
    clear K
    (simp only [outG, sc, sp, sr, sy, co, pg, rm, cp, put] at *; (repeat' split) <;> first | rfl | omega)
  show F (co (outG (sp g (co g c 2) 6 0) c) c 0) _
  rw [e]
  exact K _ hz
def trapG (g : Int → Int) (c : Int) : Int → Int := outG (sc (sp (sp g (co g c 2) 6 2) (co g c 2) 4 (co g c 0)) c 0 0) c
theorem A_Z_trap (hz : ZT σ0 σ P g) {c : Int} (h0 : 0 ≤ c) (h1 : c < 3) (h2 : 0 ≤ co g c 2) (h3 : co g c 2 < 10) {F : Int → ST → Prop} (K : ∀ s, ZT σ0 s P (trapG g c) → F (co g c 2) s) : wpM m_Z_trapNow [zz, .inl c] σ (asI F) := by
  refine T_Z_trapNow _ _ _ _ _ ?_
  refine PU.I (P_Z_ofCore hz.1 (by omega) (by omega) (by omega) (by omega)) ?_
  refine Z_setPage hz (by omega) (by omega) (by omega) (by omega) (fun sx hz => ?_)
  refine PU.I (P_Z_ofCore hz.1 (by omega) (by omega) (by omega) (by omega)) ?_
  have e : co (sp g (co g c 2) 6 2) c 0 = co g c 0 := by
    clear K
    (simp only [outG, sc, sp, sr, sy, co, pg, rm, cp, put] at *; (repeat' split) <;> first | rfl | omega)
  rw [e]
  refine Z_setPage hz (by omega) (by omega) (by omega) (by omega) (fun sx hz => ?_)
  refine Z_setCore hz (by omega) (by omega) (by omega) (by omega) (fun sx hz => ?_)
  refine A_Z_out hz h0 h1 (fun s hz => ?_)
  exact K _ hz
end ZW
