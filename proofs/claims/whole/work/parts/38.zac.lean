/-! the reference's acts that create, add, evict, load -/
theorem pg_sy {g : Int → Int} {c k v p j : Int} (h : 0 ≤ p ∧ p < 10 ∧ 0 ≤ j ∧ j < 11 ∧ 0 ≤ c ∧ 0 ≤ k) : pg (sy g c k v) p j = pg g p j := by
  unfold pg sy put
  exact if_neg (by omega)
theorem pg_sr {g : Int → Int} {c k v p j : Int} (h : 0 ≤ p ∧ p < 10 ∧ 0 ≤ j ∧ j < 11 ∧ 0 ≤ c ∧ 0 ≤ k) : pg (sr g c k v) p j = pg g p j := by
  unfold pg sr put
  exact if_neg (by omega)
theorem pg_sc {g : Int → Int} {c k v p j : Int} (h : 0 ≤ p ∧ p < 10 ∧ 0 ≤ j ∧ j < 11 ∧ 0 ≤ c ∧ 0 ≤ k) : pg (sc g c k v) p j = pg g p j := by
  unfold pg sc put
  exact if_neg (by omega)
theorem pg_sp {g : Int → Int} {q k v p j : Int} (h : 0 ≤ k ∧ k < 11 ∧ 0 ≤ j ∧ j < 11 ∧ (p ≠ q ∨ j ≠ k)) : pg (sp g q k v) p j = pg g p j := by
  unfold pg sp put
  exact if_neg (by omega)
theorem pg_v {g : Int → Int} {w v p j : Int} (h : 0 ≤ p ∧ p < 10 ∧ 0 ≤ j ∧ j < 11 ∧ 343 ≤ w) : pg (put g w v) p j = pg g p j := by
  unfold pg put
  exact if_neg (by omega)
theorem rm_sy {g : Int → Int} {c k v p j : Int} (h : 0 ≤ p ∧ p < 4 ∧ 0 ≤ j ∧ j < 23 ∧ 0 ≤ c ∧ 0 ≤ k) : rm (sy g c k v) p j = rm g p j := by
  unfold rm sy put
  exact if_neg (by omega)
theorem rm_sp {g : Int → Int} {c k v p j : Int} (h : 0 ≤ p ∧ p < 4 ∧ 0 ≤ j ∧ j < 23 ∧ c < 10 ∧ k < 11) : rm (sp g c k v) p j = rm g p j := by
  unfold rm sp put
  exact if_neg (by omega)
theorem rm_sr {g : Int → Int} {q k v p j : Int} (h : 0 ≤ k ∧ k < 23 ∧ 0 ≤ j ∧ j < 23 ∧ (p ≠ q ∨ j ≠ k)) : rm (sr g q k v) p j = rm g p j := by
  unfold rm sr put
  exact if_neg (by omega)
theorem rm_v {g : Int → Int} {w v p j : Int} (h : 0 ≤ p ∧ p < 4 ∧ 0 ≤ j ∧ j < 23 ∧ 343 ≤ w) : rm (put g w v) p j = rm g p j := by
  unfold rm put
  exact if_neg (by omega)
theorem cp_sp {g : Int → Int} {c k v p j : Int} (h : 0 ≤ p ∧ p < 12 ∧ 0 ≤ j ∧ j < 9 ∧ c < 10 ∧ k < 11) : cp (sp g c k v) p j = cp g p j := by
  unfold cp sp put
  exact if_neg (by omega)
theorem cp_sr {g : Int → Int} {c k v p j : Int} (h : 0 ≤ p ∧ p < 12 ∧ 0 ≤ j ∧ j < 9 ∧ c < 4 ∧ k < 23) : cp (sr g c k v) p j = cp g p j := by
  unfold cp sr put
  exact if_neg (by omega)
theorem at_sy {g : Int → Int} {c k v w : Int} (h : c < 12 ∧ k < 9 ∧ 343 ≤ w) : sy g c k v w = g w := by
  unfold sy put
  exact if_neg (by omega)
theorem at_put {g : Int → Int} {v w : Int} : put g w v w = v := if_pos rfl
theorem clr_o {p : Int} (P : (Int → Int) → Prop) (hP : ∀ (f : Int → Int) (k v : Int), 0 ≤ k → k < 11 → P f → P (sp f p k v)) : ∀ (n : Nat) (i : Int) (g : Int → Int), i + n = 11 → 0 ≤ i → P g → P (clrF p n i g)
  | 0, _, _, _, _, h => h
  | n + 1, i, g, e, hi, h => clr_o P hP n (i + 1) _ (by omega) (by omega) (hP g i _ hi (by omega) h)
theorem rm_clear {g : Int → Int} {p r j : Int} (h : 0 ≤ r ∧ r < 4 ∧ 0 ≤ j ∧ j < 23 ∧ p < 10) : rm (clearG g p) r j = rm g r j :=
  clr_o (fun f => rm f r j = rm g r j) (fun f k v h0 h1 hf => by rw [rm_sp (by omega)]; exact hf) 11 0 g (by omega) (by omega) rfl
theorem cp_clear {g : Int → Int} {p r j : Int} (h : 0 ≤ r ∧ r < 12 ∧ 0 ≤ j ∧ j < 9 ∧ p < 10) : cp (clearG g p) r j = cp g r j :=
  clr_o (fun f => cp f r j = cp g r j) (fun f k v h0 h1 hf => by rw [cp_sp (by omega)]; exact hf) 11 0 g (by omega) (by omega) rfl
theorem pg_clear_o {g : Int → Int} {p q j : Int} (h : p ≠ q ∧ 0 ≤ j ∧ j < 11) : pg (clearG g p) q j = pg g q j :=
  clr_o (fun f => pg f q j = pg g q j) (fun f k v h0 h1 hf => by rw [pg_sp (by omega)]; exact hf) 11 0 g (by omega) (by omega) rfl
def zrF (r : Int) : Nat → Int → (Int → Int) → Int → Int
  | 0, _, g => g
  | n + 1, i, g => zrF r n (i + 1) (sr g r i 0)
def mk1 (g : Int → Int) (r : Int) : Int → Int := sr (put g 344 (wr (g 344 + 1))) r 0 1
def makeG (g : Int → Int) (r s : Int) : Int → Int := sr (sr (sr (sr (mk1 g r) r 1 (mk1 g r 344)) r 2 s) r 3 1) r 4 (wr (7 + s))
def createG (P : MP) (g : Int → Int) (s : Int) : Int → Int := makeG (zrF (fRoom g) 23 0 (sp (sp (clearG g (fPage P g)) (fPage P g) 0 1) (fPage P g) 1 (fRoom g))) (fRoom g) s
def add1 (g : Int → Int) (p r a k ri v : Int) : Int → Int := sr (sr (sp (sp (sp (sp (sp (clearG g p) p 0 (2 + k)) p 1 r) p 2 a) p 3 ri) p 4 v) r (7 + a) 1) r (15 + a) (p + 1)
def addG (g : Int → Int) (p r a k ri v : Int) : Int → Int := sr (add1 g p r a k ri v) r 4 (mAdd (rm g r 4) a k ri)
def evict1 (g : Int → Int) (c r p : Int) : Int → Int := sy (sy (sy (sy (sy (sy (put g 343 (wr (g 343 + 1))) c 0 1) c 1 (rm g r 1)) c 2 (pg g p 2)) c 3 (pg g p 0)) c 4 (pg g p 3)) c 5 (pg g p 4)
def evict2 (g : Int → Int) (c r p sl s h : Int) : Int → Int := sp (sy (sy (sy (evict1 g c r p) c 6 h) c 7 (wr (g 343 + 1))) c 8 0) sl (7 + s) (wr (g 343 + 1))
def evictG (g : Int → Int) (c p sl s : Int) : Int → Int := if pg g p 0 = 1 then clearG (sr (evict2 g c (pg g p 1) p sl s (if pg g p 6 = 2 then 1 else 0)) (pg g p 1) 6 1) p else clearG (sr (evict2 g c (pg g p 1) p sl s (if pg g p 6 = 2 then 1 else 0)) (pg g p 1) (7 + pg g p 2) 2) p
section ZB
variable {σ0 σ : ST} {P : MP} {g : Int → Int}
theorem L_Z_create {s r p : Int} (h0 : 0 ≤ r) (h1 : r < 4) (o : Option AV) (Q : Option AV → ST → Prop) : ∀ (n : Nat) (i : Int) (g : Int → Int) (σ : ST), i + n = 23 → 0 ≤ i → ZT σ0 σ P g → (∀ t, ZT σ0 t P (makeG (zrF r n i g) r s) → Q (some (.inl r)) t) → wp m_Z_createNow (32, [some zz, some (.inl s), some (.inl r), o, some (.inl i)], [], σ) Q
  | 0, i, g, σ, h, hi, hz, K => by
    refine T_Z_createNow_32 _ _ _ _ _ _ _ _ ?_
    rw [hz.1.now 344 (by omega) (by omega)]
    have hz := ZT_put hz (j := 344) (v := wr (g 344 + 1)) (by omega) (by omega)
    refine And.intro (fun _ => And.intro (by omega) (And.intro (by omega) ?_)) (fun q => absurd q (by omega))
    refine Z_setRoom hz (by omega) (by omega) (by omega) (by omega) (fun t hz => ?_)
    refine And.intro (by omega) ?_
    rw [hz.1.now 344 (by omega) (by omega)]
    refine Z_setRoom hz (by omega) (by omega) (by omega) (by omega) (fun sx hz => ?_)
    refine Z_setRoom hz (by omega) (by omega) (by omega) (by omega) (fun sx hz => ?_)
    refine Z_setRoom hz (by omega) (by omega) (by omega) (by omega) (fun sx hz => ?_)
    refine Z_setRoom hz (by omega) (by omega) (by omega) (by omega) (fun sx hz => ?_)
    exact K _ hz
  | n + 1, i, g, σ, h, hi, hz, K => by
    refine T_Z_createNow_32 _ _ _ _ _ _ _ _ ?_
    refine And.intro (fun q => absurd q (by omega)) (fun _ => ?_)
    refine Z_setRoom hz (by omega) (by omega) (by omega) (by omega) (fun t hz => ?_)
    rw [wr_id (by omega)]
    exact L_Z_create (p := p) h0 h1 o Q n (i + 1) _ _ (by omega) (by omega) hz K
theorem A_Z_create (hz : ZT σ0 σ P g) (hf : fPage P g ≠ -1) (hr : fRoom g ≠ -1) {s : Int} {F : Int → ST → Prop} (K : ∀ t, ZT σ0 t P (createG P g s) → F (fRoom g) t) : wpM m_Z_createNow [zz, .inl s] σ (asI F) := by
  have e0 := hz.1.ok.p0
  have e1 := hz.1.ok.p1
  have e2 := fPage_in P g e0
  have e3 := fRoom_in g
  refine T_Z_createNow _ _ _ _ _ ?_
  refine PU.I (Q_fRoom hz.1) ?_
  refine PU.I (Q_fPage hz.1) ?_
  refine Z_clear hz (by omega) (by omega) (fun sx hz => ?_)
  refine Z_setPage hz (by omega) (by omega) (by omega) (by omega) (fun sx hz => ?_)
  refine Z_setPage hz (by omega) (by omega) (by omega) (by omega) (fun sx hz => ?_)
  exact L_Z_create (p := 0) (by omega) (by omega) _ _ 23 0 _ _ (by omega) (by omega) hz K
theorem A_Z_add (hz : ZT σ0 σ P g) (hf : fPage P g ≠ -1) {r a k ri v : Int} (h0 : 0 ≤ r) (h1 : r < 4) (h2 : 0 ≤ a) (h3 : a < 8) (h4 : 0 ≤ k) (h5 : k ≤ 1) {F : Int → ST → Prop} (K : ∀ t, ZT σ0 t P (addG g (fPage P g) r a k ri v) → F (fPage P g) t) : wpM m_Z_addNow [zz, .inl r, .inl a, .inl k, .inl ri, .inl v] σ (asI F) := by
  have e0 := hz.1.ok.p0
  have e1 := hz.1.ok.p1
  have e2 := fPage_in P g e0
  refine T_Z_addNow _ _ _ _ _ _ _ _ _ ?_
  rw [wr_id (x := 2 + k) (by omega), wr_id (x := 7 + a) (by omega), wr_id (x := 15 + a) (by omega)]
  refine PU.I (Q_fPage hz.1) ?_
  refine Z_clear hz (by omega) (by omega) (fun sx hz => ?_)
  refine Z_setPage hz (by omega) (by omega) (by omega) (by omega) (fun sx hz => ?_)
  refine Z_setPage hz (by omega) (by omega) (by omega) (by omega) (fun sx hz => ?_)
  refine Z_setPage hz (by omega) (by omega) (by omega) (by omega) (fun sx hz => ?_)
  refine Z_setPage hz (by omega) (by omega) (by omega) (by omega) (fun sx hz => ?_)
  refine Z_setPage hz (by omega) (by omega) (by omega) (by omega) (fun sx hz => ?_)
  refine Z_setRoom hz (by omega) (by omega) (by omega) (by omega) (fun sx hz => ?_)
  rw [wr_id (x := fPage P g + 1) (by omega)]
  refine Z_setRoom hz (by omega) (by omega) (by omega) (by omega) (fun sx hz => ?_)
  refine PU.I (P_Z_ofRoom hz.1 (by omega) (by omega) (by omega) (by omega)) ?_
  have e : rm (add1 g (fPage P g) r a k ri v) r 4 = rm g r 4 := by
    unfold add1
    rw [rm_sr (by omega), rm_sr (by omega), rm_sp (by omega), rm_sp (by omega), rm_sp (by omega), rm_sp (by omega), rm_sp (by omega), rm_clear (by omega)]
  unfold add1 at e
  rw [e]
  refine Z_setRoom hz (by omega) (by omega) (by omega) (by omega) (fun sx hz => ?_)
  exact K _ hz
theorem A_Z_evict (hz : ZT σ0 σ P g) (hf : fPlace g ≠ -1) {p sl s : Int} (h0 : 0 ≤ p) (h1 : p < 10) (h2 : 0 ≤ sl) (h3 : sl < 10) (h4 : 0 ≤ s) (h5 : s < 4) (hne : p ≠ sl) (h6 : 0 ≤ pg g p 1) (h7 : pg g p 1 < 4) (h8 : pg g p 0 ≠ 1 → 0 ≤ pg g p 2 ∧ pg g p 2 < 8) {F : Int → ST → Prop} (K : ∀ t, ZT σ0 t P (evictG g (fPlace g) p sl s) → F (fPlace g) t) : wpM m_Z_evictNow [zz, .inl p, .inl sl, .inl s] σ (asI F) := by
  have e3 := fPlace_in g
  have fin : ∀ (h : Int) (σ : ST), h = (if pg g p 6 = 2 then 1 else 0) → ZT σ0 σ P (evict1 g (fPlace g) (pg g p 1) p) → wp m_Z_evictNow (121, [some zz, some (.inl p), some (.inl sl), some (.inl s), some (.inl (fPlace g)), some (.inl (pg g p 1))], [.inl h, .inl 6, .inl (fPlace g), zz], σ) (asI F) := by
    intro h σ hh hz
    refine T_Z_evictNow_121 _ _ _ _ _ _ _ _ _ _ _ _ _ _ ?_
    rw [wr_id (x := 7 + s) (by omega)]
    refine Z_setCopy hz (by omega) (by omega) (by omega) (by omega) (fun sx hz => ?_)
    refine And.intro (by omega) ?_
    rw [hz.1.now 343 (by omega) (by omega)]
    have e5 : sy (evict1 g (fPlace g) (pg g p 1) p) (fPlace g) 6 h 343 = wr (g 343 + 1) := by
      unfold evict1
      rw [at_sy (by omega), at_sy (by omega), at_sy (by omega), at_sy (by omega), at_sy (by omega), at_sy (by omega), at_sy (by omega), at_put]
    rw [e5]
    refine Z_setCopy hz (by omega) (by omega) (by omega) (by omega) (fun sx hz => ?_)
    refine Z_setCopy hz (by omega) (by omega) (by omega) (by omega) (fun sx hz => ?_)
    refine And.intro (by omega) ?_
    rw [hz.1.now 343 (by omega) (by omega), at_sy (by omega), at_sy (by omega), e5]
    refine Z_setPage hz (by omega) (by omega) (by omega) (by omega) (fun sx hz => ?_)
    have e6 : ∀ j, 0 ≤ j → j < 7 → pg (evict2 g (fPlace g) (pg g p 1) p sl s h) p j = pg g p j := by
      intro j j0 j1
      unfold evict2 evict1
      rw [pg_sp (by omega), pg_sy (by omega), pg_sy (by omega), pg_sy (by omega), pg_sy (by omega), pg_sy (by omega), pg_sy (by omega), pg_sy (by omega), pg_sy (by omega), pg_sy (by omega), pg_v (by omega)]
    have hz : ZT σ0 _ P (evict2 g (fPlace g) (pg g p 1) p sl s h) := hz
    refine PU.I ((P_Z_ofPage hz.1 (by omega) (by omega) (by omega) (by omega)).to (e6 0 (by omega) (by omega))) ?_
    unfold evictG at K
    rw [← hh] at K
    by_cases hk : pg g p 0 = 1
    · rw [if_pos hk] at K
      refine And.intro (fun q => absurd hk q) (fun _ => ?_)
      refine Z_setRoom hz (by omega) (by omega) (by omega) (by omega) (fun sx hz => ?_)
      refine Z_clear hz h0 h1 (fun sx hz => ?_)
      exact K _ hz
    · rw [if_neg hk] at K
      refine And.intro (fun _ => ?_) (fun q => absurd hk q)
      have e7 := h8 hk
      refine PU.I ((P_Z_ofPage hz.1 (by omega) (by omega) (by omega) (by omega)).to (e6 2 (by omega) (by omega))) ?_
      rw [wr_id (x := 7 + pg g p 2) (by omega)]
      refine Z_setRoom hz (by omega) (by omega) (by omega) (by omega) (fun sx hz => ?_)
      refine Z_clear hz h0 h1 (fun sx hz => ?_)
      exact K _ hz
  refine T_Z_evictNow _ _ _ _ _ _ _ ?_
  refine PU.I (Q_fPlace hz.1) ?_
  refine PU.I (P_Z_ofPage hz.1 (by omega) (by omega) (by omega) (by omega)) ?_
  rw [hz.1.now 343 (by omega) (by omega)]
  refine And.intro (by omega) (And.intro (by omega) ?_)
  have hz := ZT_put hz (j := 343) (v := wr (g 343 + 1)) (by omega) (by omega)
  refine Z_setCopy hz (by omega) (by omega) (by omega) (by omega) (fun sx hz => ?_)
  refine PU.I (P_Z_ofRoom hz.1 (by omega) (by omega) (by omega) (by omega)) ?_
  rw [rm_sy (by omega), rm_v (by omega)]
  refine Z_setCopy hz (by omega) (by omega) (by omega) (by omega) (fun sx hz => ?_)
  refine PU.I (P_Z_ofPage hz.1 (by omega) (by omega) (by omega) (by omega)) ?_
  rw [pg_sy (by omega), pg_sy (by omega), pg_v (by omega)]
  refine Z_setCopy hz (by omega) (by omega) (by omega) (by omega) (fun sx hz => ?_)
  refine PU.I (P_Z_ofPage hz.1 (by omega) (by omega) (by omega) (by omega)) ?_
  rw [pg_sy (by omega), pg_sy (by omega), pg_sy (by omega), pg_v (by omega)]
  refine Z_setCopy hz (by omega) (by omega) (by omega) (by omega) (fun sx hz => ?_)
  refine PU.I (P_Z_ofPage hz.1 (by omega) (by omega) (by omega) (by omega)) ?_
  rw [pg_sy (by omega), pg_sy (by omega), pg_sy (by omega), pg_sy (by omega), pg_v (by omega)]
  refine Z_setCopy hz (by omega) (by omega) (by omega) (by omega) (fun sx hz => ?_)
  refine PU.I (P_Z_ofPage hz.1 (by omega) (by omega) (by omega) (by omega)) ?_
  rw [pg_sy (by omega), pg_sy (by omega), pg_sy (by omega), pg_sy (by omega), pg_sy (by omega), pg_v (by omega)]
  refine Z_setCopy hz (by omega) (by omega) (by omega) (by omega) (fun sx hz => ?_)
  refine PU.I (P_Z_ofPage hz.1 (by omega) (by omega) (by omega) (by omega)) ?_
  rw [pg_sy (by omega), pg_sy (by omega), pg_sy (by omega), pg_sy (by omega), pg_sy (by omega), pg_sy (by omega), pg_v (by omega)]
  refine And.intro (fun q => fin 0 _ (by rw [if_neg q]) hz) (fun q => fin 1 _ (by rw [if_pos (by omega)]) hz)
end ZB
