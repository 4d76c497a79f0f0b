/-! touch -/
def shF (c : Int) : Nat → Int → (Int → Int) → Int → Int
  | 0, _, g => g
  | n + 1, i, g => shF c n (i + 1) (sc g c (5 + i - 2) (co g c (5 + i)))
def see3 (g : Int → Int) (c n a p : Int) : Int → Int := sc (sc (sc g c (5 + 2 * n) a) c (5 + 2 * n + 1) p) c 4 (n + 1)
def seesG (P : MP) (g : Int → Int) (c a p : Int) : Int → Int := if co g c 4 = P.nh then see3 (shF c (2 * P.nh - 2).toNat 2 g) c (P.nh - 1) a p else see3 g c (co g c 4) a p
section ZD
variable {σ0 σ : ST} {P : MP} {g : Int → Int}
theorem L_Z_see3 (hz : ZT σ0 σ P g) {c n a p : Int} (h0 : 0 ≤ c) (h1 : c < 3) (h2 : 0 ≤ n) (h3 : n < 3) (o : Option AV) {F : ST → Prop} (K : ∀ t, ZT σ0 t P (see3 g c n a p) → F t) : wp m_Z_sees (60, [some zz, some (.inl c), some (.inl a), some (.inl p), some (.inl n), o], [], σ) (asV F) := by
  refine T_Z_sees_60 _ _ _ _ _ _ _ _ _ ?_
  rw [wr_id (x := 2 * n) (by omega), wr_id (x := 5 + 2 * n) (by omega), wr_id (x := 5 + 2 * n + 1) (by omega), wr_id (x := n + 1) (by omega)]
  refine Z_setCore hz (by omega) (by omega) (by omega) (by omega) (fun sx hz => ?_)
  refine Z_setCore hz (by omega) (by omega) (by omega) (by omega) (fun sx hz => ?_)
  refine Z_setCore hz (by omega) (by omega) (by omega) (by omega) (fun sx hz => ?_)
  exact K _ hz
theorem L_Z_sees {c a p m : Int} (h0 : 0 ≤ c) (h1 : c < 3) (h2 : 1 ≤ m) (h3 : m ≤ 3) {F : ST → Prop} : ∀ (n : Nat) (i : Int) (g : Int → Int) (σ : ST), i + n = 2 * m → 2 ≤ i → ZT σ0 σ P g → (∀ t, ZT σ0 t P (see3 (shF c n i g) c (m - 1) a p) → F t) → wp m_Z_sees (22, [some zz, some (.inl c), some (.inl a), some (.inl p), some (.inl m), some (.inl i)], [], σ) (asV F)
  | 0, i, g, σ, h, hi, hz, K => by
    refine T_Z_sees_22 _ _ _ _ _ _ _ _ _ ?_
    rw [wr_id (x := 2 * m) (by omega), wr_id (x := m + -1) (by omega)]
    refine And.intro (fun _ => ?_) (fun q => absurd (show 2 * m ≤ i by omega) q)
    exact L_Z_see3 hz h0 h1 (by omega) (by omega) _ K
  | n + 1, i, g, σ, h, hi, hz, K => by
    refine T_Z_sees_22 _ _ _ _ _ _ _ _ _ ?_
    rw [wr_id (x := 2 * m) (by omega), wr_id (x := 5 + i) (by omega), wr_id (x := 5 + i - 2) (by omega), wr_id (x := i + 1) (by omega)]
    refine And.intro (fun q => absurd q (by omega)) (fun _ => ?_)
    refine PU.I (P_Z_ofCore hz.1 (by omega) (by omega) (by omega) (by omega)) ?_
    refine Z_setCore hz (by omega) (by omega) (by omega) (by omega) (fun sx hz => ?_)
    exact L_Z_sees h0 h1 h2 h3 n (i + 1) _ _ (by omega) (by omega) hz K
theorem A_Z_sees (hz : ZT σ0 σ P g) {c a p : Int} (h0 : 0 ≤ c) (h1 : c < 3) (h2 : 0 ≤ co g c 4) (h3 : co g c 4 ≤ P.nh) (h4 : 1 ≤ P.nh) {F : ST → Prop} (K : ∀ t, ZT σ0 t P (seesG P g c a p) → F t) : wpM m_Z_sees [zz, .inl c, .inl a, .inl p] σ (asV F) := by
  have e1 := hz.1.ok.h1
  have e2 := hz.1.nh
  refine T_Z_sees _ _ _ _ _ _ _ ?_
  refine PU.I (P_Z_ofCore hz.1 (by omega) (by omega) (by omega) (by omega)) ?_
  refine And.intro (by omega) ?_
  unfold seesG at K
  by_cases hn : co g c 4 = P.nh
  · rw [if_pos hn] at K
    refine And.intro (fun q => absurd (hn.trans e2.symm) q) (fun _ => ?_)
    rw [hn]
    exact L_Z_sees h0 h1 (by omega) (by omega) (2 * P.nh - 2).toNat 2 g σ (by omega) (by omega) hz K
  · rw [if_neg hn] at K
    refine And.intro (fun _ => ?_) (fun q => absurd (fun z => hn (z.trans e2)) q)
    exact L_Z_see3 hz h0 h1 (by omega) (by omega) _ K
def touch1 (P : MP) (g : Int → Int) (c a : Int) : Int → Int := if sightG g c a = -1 then seesG P g c a (touchedG g c a) else g
def touchV (g : Int → Int) (c p h : Int) : Int := if h = 1 then co g c 0 else if h = 0 then pg g p 4 else i_rem (wr (wr (7 * co g c 0) + pg g p 4)) 1000
def touch2 (g : Int → Int) (c p h : Int) : Int → Int := if h = 1 then sp g p 4 (co g c 0) else sc g c 0 (touchV g c p h)
theorem A_Z_touch (hz : ZT σ0 σ P g) (hg : GR P g) {c a h : Int} (hc : isCo P c) (hin : co g c 1 ≠ -1) (ha : 0 ≤ a) (ha1 : a < 8) (hp : isPg P (touchedG g c a)) (h3 : co g c 4 ≤ P.nh) (h4 : 1 ≤ P.nh) {F : Int → ST → Prop} (K : ∀ t, ZT σ0 t P (touch2 (touch1 P g c a) c (touchedG g c a) h) → F (touchV (touch1 P g c a) c (touchedG g c a) h) t) : wpM m_Z_touchNow [zz, .inl c, .inl a, .inl h] σ (asI F) := by
  have e2 := hz.1.ok.p1
  have e3 := hz.1.ok.c1
  have e5 := hg.cnt c hc
  have fin : ∀ (f : Int → Int) (p : Int) (o2 o5 : Option AV) (σ : ST), 0 ≤ p → p < 10 → ZT σ0 σ P f → (∀ t, ZT σ0 t P (touch2 f c p h) → F (touchV f c p h) t) → wp m_Z_touchNow (26, [some zz, some (.inl c), o2, some (.inl h), some (.inl p), o5], [], σ) (asI F) := by
    intro f p o2 o5 σ p0 p1 hz K
    have er : ∀ v, co (sc f c 0 v) c 0 = v := by
      intro v
      unfold co sc put
      exact if_pos rfl
    have eq : ∀ v, co (sp f p 4 v) c 0 = co f c 0 := by
      intro v
      unfold co sp put
      exact if_neg (by omega)
    refine T_Z_touchNow_26 _ _ _ _ _ _ _ _ _ ?_
    refine PU.I (P_Z_ofCore hz.1 (by omega) (by omega) (by omega) (by omega)) ?_
    unfold touch2 touchV at K
    by_cases h1 : h = 1
    · rw [if_pos h1, if_pos h1] at K
      refine And.intro (fun q => absurd h1 q) (fun _ => ?_)
      refine Z_setPage hz (by omega) (by omega) (by omega) (by omega) (fun sx hz => ?_)
      refine PU.I ((P_Z_ofCore hz.1 (by omega) (by omega) (by omega) (by omega)).to (eq _)) ?_
      exact K _ hz
    · rw [if_neg h1, if_neg h1] at K
      refine And.intro (fun _ => ?_) (fun q => absurd h1 q)
      by_cases h2 : h = 0
      · rw [if_pos h2] at K
        refine And.intro (fun q => absurd h2 q) (fun _ => ?_)
        refine PU.I (P_Z_ofPage hz.1 (by omega) (by omega) (by omega) (by omega)) ?_
        refine Z_setCore hz (by omega) (by omega) (by omega) (by omega) (fun sx hz => ?_)
        refine PU.I ((P_Z_ofCore hz.1 (by omega) (by omega) (by omega) (by omega)).to (er _)) ?_
        exact K _ hz
      · rw [if_neg h2] at K
        refine And.intro (fun _ => ?_) (fun q => absurd h2 q)
        refine PU.I (P_Z_ofPage hz.1 (by omega) (by omega) (by omega) (by omega)) ?_
        refine And.intro (by omega) ?_
        refine Z_setCore hz (by omega) (by omega) (by omega) (by omega) (fun sx hz => ?_)
        refine PU.I ((P_Z_ofCore hz.1 (by omega) (by omega) (by omega) (by omega)).to (er _)) ?_
        exact K _ hz
  refine T_Z_touchNow _ _ _ _ _ _ _ ?_
  refine PU.I (P_Z_touched hz.1 hg hc hin ha ha1) ?_
  refine PU.I (Q_sight hz.1 hg hc a) ?_
  unfold touch1 at K
  by_cases hs : sightG g c a = -1
  · rw [if_pos hs] at K
    refine And.intro (fun q => absurd hs q) (fun _ => ?_)
    refine A_Z_sees hz (by omega) (by omega) (by omega) h3 h4 (fun sx hz => ?_)
    exact fin _ _ _ _ _ (by omega) (by omega) hz K
  · rw [if_neg hs] at K
    refine And.intro (fun _ => ?_) (fun q => absurd hs q)
    exact fin _ _ _ _ _ (by omega) (by omega) hz K
end ZD
