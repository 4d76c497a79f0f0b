/-! what always holds stays so: cores, slots and copies, ranges -/
section GCS
variable {P : MP} {g g' : Int → Int} {p r a c : Int} {n : Int}
theorem GC.keep (h : GC P g) (hco : ∀ d j, isCo P d → 1 ≤ j → j < 11 → co g' d j = co g d j) (hrg : ∀ d, isCo P d → 0 ≤ co g' d 0 ∧ co g' d 0 ≤ 999) (hnh : P.nh ≤ 3)
    (hb : ∀ d, isCo P d → co g d 1 ≠ -1 → pg g' (co g d 2) 0 = pg g (co g d 2) 0 ∧ pg g' (co g d 2) 1 = pg g (co g d 2) 1 ∧ pg g' (co g d 2) 6 = pg g (co g d 2) 6)
    (hs : ∀ d i, isCo P d → 0 ≤ i → i < co g d 4 → pg g' (co g d (6 + 2 * i)) 0 = pg g (co g d (6 + 2 * i)) 0 ∧ pg g' (co g d (6 + 2 * i)) 1 = pg g (co g d (6 + 2 * i)) 1 ∧ pg g' (co g d (6 + 2 * i)) 2 = pg g (co g d (6 + 2 * i)) 2 ∧ (pg g' (co g d (6 + 2 * i)) 5 = pg g (co g d (6 + 2 * i)) 5 ∨ co g d 3 ≤ pg g' (co g d (6 + 2 * i)) 5))
    (hr : ∀ d, isCo P d → co g d 1 ≠ -1 → isRm g' (co g d 1) ∧ rm g (co g d 1) 5 ≤ rm g' (co g d 1) 5) : GC P g' := by
  unfold GC
  refine ⟨hrg, fun d hd h1 => ?_, fun d e hd he h1 h2 h3 => ?_, fun d hd => ?_, fun d i hd h0 h1 => ?_⟩
  · rw [hco d 1 hd (by omega) (by omega)] at h1
    rw [hco d 1 hd (by omega) (by omega), hco d 2 hd (by omega) (by omega), hco d 3 hd (by omega) (by omega)]
    have i := h.ins d hd h1
    have b := hb d hd h1
    have q := hr d hd h1
    rw [b.1, b.2.1, b.2.2]
    exact ⟨q.1, i.2.1, i.2.2.1, by omega⟩
  · rw [hco d 1 hd (by omega) (by omega)] at h1
    rw [hco e 1 he (by omega) (by omega)] at h2
    rw [hco d 2 hd (by omega) (by omega), hco e 2 he (by omega) (by omega)] at h3
    exact h.by1 d e hd he h1 h2 h3
  · rw [hco d 4 hd (by omega) (by omega)]
    exact h.cnt d hd
  · rw [hco d 4 hd (by omega) (by omega)] at h1
    have ct := h.cnt d hd
    have s := h.see d i hd h0 h1
    have q := hs d i hd h0 h1
    rw [hco d 1 hd (by omega) (by omega), hco d 3 hd (by omega) (by omega), hco d (5 + 2 * i) hd (by omega) (by omega), hco d (6 + 2 * i) hd (by omega) (by omega), q.1, q.2.1, q.2.2.1]
    refine ⟨s.1, s.2.1, s.2.2.1, s.2.2.2.1, s.2.2.2.2.1, ?_⟩
    rcases q.2.2.2 with z | z
    · rw [z]; exact s.2.2.2.2.2
    · exact Or.inr z
/-- a core goes inside -/
theorem GC.goin (h : GC P g) (hc : isCo P c) (hout : co g c 1 = -1) (hr : isRm g r) (he : 0 ≤ rm g r 5) (hp : isPg P p) (hk : pg g p 0 = 3) (ho : pg g p 1 = r) (h6 : pg g p 6 ≠ 1) (hnh : 0 ≤ P.nh ∧ P.nh ≤ 3) (hrg : 0 ≤ co g' c 0 ∧ co g' c 0 ≤ 999) (c1 : co g' c 1 = r) (c2 : co g' c 2 = p) (c3 : co g' c 3 = rm g r 5) (c4 : co g' c 4 = 0)
    (hco : ∀ d j, isCo P d → d ≠ c → 0 ≤ j → j < 11 → co g' d j = co g d j) (hpp : ∀ q, isPg P q → pg g' q 0 = pg g q 0 ∧ pg g' q 1 = pg g q 1 ∧ pg g' q 2 = pg g q 2 ∧ pg g' q 5 = pg g q 5 ∧ (q ≠ p → pg g' q 6 = pg g q 6)) (hp6 : pg g' p 6 = 1)
    (hro : ∀ q, 0 ≤ q → q < 4 → rm g' q 0 = rm g q 0 ∧ rm g' q 5 = rm g q 5) : GC P g' := by
  have hR : ∀ q, isRm g q → isRm g' q := fun q z => ⟨z.1, by rw [(hro q z.1.1 z.1.2).1]; exact z.2⟩
  have hby : ∀ d, isCo P d → co g d 1 ≠ -1 → co g d 2 ≠ p := by
    intro d hd h1 e
    have i := h.ins d hd h1
    rw [e] at i
    exact h6 i.2.1.2.2.2
  unfold GC
  refine ⟨fun d hd => ?_, fun d hd h1 => ?_, fun d e hd he h1 h2 h3 => ?_, fun d hd => ?_, fun d i hd h0 h1 => ?_⟩
  · by_cases z : d = c
    · rw [z]; exact hrg
    · rw [hco d 0 hd z (by omega) (by omega)]; exact h.reg d hd
  · by_cases z : d = c
    · rw [z, c1, c2, c3, (hpp p hp).1, (hpp p hp).2.1, (hro r hr.1.1 hr.1.2).2]
      exact ⟨hR r hr, ⟨hp, hk, ho, hp6⟩, he, Int.le_refl _⟩
    · rw [hco d 1 hd z (by omega) (by omega)] at h1
      rw [hco d 1 hd z (by omega) (by omega), hco d 2 hd z (by omega) (by omega), hco d 3 hd z (by omega) (by omega)]
      have i := h.ins d hd h1
      have b := hpp _ i.2.1.1
      rw [b.1, b.2.1, b.2.2.2.2 (hby d hd h1), (hro _ i.1.1.1 i.1.1.2).2]
      exact ⟨hR _ i.1, i.2.1, i.2.2⟩
  · by_cases z : d = c
    · by_cases y : e = c
      · rw [z, y]
      · exfalso
        rw [z, c2, hco e 2 he y (by omega) (by omega)] at h3
        rw [hco e 1 he y (by omega) (by omega)] at h2
        exact hby e he h2 h3.symm
    · rw [hco d 1 hd z (by omega) (by omega)] at h1
      rw [hco d 2 hd z (by omega) (by omega)] at h3
      by_cases y : e = c
      · exfalso
        rw [y, c2] at h3
        exact hby d hd h1 h3
      · rw [hco e 1 he y (by omega) (by omega)] at h2
        rw [hco e 2 he y (by omega) (by omega)] at h3
        exact h.by1 d e hd he h1 h2 h3
  · by_cases z : d = c
    · rw [z, c4]; omega
    · rw [hco d 4 hd z (by omega) (by omega)]; exact h.cnt d hd
  · by_cases z : d = c
    · rw [z, c4] at h1; omega
    · rw [hco d 4 hd z (by omega) (by omega)] at h1
      have ct := h.cnt d hd
      have s := h.see d i hd h0 h1
      have b := hpp _ s.2.1
      rw [hco d 1 hd z (by omega) (by omega), hco d 3 hd z (by omega) (by omega), hco d (5 + 2 * i) hd z (by omega) (by omega), hco d (6 + 2 * i) hd z (by omega) (by omega), b.1, b.2.1, b.2.2.1, b.2.2.2.1]
      exact s
/-- a core goes outside -/
theorem GC.goout (h : GC P g) (hc : isCo P c) (hin : co g c 1 ≠ -1) (hnh : 0 ≤ P.nh ∧ P.nh ≤ 3) (hrg : 0 ≤ co g' c 0 ∧ co g' c 0 ≤ 999) (c1 : co g' c 1 = -1) (c4 : co g' c 4 = 0)
    (hco : ∀ d j, isCo P d → d ≠ c → 0 ≤ j → j < 11 → co g' d j = co g d j) (hpp : ∀ q, isPg P q → pg g' q 0 = pg g q 0 ∧ pg g' q 1 = pg g q 1 ∧ pg g' q 2 = pg g q 2 ∧ pg g' q 5 = pg g q 5 ∧ (q ≠ co g c 2 → pg g' q 6 = pg g q 6))
    (hro : ∀ q, 0 ≤ q → q < 4 → rm g' q 0 = rm g q 0 ∧ rm g' q 5 = rm g q 5) : GC P g' := by
  have hR : ∀ q, isRm g q → isRm g' q := fun q z => ⟨z.1, by rw [(hro q z.1.1 z.1.2).1]; exact z.2⟩
  unfold GC
  refine ⟨fun d hd => ?_, fun d hd h1 => ?_, fun d e hd he h1 h2 h3 => ?_, fun d hd => ?_, fun d i hd h0 h1 => ?_⟩
  · by_cases z : d = c
    · rw [z]; exact hrg
    · rw [hco d 0 hd z (by omega) (by omega)]; exact h.reg d hd
  · by_cases z : d = c
    · rw [z, c1] at h1; exact absurd rfl h1
    · rw [hco d 1 hd z (by omega) (by omega)] at h1
      rw [hco d 1 hd z (by omega) (by omega), hco d 2 hd z (by omega) (by omega), hco d 3 hd z (by omega) (by omega)]
      have i := h.ins d hd h1
      have b := hpp _ i.2.1.1
      rw [b.1, b.2.1, b.2.2.2.2 (fun e => z (h.by1 d c hd hc h1 hin e)), (hro _ i.1.1.1 i.1.1.2).2]
      exact ⟨hR _ i.1, i.2.1, i.2.2⟩
  · by_cases z : d = c
    · rw [z, c1] at h1; exact absurd rfl h1
    · by_cases y : e = c
      · rw [y, c1] at h2; exact absurd rfl h2
      · rw [hco d 1 hd z (by omega) (by omega)] at h1
        rw [hco e 1 he y (by omega) (by omega)] at h2
        rw [hco d 2 hd z (by omega) (by omega), hco e 2 he y (by omega) (by omega)] at h3
        exact h.by1 d e hd he h1 h2 h3
  · by_cases z : d = c
    · rw [z, c4]; omega
    · rw [hco d 4 hd z (by omega) (by omega)]; exact h.cnt d hd
  · by_cases z : d = c
    · rw [z, c4] at h1; omega
    · rw [hco d 4 hd z (by omega) (by omega)] at h1
      have ct := h.cnt d hd
      have s := h.see d i hd h0 h1
      have b := hpp _ s.2.1
      rw [hco d 1 hd z (by omega) (by omega), hco d 3 hd z (by omega) (by omega), hco d (5 + 2 * i) hd z (by omega) (by omega), hco d (6 + 2 * i) hd z (by omega) (by omega), b.1, b.2.1, b.2.2.1, b.2.2.2.1]
      exact s
/-- a core sees one more page -/
theorem GC.sees (h : GC P g) (hc : isCo P c) (hin : co g c 1 ≠ -1) (hp : isPg P p) (hk : pg g p 0 = 2) (ho : pg g p 1 = co g c 1) (ha : pg g p 2 = a) (h5 : pg g p 5 = -1) (hnh : P.nh ≤ 3) (c0 : ∀ j, 0 ≤ j → j < 4 → co g' c j = co g c j) (c4 : 0 ≤ co g' c 4 ∧ co g' c 4 ≤ P.nh)
    (cs : ∀ i, 0 ≤ i → i < co g' c 4 → (∃ x, 0 ≤ x ∧ x < co g c 4 ∧ co g' c (5 + 2 * i) = co g c (5 + 2 * x) ∧ co g' c (6 + 2 * i) = co g c (6 + 2 * x)) ∨ (co g' c (5 + 2 * i) = a ∧ co g' c (6 + 2 * i) = p))
    (hco : ∀ d j, isCo P d → d ≠ c → 0 ≤ j → j < 11 → co g' d j = co g d j) (hpp : ∀ q j, isPg P q → 0 ≤ j → j < 11 → pg g' q j = pg g q j) (hro : ∀ q j, 0 ≤ q → q < 4 → 0 ≤ j → j < 23 → rm g' q j = rm g q j) : GC P g' := by
  have hR : ∀ q, isRm g q → isRm g' q := fun q z => ⟨z.1, by rw [hro q 0 z.1.1 z.1.2 (by omega) (by omega)]; exact z.2⟩
  have e4 : ∀ d j, isCo P d → 0 ≤ j → j < 4 → co g' d j = co g d j := by
    intro d j hd a b
    by_cases z : d = c
    · rw [z]; exact c0 j a b
    · exact hco d j hd z a (by omega)
  unfold GC
  refine ⟨fun d hd => ?_, fun d hd h1 => ?_, fun d e hd he h1 h2 h3 => ?_, fun d hd => ?_, fun d i hd h0 h1 => ?_⟩
  · rw [e4 d 0 hd (by omega) (by omega)]; exact h.reg d hd
  · rw [e4 d 1 hd (by omega) (by omega)] at h1
    have i := h.ins d hd h1
    rw [e4 d 1 hd (by omega) (by omega), e4 d 2 hd (by omega) (by omega), e4 d 3 hd (by omega) (by omega), hpp _ 0 i.2.1.1 (by omega) (by omega), hpp _ 1 i.2.1.1 (by omega) (by omega), hpp _ 6 i.2.1.1 (by omega) (by omega), hro _ 5 i.1.1.1 i.1.1.2 (by omega) (by omega)]
    exact ⟨hR _ i.1, i.2.1, i.2.2⟩
  · rw [e4 d 1 hd (by omega) (by omega)] at h1
    rw [e4 e 1 he (by omega) (by omega)] at h2
    rw [e4 d 2 hd (by omega) (by omega), e4 e 2 he (by omega) (by omega)] at h3
    exact h.by1 d e hd he h1 h2 h3
  · by_cases z : d = c
    · rw [z]; exact c4
    · rw [hco d 4 hd z (by omega) (by omega)]; exact h.cnt d hd
  · by_cases z : d = c
    · subst z
      rw [e4 d 1 hd (by omega) (by omega), e4 d 3 hd (by omega) (by omega)]
      rcases cs i h0 h1 with ⟨x, x0, x1, x2, x3⟩ | ⟨x2, x3⟩
      · have s := h.see d x hd x0 x1
        rw [x2, x3, hpp _ 0 s.2.1 (by omega) (by omega), hpp _ 1 s.2.1 (by omega) (by omega), hpp _ 2 s.2.1 (by omega) (by omega), hpp _ 5 s.2.1 (by omega) (by omega)]
        exact s
      · rw [x2, x3, hpp _ 0 hp (by omega) (by omega), hpp _ 1 hp (by omega) (by omega), hpp _ 2 hp (by omega) (by omega), hpp _ 5 hp (by omega) (by omega)]
        exact ⟨hin, hp, hk, ho, ha, Or.inl h5⟩
    · rw [hco d 4 hd z (by omega) (by omega)] at h1
      have ct := h.cnt d hd
      have s := h.see d i hd h0 h1
      rw [e4 d 1 hd (by omega) (by omega), e4 d 3 hd (by omega) (by omega), hco d (5 + 2 * i) hd z (by omega) (by omega), hco d (6 + 2 * i) hd z (by omega) (by omega), hpp _ 0 s.2.1 (by omega) (by omega), hpp _ 1 s.2.1 (by omega) (by omega), hpp _ 2 s.2.1 (by omega) (by omega), hpp _ 5 s.2.1 (by omega) (by omega)]
      exact s
theorem GS.keep (h : GS P g) {r0 : Int} (hf : ∀ d, 0 ≤ d → d < 12 → cp g' d 0 = 0 ∨ cp g' d 0 = 1) (hc : ∀ d, isCp g' d → ∃ x, isCp g x ∧ cp g' d 1 = cp g x 1 ∧ cp g' d 2 = cp g x 2 ∧ cp g' d 3 = cp g x 3 ∧ cp g' d 7 = cp g x 7 ∧ (0 ≤ cp g' d 5 ∧ cp g' d 5 ≤ 999) ∧ (cp g' d 8 = 0 ∨ cp g' d 8 = 1))
    (hsl : ∀ q s, isPg P q → pg g' q 0 = 4 → 0 ≤ s → s < 4 → (pg g q 0 = 4 ∧ pg g' q (7 + s) = pg g q (7 + s)) ∨ pg g' q (7 + s) = 0)
    (hr : ∀ q, isRm g' q → (isRm g q ∧ rm g' q 1 = rm g q 1 ∧ rm g' q 2 = rm g q 2 ∧ (rm g q 6 = 1 → rm g' q 6 = 1) ∧ (∀ b, 0 ≤ b → b < 8 → rm g q (7 + b) = 2 → rm g' q (7 + b) = 2)) ∨ (q = r0 ∧ rm g' q 1 = g 344 + 1 ∧ g 344 + 1 ≤ g' 344)) (h0 : 0 ≤ g 343 ∧ 0 ≤ g 344) (h3 : g' 343 = g 343) (h4 : g 344 ≤ g' 344) : GS P g' := by
  have hin : ∀ v, v ≠ 0 → inS P g' v → inS P g v := by
    intro v hv ⟨q, s, a1, a2, a3, a4, a5⟩
    rcases hsl q s a1 a2 a3 a4 with z | z
    · exact ⟨q, s, a1, z.1, a3, a4, by rw [← z.2]; exact a5⟩
    · rw [z] at a5; exact absurd a5.symm hv
  unfold GS
  refine ⟨hf, fun d hd => ?_, fun q s a1 a2 a3 a4 => ?_, fun q s u t a1 a2 a3 a4 b1 b2 b3 b4 e1 e2 => ?_, fun q hq => ?_, fun q u hq hu e => ?_, fun d q hd hq e hi => ?_, fun d e hd he ev => ?_, fun d e q hd he hq e1 e2 i1 i2 e3 => ?_⟩
  · obtain ⟨x, hx, y1, y2, y3, y7, y5, y8⟩ := hc d hd
    have := h.cy x hx
    rw [y1, y2, y3, y7]
    refine ⟨this.1, this.2.1, this.2.2.1, y5, y8, by omega, by omega⟩
  · rcases hsl q s a1 a2 a3 a4 with z | z
    · have := h.sl q s a1 z.1 a3 a4
      rw [z.2]; omega
    · rw [z]; omega
  · rcases hsl q s a1 a2 a3 a4 with z | z
    · rcases hsl u t b1 b2 b3 b4 with y | y
      · rw [z.2, y.2] at e1
        rw [z.2] at e2
        exact h.su q s u t a1 z.1 a3 a4 b1 y.1 b3 b4 e1 e2
      · rw [y] at e1; exact absurd e1 e2
    · exact absurd z e2
  · rcases hr q hq with z | z
    · have := h.ser q z.1
      rw [z.2.1]; omega
    · omega
  · rcases hr q hq with z | z
    · rcases hr u hu with y | y
      · rw [z.2.1, y.2.1] at e
        exact h.seu q u z.1 y.1 e
      · have := h.ser q z.1
        rw [z.2.1, y.2.1] at e
        omega
    · rcases hr u hu with y | y
      · have := h.ser u y.1
        rw [z.2.1, y.2.1] at e
        omega
      · omega
  · obtain ⟨x, hx, y1, y2, y3, y7, y5, y8⟩ := hc d hd
    have cx := h.cy x hx
    rw [y7] at hi
    rw [y1] at e
    rcases hr q hq with z | z
    · rw [z.2.1] at e
      have l := h.lv x q hx z.1 e (hin _ (by omega) hi)
      have rf := z.2.2.2
      rw [y3, y2, z.2.2.1]
      refine ⟨fun w => rf.1 (l.1 w), fun w => ⟨(l.2 w).1, rf.2 _ (cx.2.2.1 w).1 (cx.2.2.1 w).2 (l.2 w).2⟩⟩
    · rw [z.2.1] at e
      omega
  · obtain ⟨x, hx, y1, y2, y3, y7, y5, y8⟩ := hc d hd
    obtain ⟨x', hx', y1', y2', y3', y7', y5', y8'⟩ := hc e he
    rw [y7, y7'] at ev
    rw [y1, y2, y3, y1', y2', y3']
    exact h.tw x x' hx hx' ev
  · obtain ⟨x, hx, y1, y2, y3, y7, y5, y8⟩ := hc d hd
    obtain ⟨x', hx', y1', y2', y3', y7', y5', y8'⟩ := hc e he
    have cx := h.cy x hx
    have cx' := h.cy x' hx'
    rw [y7] at i1
    rw [y7'] at i2
    rw [y1] at e1
    rw [y1'] at e2
    rw [y2, y2'] at e3
    rw [y7, y7']
    rcases hr q hq with z | z
    · rw [z.2.1] at e1 e2
      exact h.tv x x' q hx hx' z.1 e1 e2 (hin _ (by omega) i1) (hin _ (by omega) i2) e3
    · rw [z.2.1] at e1
      omega
/-- a copy comes back -/
theorem GS.load (h : GS P g) {sl s : Int} (hc : isCp g c) (hs : isPg P sl) (hs4 : pg g sl 0 = 4) (hj : 0 ≤ s ∧ s < 4) (hv : pg g sl (7 + s) = cp g c 7) (hr0 : isRm g r) (her : rm g r 1 = cp g c 1)
    (hcp : ∀ d j, 0 ≤ d → d < 12 → 0 ≤ j → j < 9 → cp g' d j = cp g d j) (hsl : ∀ q t, isPg P q → pg g' q 0 = 4 → 0 ≤ t → t < 4 → pg g q 0 = 4 ∧ ((q = sl ∧ t = s) → pg g' q (7 + t) = 0) ∧ (¬ (q = sl ∧ t = s) → pg g' q (7 + t) = pg g q (7 + t)))
    (hR : ∀ q, isRm g' q → isRm g q ∧ rm g' q 1 = rm g q 1 ∧ rm g' q 2 = rm g q 2 ∧ (q ≠ r ∨ cp g c 3 ≠ 1 → rm g' q 6 = rm g q 6) ∧ (∀ b, 0 ≤ b → b < 8 → (q ≠ r ∨ cp g c 3 = 1 ∨ b ≠ cp g c 2) → rm g' q (7 + b) = rm g q (7 + b))) (h3 : g' 343 = g 343) (h4 : g' 344 = g 344) (h0 : 0 ≤ g 343) : GS P g' := by
  have cc := h.cy c hc
  have hI : ∀ d, isCp g' d → isCp g d := fun d z => ⟨z.1, by rw [← hcp d 0 z.1.1 z.1.2 (by omega) (by omega)]; exact z.2⟩
  have hin : ∀ v, v ≠ 0 → inS P g' v → inS P g v ∧ v ≠ cp g c 7 := by
    intro v hv0 ⟨q, t, a1, a2, a3, a4, a5⟩
    have z := hsl q t a1 a2 a3 a4
    by_cases e : q = sl ∧ t = s
    · rw [z.2.1 e] at a5; exact absurd a5.symm hv0
    · have y := z.2.2 e
      refine ⟨⟨q, t, a1, z.1, a3, a4, by rw [← y]; exact a5⟩, fun w => e ?_⟩
      rw [y] at a5
      exact h.su q t sl s a1 z.1 a3 a4 hs hs4 hj.1 hj.2 (by rw [a5, hv]; exact w) (by rw [a5]; exact hv0)
  unfold GS
  refine ⟨fun d d0 d1 => ?_, fun d hd => ?_, fun q t a1 a2 a3 a4 => ?_, fun q t u w a1 a2 a3 a4 b1 b2 b3 b4 e1 e2 => ?_, fun q hq => ?_, fun q u hq hu e => ?_, fun d q hd hq e hi => ?_, fun d e hd he ev => ?_, fun d e q hd he hq e1 e2 i1 i2 e3 => ?_⟩
  · rw [hcp d 0 d0 d1 (by omega) (by omega)]; exact h.cfl d d0 d1
  · have z := hI d hd
    rw [hcp d 1 z.1.1 z.1.2 (by omega) (by omega), hcp d 2 z.1.1 z.1.2 (by omega) (by omega), hcp d 3 z.1.1 z.1.2 (by omega) (by omega), hcp d 5 z.1.1 z.1.2 (by omega) (by omega), hcp d 7 z.1.1 z.1.2 (by omega) (by omega), hcp d 8 z.1.1 z.1.2 (by omega) (by omega), h3, h4]
    exact h.cy d z
  · have z := hsl q t a1 a2 a3 a4
    have y := h.sl q t a1 z.1 a3 a4
    rw [h3]
    by_cases e : q = sl ∧ t = s
    · rw [z.2.1 e]; omega
    · rw [z.2.2 e]; exact y
  · have z := hsl q t a1 a2 a3 a4
    have y := hsl u w b1 b2 b3 b4
    by_cases e : q = sl ∧ t = s
    · exact absurd (z.2.1 e) e2
    · by_cases f : u = sl ∧ w = s
      · rw [y.2.1 f] at e1; exact absurd e1 e2
      · rw [z.2.2 e, y.2.2 f] at e1
        rw [z.2.2 e] at e2
        exact h.su q t u w a1 z.1 a3 a4 b1 y.1 b3 b4 e1 e2
  · have z := hR q hq
    rw [z.2.1, h4]; exact h.ser q z.1
  · have z := hR q hq
    have y := hR u hu
    rw [z.2.1, y.2.1] at e
    exact h.seu q u z.1 y.1 e
  · have z := hI d hd
    have cd := h.cy d z
    have y := hR q hq
    rw [hcp d 1 z.1.1 z.1.2 (by omega) (by omega), y.2.1] at e
    rw [hcp d 7 z.1.1 z.1.2 (by omega) (by omega)] at hi
    have hi2 := hin _ (by omega) hi
    have l := h.lv d q z y.1 e hi2.1
    rw [hcp d 3 z.1.1 z.1.2 (by omega) (by omega), hcp d 2 z.1.1 z.1.2 (by omega) (by omega), y.2.2.1]
    have key : q = r → cp g d 2 ≠ cp g c 2 := by
      intro eq ea
      subst eq
      exact hi2.2 (h.tv d c q z hc y.1 e her hi2.1 ⟨sl, s, hs, hs4, hj.1, hj.2, hv⟩ ea)
    refine ⟨fun w => ?_, fun w => ⟨(l.2 w).1, ?_⟩⟩
    · by_cases eq : q = r
      · by_cases ck : cp g c 3 = 1
        · have a1 := cd.2.1 w
          have a2 := cc.2.1 ck
          exact absurd (a1.trans a2.symm) (key eq)
        · rw [y.2.2.2.1 (Or.inr ck)]; exact l.1 w
      · rw [y.2.2.2.1 (Or.inl eq)]; exact l.1 w
    · have a1 := cd.2.2.1 w
      rw [y.2.2.2.2 _ a1.1 a1.2 ?_]
      · exact (l.2 w).2
      · by_cases eq : q = r
        · exact Or.inr (Or.inr (key eq))
        · exact Or.inl eq
  · have z := hI d hd
    have y := hI e he
    rw [hcp d 7 z.1.1 z.1.2 (by omega) (by omega), hcp e 7 y.1.1 y.1.2 (by omega) (by omega)] at ev
    rw [hcp d 1 z.1.1 z.1.2 (by omega) (by omega), hcp d 2 z.1.1 z.1.2 (by omega) (by omega), hcp d 3 z.1.1 z.1.2 (by omega) (by omega), hcp e 1 y.1.1 y.1.2 (by omega) (by omega), hcp e 2 y.1.1 y.1.2 (by omega) (by omega), hcp e 3 y.1.1 y.1.2 (by omega) (by omega)]
    exact h.tw d e z y ev
  · have z := hI d hd
    have y := hI e he
    have w := hR q hq
    have cd := h.cy d z
    have ce := h.cy e y
    rw [hcp d 1 z.1.1 z.1.2 (by omega) (by omega), w.2.1] at e1
    rw [hcp e 1 y.1.1 y.1.2 (by omega) (by omega), w.2.1] at e2
    rw [hcp d 7 z.1.1 z.1.2 (by omega) (by omega)] at i1 ⊢
    rw [hcp e 7 y.1.1 y.1.2 (by omega) (by omega)] at i2 ⊢
    rw [hcp d 2 z.1.1 z.1.2 (by omega) (by omega), hcp e 2 y.1.1 y.1.2 (by omega) (by omega)] at e3
    exact h.tv d e q z y w.1 e1 e2 (hin _ (by omega) i1).1 (hin _ (by omega) i2).1 e3
/-- a page goes out -/
theorem GS.evict (h : GS P g) {sl s y : Int} (hy : 0 ≤ y ∧ y < 12) (hs : isPg P sl) (hs4 : pg g sl 0 = 4) (hj : 0 ≤ s ∧ s < 4) (hv : pg g sl (7 + s) = 0) (hr0 : isRm g r) (hk : 1 ≤ pg g p 0 ∧ pg g p 0 ≤ 3) (hk1 : pg g p 0 = 1 → pg g p 2 = -1 ∧ rm g r 6 = 0) (hk2 : pg g p 0 ≠ 1 → 0 ≤ pg g p 2 ∧ pg g p 2 < rm g r 2 ∧ pg g p 2 < 8 ∧ rm g r (7 + pg g p 2) = 1) (hvl : 0 ≤ pg g p 4 ∧ pg g p 4 ≤ 999)
    (y0 : cp g' y 0 = 1) (y1 : cp g' y 1 = rm g r 1) (y2 : cp g' y 2 = pg g p 2) (y3 : cp g' y 3 = pg g p 0) (y5 : cp g' y 5 = pg g p 4) (y7 : cp g' y 7 = g 343 + 1) (y8 : cp g' y 8 = 0)
    (hcp : ∀ d j, 0 ≤ d → d < 12 → d ≠ y → 0 ≤ j → j < 9 → cp g' d j = cp g d j) (hsl : ∀ q t, isPg P q → pg g' q 0 = 4 → 0 ≤ t → t < 4 → pg g q 0 = 4 ∧ ((q = sl ∧ t = s) → pg g' q (7 + t) = g 343 + 1) ∧ (¬ (q = sl ∧ t = s) → pg g' q (7 + t) = pg g q (7 + t)))
    (hR : ∀ q, isRm g' q → isRm g q ∧ rm g' q 1 = rm g q 1 ∧ rm g' q 2 = rm g q 2 ∧ (rm g q 6 = 1 → rm g' q 6 = 1) ∧ (∀ b, 0 ≤ b → b < 8 → rm g q (7 + b) = 2 → rm g' q (7 + b) = 2)) (r6 : pg g p 0 = 1 → rm g' r 6 = 1) (r7 : pg g p 0 ≠ 1 → rm g' r (7 + pg g p 2) = 2) (h3 : g' 343 = g 343 + 1) (h4 : g' 344 = g 344) (h0 : 0 ≤ g 343) : GS P g' := by
  have hI : ∀ d, isCp g' d → d ≠ y → isCp g d := fun d z e => ⟨z.1, by rw [← hcp d 0 z.1.1 z.1.2 e (by omega) (by omega)]; exact z.2⟩
  have hin : ∀ v, v ≤ g 343 → inS P g' v → inS P g v := by
    intro v hv0 ⟨q, t, a1, a2, a3, a4, a5⟩
    have z := hsl q t a1 a2 a3 a4
    by_cases e : q = sl ∧ t = s
    · rw [z.2.1 e] at a5; omega
    · exact ⟨q, t, a1, z.1, a3, a4, by rw [← z.2.2 e]; exact a5⟩
  have sr := h.ser r hr0
  have one : ∀ d q, isCp g d → isRm g q → rm g q 1 = rm g r 1 → rm g q 1 = cp g d 1 → inS P g (cp g d 7) → cp g d 2 ≠ pg g p 2 := by
    intro d q hd hq e1 e2 hi ea
    have e3 := h.seu q r hq hr0 e1
    subst e3
    have l := h.lv d q hd hq e2 hi
    have cd := h.cy d hd
    by_cases kp : pg g p 0 = 1
    · have a1 := hk1 kp
      by_cases kd : cp g d 3 = 1
      · have := l.1 kd; omega
      · have := cd.2.2.1 kd; omega
    · have a1 := hk2 kp
      by_cases kd : cp g d 3 = 1
      · have := cd.2.1 kd; omega
      · have := (l.2 kd).2
        rw [ea] at this
        omega
  unfold GS
  refine ⟨fun d d0 d1 => ?_, fun d hd => ?_, fun q t a1 a2 a3 a4 => ?_, fun q t u w a1 a2 a3 a4 b1 b2 b3 b4 e1 e2 => ?_, fun q hq => ?_, fun q u hq hu e => ?_, fun d q hd hq e hi => ?_, fun d e hd he ev => ?_, fun d e q hd he hq e1 e2 i1 i2 e3 => ?_⟩
  · by_cases e : d = y
    · rw [e]; omega
    · rw [hcp d 0 d0 d1 e (by omega) (by omega)]; exact h.cfl d d0 d1
  · by_cases e : d = y
    · subst e
      rw [y1, y2, y3, y5, y7, y8, h3, h4]
      refine ⟨hk, fun z => (hk1 z).1, fun z => ?_, hvl, Or.inl rfl, by omega, sr⟩
      have := hk2 z
      omega
    · have z := hI d hd e
      rw [hcp d 1 z.1.1 z.1.2 e (by omega) (by omega), hcp d 2 z.1.1 z.1.2 e (by omega) (by omega), hcp d 3 z.1.1 z.1.2 e (by omega) (by omega), hcp d 5 z.1.1 z.1.2 e (by omega) (by omega), hcp d 7 z.1.1 z.1.2 e (by omega) (by omega), hcp d 8 z.1.1 z.1.2 e (by omega) (by omega), h3, h4]
      have := h.cy d z
      refine ⟨this.1, this.2.1, this.2.2.1, this.2.2.2.1, this.2.2.2.2.1, by omega, by omega⟩
  · have z := hsl q t a1 a2 a3 a4
    have y := h.sl q t a1 z.1 a3 a4
    rw [h3]
    by_cases e : q = sl ∧ t = s
    · rw [z.2.1 e]; omega
    · rw [z.2.2 e]; omega
  · have z := hsl q t a1 a2 a3 a4
    have y := hsl u w b1 b2 b3 b4
    have l1 := h.sl q t a1 z.1 a3 a4
    have l2 := h.sl u w b1 y.1 b3 b4
    by_cases e : q = sl ∧ t = s
    · by_cases f : u = sl ∧ w = s
      · exact ⟨e.1.trans f.1.symm, e.2.trans f.2.symm⟩
      · rw [z.2.1 e, y.2.2 f] at e1; omega
    · by_cases f : u = sl ∧ w = s
      · rw [z.2.2 e, y.2.1 f] at e1; omega
      · rw [z.2.2 e, y.2.2 f] at e1
        rw [z.2.2 e] at e2
        exact h.su q t u w a1 z.1 a3 a4 b1 y.1 b3 b4 e1 e2
  · have z := hR q hq
    rw [z.2.1, h4]; exact h.ser q z.1
  · have z := hR q hq
    have y := hR u hu
    rw [z.2.1, y.2.1] at e
    exact h.seu q u z.1 y.1 e
  · have w := hR q hq
    by_cases ey : d = y
    · subst ey
      rw [y1, w.2.1] at e
      have e3 := h.seu q r w.1 hr0 e
      subst e3
      rw [y3, y2, w.2.2.1]
      exact ⟨r6, fun z => ⟨(hk2 z).2.1, r7 z⟩⟩
    · have z := hI d hd ey
      have cd := h.cy d z
      rw [hcp d 1 z.1.1 z.1.2 ey (by omega) (by omega), w.2.1] at e
      rw [hcp d 7 z.1.1 z.1.2 ey (by omega) (by omega)] at hi
      have l := h.lv d q z w.1 e (hin _ (by omega) hi)
      rw [hcp d 3 z.1.1 z.1.2 ey (by omega) (by omega), hcp d 2 z.1.1 z.1.2 ey (by omega) (by omega), w.2.2.1]
      exact ⟨fun k => w.2.2.2.1 (l.1 k), fun k => ⟨(l.2 k).1, w.2.2.2.2 _ (cd.2.2.1 k).1 (cd.2.2.1 k).2 (l.2 k).2⟩⟩
  · by_cases ed : d = y
    · by_cases ee : e = y
      · rw [ed, ee]; exact ⟨rfl, rfl, rfl⟩
      · exfalso
        have z := hI e he ee
        have ce := h.cy e z
        rw [ed, y7, hcp e 7 z.1.1 z.1.2 ee (by omega) (by omega)] at ev
        omega
    · have z := hI d hd ed
      have cd := h.cy d z
      rw [hcp d 7 z.1.1 z.1.2 ed (by omega) (by omega)] at ev
      by_cases ee : e = y
      · exfalso
        rw [ee, y7] at ev
        omega
      · have w := hI e he ee
        rw [hcp e 7 w.1.1 w.1.2 ee (by omega) (by omega)] at ev
        rw [hcp d 1 z.1.1 z.1.2 ed (by omega) (by omega), hcp d 2 z.1.1 z.1.2 ed (by omega) (by omega), hcp d 3 z.1.1 z.1.2 ed (by omega) (by omega), hcp e 1 w.1.1 w.1.2 ee (by omega) (by omega), hcp e 2 w.1.1 w.1.2 ee (by omega) (by omega), hcp e 3 w.1.1 w.1.2 ee (by omega) (by omega)]
        exact h.tw d e z w ev
  · have w := hR q hq
    rw [w.2.1] at e1 e2
    by_cases ed : d = y
    · by_cases ee : e = y
      · rw [ed, ee]
      · exfalso
        have z := hI e he ee
        have ce := h.cy e z
        rw [ed, y1] at e1
        rw [hcp e 1 z.1.1 z.1.2 ee (by omega) (by omega)] at e2
        rw [hcp e 7 z.1.1 z.1.2 ee (by omega) (by omega)] at i2
        rw [ed, y2, hcp e 2 z.1.1 z.1.2 ee (by omega) (by omega)] at e3
        exact one e q z w.1 e1 e2 (hin _ (by omega) i2) e3.symm
    · have z := hI d hd ed
      have cd := h.cy d z
      rw [hcp d 1 z.1.1 z.1.2 ed (by omega) (by omega)] at e1
      rw [hcp d 7 z.1.1 z.1.2 ed (by omega) (by omega)] at i1 ⊢
      rw [hcp d 2 z.1.1 z.1.2 ed (by omega) (by omega)] at e3
      by_cases ee : e = y
      · exfalso
        rw [ee, y1] at e2
        rw [ee, y2] at e3
        exact one d q z w.1 e2 e1 (hin _ (by omega) i1) e3
      · have v := hI e he ee
        have ce := h.cy e v
        rw [hcp e 1 v.1.1 v.1.2 ee (by omega) (by omega)] at e2
        rw [hcp e 7 v.1.1 v.1.2 ee (by omega) (by omega)] at i2 ⊢
        rw [hcp e 2 v.1.1 v.1.2 ee (by omega) (by omega)] at e3
        exact h.tv d e q z v w.1 e1 e2 (hin _ (by omega) i1) (hin _ (by omega) i2) e3
theorem GN.step (h : GN P g n) (hn : n + 1 ≤ 100000) (h2 : ∀ q, 0 ≤ q → q < 4 → rm g' q 2 = rm g q 2 ∨ (0 ≤ rm g' q 2 ∧ rm g' q 2 ≤ 8)) (hm : ∀ q b, 0 ≤ q → q < 4 → 0 ≤ b → b < 8 → rm g' q (15 + b) = rm g q (15 + b) ∨ (0 ≤ rm g' q (15 + b) ∧ rm g' q (15 + b) ≤ P.np)) (h5 : ∀ q, 0 ≤ q → q < 4 → rm g' q 5 = rm g q 5 ∨ rm g' q 5 = rm g q 5 + 1 ∨ rm g' q 5 = 0) (h3 : g' 343 = g 343 ∨ g' 343 = g 343 + 1) (h4 : g' 344 = g 344 ∨ g' 344 = g 344 + 1) (hb : ∀ q b, 0 ≤ q → q < 4 → 0 ≤ b → b < 8 → (rm g' q 2 = rm g q 2 ∧ (b < rm g q 2 ∨ rm g' q (7 + b) = rm g q (7 + b))) ∨ rm g' q (7 + b) = 0) : GN P g' (n + 1) := by
  have v0 := h.v0
  have s0 := h.s0
  unfold GN
  refine ⟨fun q a b => ?_, fun q x a b c d => ?_, fun q a b => ?_, by omega, by omega, h.nh, hn, fun q x a b c d => ?_⟩
  · have := h.rsz q a b
    have := h2 q a b
    omega
  · have := h.map q x a b c d
    have := hm q x a b c d
    omega
  · have := h.epo q a b
    have := h5 q a b
    omega
  · have r1 := h.rsz q a b
    have r2 := h2 q a b
    rcases hb q x a b (by omega) d with ⟨e1, e2⟩ | e
    · have e3 := h.nb q x a b (by omega) d
      omega
    · exact e
end GCS
