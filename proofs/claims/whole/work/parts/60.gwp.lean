/-! what always holds stays so: pages and rooms -/
def SmP (g g' : Int → Int) (q : Int) : Prop := pg g' q 0 = pg g q 0 ∧ pg g' q 1 = pg g q 1 ∧ pg g' q 2 = pg g q 2 ∧ pg g' q 4 = pg g q 4 ∧ pg g' q 5 = pg g q 5
def SmR (g g' : Int → Int) (q : Int) : Prop := rm g' q 0 = rm g q 0 ∧ rm g' q 2 = rm g q 2 ∧ rm g' q 3 = rm g q 3 ∧ rm g' q 5 = rm g q 5 ∧ rm g' q 6 = rm g q 6
section GPS
variable {P : MP} {g g' : Int → Int} {p r a : Int}
theorem GP.same (h : GP P g) (hp : ∀ q, isPg P q → pg g' q 0 = pg g q 0 ∧ pg g' q 1 = pg g q 1 ∧ pg g' q 2 = pg g q 2) (h5 : ∀ q, isPg P q → pg g' q 5 = pg g q 5 ∨ ((pg g q 0 = 2 ∨ pg g q 0 = 3) ∧ 0 ≤ pg g' q 5 ∧ pg g' q 5 ≤ rm g (pg g q 1) 5)) (hv : ∀ q, isPg P q → 0 ≤ pg g' q 4 ∧ pg g' q 4 ≤ 999)
    (hr : ∀ q, 0 ≤ q → q < 4 → rm g' q 0 = rm g q 0 ∧ rm g' q 2 = rm g q 2 ∧ rm g' q 6 = rm g q 6 ∧ rm g q 5 ≤ rm g' q 5 ∧ (rm g' q 3 = rm g q 3 ∨ rm g' q 3 = 2)) (hs : ∀ q b, 0 ≤ q → q < 4 → 0 ≤ b → b < 8 → rm g' q (7 + b) = rm g q (7 + b)) : GP P g' := by
  have hR : ∀ q, isRm g' q ↔ isRm g q := by
    intro q
    constructor
    · intro z
      have := hr q z.1.1 z.1.2
      exact ⟨z.1, by rw [← this.1]; exact z.2⟩
    · intro z
      have := hr q z.1.1 z.1.2
      exact ⟨z.1, by rw [this.1]; exact z.2⟩
  unfold GP
  refine ⟨fun q hq => ?_, fun q hq hk => ?_, fun q hq hk => ?_, fun q hq h1 h2 => ?_, fun q hq hk => ?_, fun q t hq ht hk1 hk2 e1 e2 => ?_, fun q t hq ht hk1 hk2 e1 => ?_, fun q b hq h1 h2 h3 => ?_, fun q hq h6 => ?_, fun q h0 h1 => ?_, fun q hq => ?_, hv⟩
  · rw [(hp q hq).1]; exact h.kd q hq
  · rw [(hp q hq).1] at hk
    have := h.no q hq hk
    have h6 := h5 q hq
    rw [(hp q hq).2.2]
    omega
  · rw [(hp q hq).1] at hk
    rw [(hp q hq).2.1]
    exact h.no1 q hq hk
  · rw [(hp q hq).1] at h1 h2
    rw [(hp q hq).2.1]
    have := h.ow q hq h1 h2
    refine ⟨(hR _).mpr this.1, ?_⟩
    rw [(hr _ this.1.1.1 this.1.1.2).2.2.1]
    exact this.2
  · rw [(hp q hq).1] at hk
    have h6 := h.mv q hq hk
    have h7 := (h.ow q hq (by omega) (by omega)).1
    have h8 := h5 q hq
    have h9 := hr _ h7.1.1 h7.1.2
    have h10 := h.rf _ h7
    rw [(hp q hq).2.1, (hp q hq).2.2, h9.2.1, hs _ _ h7.1.1 h7.1.2 h6.1.1 (by omega)]
    refine ⟨h6.1, h6.2.1, ?_⟩
    omega
  · rw [(hp q hq).1] at hk1
    rw [(hp t ht).1] at hk2
    rw [(hp q hq).2.1, (hp t ht).2.1] at e1
    rw [(hp q hq).2.2, (hp t ht).2.2] at e2
    exact h.un q t hq ht hk1 hk2 e1 e2
  · rw [(hp q hq).1] at hk1
    rw [(hp t ht).1] at hk2
    rw [(hp q hq).2.1, (hp t ht).2.1] at e1
    exact h.r1 q t hq ht hk1 hk2 e1
  · have hq0 := (hR q).mp hq
    have f := h.rf q hq0
    rw [(hr q hq.1.1 hq.1.2).2.1] at h2
    rw [hs q b hq.1.1 hq.1.2 h1 (by omega)] at h3
    obtain ⟨x, hx⟩ := h.he q b hq0 h1 h2 h3
    refine ⟨x, hx.1, ?_⟩
    rw [(hp x hx.1).1, (hp x hx.1).2.1, (hp x hx.1).2.2]
    exact hx.2
  · have hq0 := (hR q).mp hq
    rw [(hr q hq.1.1 hq.1.2).2.2.1] at h6
    obtain ⟨x, hx⟩ := h.rt q hq0 h6
    refine ⟨x, hx.1, ?_⟩
    rw [(hp x hx.1).1, (hp x hx.1).2.1]
    exact hx.2
  · rw [(hr q h0 h1).1]; exact h.fl q h0 h1
  · have hq0 := (hR q).mp hq
    have f := h.rf q hq0
    have f2 := hr q hq.1.1 hq.1.2
    omega
theorem hR_of (hro : ∀ q, 0 ≤ q → q < 4 → SmR g g' q) (q : Int) : isRm g' q ↔ isRm g q := by
  constructor
  · intro z
    exact ⟨z.1, by rw [← (hro q z.1.1 z.1.2).1]; exact z.2⟩
  · intro z
    exact ⟨z.1, by rw [(hro q z.1.1 z.1.2).1]; exact z.2⟩
/-- a free page gets slots -/
theorem GP.slots (h : GP P g) (hp : isPg P p) (h0 : pg g p 0 = 0) (k0 : pg g' p 0 = 4) (k1 : pg g' p 1 = -1) (k2 : pg g' p 2 = -1) (k4 : pg g' p 4 = 0) (k5 : pg g' p 5 = -1) (hpo : ∀ q, isPg P q → q ≠ p → SmP g g' q)
    (hro : ∀ q, 0 ≤ q → q < 4 → SmR g g' q) (hs : ∀ q b, 0 ≤ q → q < 4 → 0 ≤ b → b < 8 → rm g' q (7 + b) = rm g q (7 + b)) : GP P g' := by
  have hR := hR_of hro
  unfold GP
  refine ⟨fun q hq => ?_, fun q hq hk => ?_, fun q hq hk => ?_, fun q hq h1 h2 => ?_, fun q hq hk => ?_, fun q t hq ht hk1 hk2 e1 e2 => ?_, fun q t hq ht hk1 hk2 e1 => ?_, fun q b hq h1 h2 h3 => ?_, fun q hq h6 => ?_, fun q h0 h1 => ?_, fun q hq => ?_, fun q hq => ?_⟩
  · by_cases e : q = p
    · subst e; omega
    · rw [(hpo q hq e).1]; exact h.kd q hq
  · by_cases e : q = p
    · subst e; omega
    · obtain ⟨a0, a1, a2, a4, a5⟩ := hpo q hq e
      rw [a0] at hk
      rw [a2, a5]; exact h.no q hq hk
  · by_cases e : q = p
    · subst e; omega
    · obtain ⟨a0, a1, a2, a4, a5⟩ := hpo q hq e
      rw [a0] at hk
      rw [a1]; exact h.no1 q hq hk
  · by_cases e : q = p
    · subst e; omega
    · obtain ⟨a0, a1, a2, a4, a5⟩ := hpo q hq e
      rw [a0] at h1 h2
      have := h.ow q hq h1 h2
      rw [a1]
      exact ⟨(hR _).mpr this.1, by rw [(hro _ this.1.1.1 this.1.1.2).2.2.2.2]; exact this.2⟩
  · by_cases e : q = p
    · subst e; omega
    · obtain ⟨a0, a1, a2, a4, a5⟩ := hpo q hq e
      rw [a0] at hk
      have h6 := h.mv q hq hk
      have h7 := (h.ow q hq (by omega) (by omega)).1
      have h10 := h.rf _ h7
      obtain ⟨b0, b2, b3, b5, b6⟩ := hro _ h7.1.1 h7.1.2
      rw [a1, a2, a5, b2, b5, hs _ _ h7.1.1 h7.1.2 h6.1.1 (by omega)]
      exact h6
  · have e3 : q ≠ p := fun e => by subst e; omega
    have e4 : t ≠ p := fun e => by subst e; omega
    obtain ⟨a0, a1, a2, a4, a5⟩ := hpo q hq e3
    obtain ⟨b0, b1, b2, b4, b5⟩ := hpo t ht e4
    rw [a0] at hk1
    rw [b0] at hk2
    rw [a1, b1] at e1
    rw [a2, b2] at e2
    exact h.un q t hq ht hk1 hk2 e1 e2
  · have e3 : q ≠ p := fun e => by subst e; omega
    have e4 : t ≠ p := fun e => by subst e; omega
    obtain ⟨a0, a1, a2, a4, a5⟩ := hpo q hq e3
    obtain ⟨b0, b1, b2, b4, b5⟩ := hpo t ht e4
    rw [a0] at hk1
    rw [b0] at hk2
    rw [a1, b1] at e1
    exact h.r1 q t hq ht hk1 hk2 e1
  · have hq0 := (hR q).mp hq
    have f := h.rf q hq0
    rw [(hro q hq.1.1 hq.1.2).2.1] at h2
    rw [hs q b hq.1.1 hq.1.2 h1 (by omega)] at h3
    obtain ⟨x, hx⟩ := h.he q b hq0 h1 h2 h3
    have e3 : x ≠ p := fun e => by subst e; omega
    obtain ⟨a0, a1, a2, a4, a5⟩ := hpo x hx.1 e3
    exact ⟨x, hx.1, by rw [a0, a1, a2]; exact hx.2⟩
  · have hq0 := (hR q).mp hq
    rw [(hro q hq.1.1 hq.1.2).2.2.2.2] at h6
    obtain ⟨x, hx⟩ := h.rt q hq0 h6
    have e3 : x ≠ p := fun e => by subst e; omega
    obtain ⟨a0, a1, a2, a4, a5⟩ := hpo x hx.1 e3
    exact ⟨x, hx.1, by rw [a0, a1]; exact hx.2⟩
  · rw [(hro q h0 h1).1]; exact h.fl q h0 h1
  · have hq0 := (hR q).mp hq
    obtain ⟨b0, b2, b3, b5, b6⟩ := hro q hq.1.1 hq.1.2
    rw [b2, b3, b6]
    exact h.rf q hq0
  · by_cases e : q = p
    · subst e; omega
    · rw [(hpo q hq e).2.2.2.1]; exact h.vl q hq
/-- a free page gets an address's page -/
theorem GP.fill (h : GP P g) (hp : isPg P p) (h0 : pg g p 0 = 0) (hr : isRm g r) (ha : 0 ≤ a ∧ a < rm g r 2) (h6 : rm g r 6 = 0) (hst : rm g r (7 + a) ≠ 1) (k0 : pg g' p 0 = 2 ∨ pg g' p 0 = 3) (k1 : pg g' p 1 = r) (k2 : pg g' p 2 = a) (k4 : 0 ≤ pg g' p 4 ∧ pg g' p 4 ≤ 999) (k5 : pg g' p 5 = -1) (hpo : ∀ q, isPg P q → q ≠ p → SmP g g' q)
    (hro : ∀ q, 0 ≤ q → q < 4 → SmR g g' q) (hs1 : rm g' r (7 + a) = 1) (hs : ∀ q b, 0 ≤ q → q < 4 → 0 ≤ b → b < 8 → ¬ (q = r ∧ b = a) → rm g' q (7 + b) = rm g q (7 + b)) : GP P g' := by
  have hR := hR_of hro
  have fr := h.rf r hr
  have key : ∀ q, isPg P q → (pg g q 0 = 2 ∨ pg g q 0 = 3) → ¬ (pg g q 1 = r ∧ pg g q 2 = a) := by
    intro q hq hk e
    have := (h.mv q hq hk).2.1
    rw [e.1, e.2] at this
    exact hst this
  unfold GP
  refine ⟨fun q hq => ?_, fun q hq hk => ?_, fun q hq hk => ?_, fun q hq h1 h2 => ?_, fun q hq hk => ?_, fun q t hq ht hk1 hk2 e1 e2 => ?_, fun q t hq ht hk1 hk2 e1 => ?_, fun q b hq h1 h2 h3 => ?_, fun q hq h6 => ?_, fun q h0 h1 => ?_, fun q hq => ?_, fun q hq => ?_⟩
  · by_cases e : q = p
    · subst e; omega
    · rw [(hpo q hq e).1]; exact h.kd q hq
  · by_cases e : q = p
    · subst e; omega
    · obtain ⟨a0, a1, a2, a4, a5⟩ := hpo q hq e
      rw [a0] at hk
      rw [a2, a5]; exact h.no q hq hk
  · by_cases e : q = p
    · subst e; omega
    · obtain ⟨a0, a1, a2, a4, a5⟩ := hpo q hq e
      rw [a0] at hk
      rw [a1]; exact h.no1 q hq hk
  · by_cases e : q = p
    · subst e
      rw [k1]
      exact ⟨(hR _).mpr hr, by rw [(hro _ hr.1.1 hr.1.2).2.2.2.2]; exact h6⟩
    · obtain ⟨a0, a1, a2, a4, a5⟩ := hpo q hq e
      rw [a0] at h1 h2
      have := h.ow q hq h1 h2
      rw [a1]
      exact ⟨(hR _).mpr this.1, by rw [(hro _ this.1.1.1 this.1.1.2).2.2.2.2]; exact this.2⟩
  · by_cases e : q = p
    · subst e
      rw [k1, k2, (hro _ hr.1.1 hr.1.2).2.1]
      exact ⟨ha, hs1, Or.inl k5⟩
    · obtain ⟨a0, a1, a2, a4, a5⟩ := hpo q hq e
      rw [a0] at hk
      have h6 := h.mv q hq hk
      have h7 := (h.ow q hq (by omega) (by omega)).1
      have h10 := h.rf _ h7
      obtain ⟨b0, b2, b3, b5, b6⟩ := hro _ h7.1.1 h7.1.2
      rw [a1, a2, a5, b2, b5, hs _ _ h7.1.1 h7.1.2 h6.1.1 (by omega) (key q hq hk)]
      exact h6
  · by_cases e3 : q = p
    · by_cases e4 : t = p
      · rw [e3, e4]
      · exfalso
        obtain ⟨b0, b1, b2, b4, b5⟩ := hpo t ht e4
        rw [b0] at hk2
        refine key t ht hk2 ⟨?_, ?_⟩
        · rw [← b1, ← e1, e3, k1]
        · rw [← b2, ← e2, e3, k2]
    · obtain ⟨a0, a1, a2, a4, a5⟩ := hpo q hq e3
      rw [a0] at hk1
      by_cases e4 : t = p
      · exfalso
        refine key q hq hk1 ⟨?_, ?_⟩
        · rw [← a1, e1, e4, k1]
        · rw [← a2, e2, e4, k2]
      · obtain ⟨b0, b1, b2, b4, b5⟩ := hpo t ht e4
        rw [b0] at hk2
        rw [a1, b1] at e1
        rw [a2, b2] at e2
        exact h.un q t hq ht hk1 hk2 e1 e2
  · have e3 : q ≠ p := fun e => by subst e; omega
    have e4 : t ≠ p := fun e => by subst e; omega
    obtain ⟨a0, a1, a2, a4, a5⟩ := hpo q hq e3
    obtain ⟨b0, b1, b2, b4, b5⟩ := hpo t ht e4
    rw [a0] at hk1
    rw [b0] at hk2
    rw [a1, b1] at e1
    exact h.r1 q t hq ht hk1 hk2 e1
  · by_cases e : q = r ∧ b = a
    · rw [e.1, e.2]
      exact ⟨p, hp, k0, k1, k2⟩
    · have hq0 := (hR q).mp hq
      have f := h.rf q hq0
      rw [(hro q hq.1.1 hq.1.2).2.1] at h2
      rw [hs q b hq.1.1 hq.1.2 h1 (by omega) e] at h3
      obtain ⟨x, hx⟩ := h.he q b hq0 h1 h2 h3
      have e3 : x ≠ p := fun e => by subst e; omega
      obtain ⟨a0, a1, a2, a4, a5⟩ := hpo x hx.1 e3
      exact ⟨x, hx.1, by rw [a0, a1, a2]; exact hx.2⟩
  · have hq0 := (hR q).mp hq
    rw [(hro q hq.1.1 hq.1.2).2.2.2.2] at h6
    obtain ⟨x, hx⟩ := h.rt q hq0 h6
    have e3 : x ≠ p := fun e => by subst e; omega
    obtain ⟨a0, a1, a2, a4, a5⟩ := hpo x hx.1 e3
    exact ⟨x, hx.1, by rw [a0, a1]; exact hx.2⟩
  · rw [(hro q h0 h1).1]; exact h.fl q h0 h1
  · have hq0 := (hR q).mp hq
    obtain ⟨b0, b2, b3, b5, b6⟩ := hro q hq.1.1 hq.1.2
    rw [b2, b3, b6]
    exact h.rf q hq0
  · by_cases e : q = p
    · subst e; exact k4
    · rw [(hpo q hq e).2.2.2.1]; exact h.vl q hq
/-- a page is cleared: slots, or an address's page -/
theorem GP.clear (h : GP P g) (hp : isPg P p) (h0 : pg g p 0 = 2 ∨ pg g p 0 = 3 ∨ pg g p 0 = 4) (k0 : pg g' p 0 = 0) (k1 : pg g' p 1 = -1) (k2 : pg g' p 2 = -1) (k4 : pg g' p 4 = 0) (k5 : pg g' p 5 = -1) (hpo : ∀ q, isPg P q → q ≠ p → SmP g g' q)
    (hro : ∀ q, 0 ≤ q → q < 4 → SmR g g' q) (hs1 : pg g p 0 ≠ 4 → rm g' (pg g p 1) (7 + pg g p 2) ≠ 1) (hs : ∀ q b, 0 ≤ q → q < 4 → 0 ≤ b → b < 8 → ¬ (q = pg g p 1 ∧ b = pg g p 2) → rm g' q (7 + b) = rm g q (7 + b)) : GP P g' := by
  have hR := hR_of hro
  have key : ∀ q, isPg P q → q ≠ p → (pg g q 0 = 2 ∨ pg g q 0 = 3) → ¬ (pg g q 1 = pg g p 1 ∧ pg g q 2 = pg g p 2) := by
    intro q hq hn hk e
    have h7 := h.mv q hq hk
    by_cases z : pg g p 0 = 4
    · have := h.no p hp (by omega)
      omega
    · exact hn (h.un q p hq hp hk (by omega) e.1 e.2)
  unfold GP
  refine ⟨fun q hq => ?_, fun q hq hk => ?_, fun q hq hk => ?_, fun q hq h1 h2 => ?_, fun q hq hk => ?_, fun q t hq ht hk1 hk2 e1 e2 => ?_, fun q t hq ht hk1 hk2 e1 => ?_, fun q b hq h1 h2 h3 => ?_, fun q hq h6 => ?_, fun q h0 h1 => ?_, fun q hq => ?_, fun q hq => ?_⟩
  · by_cases e : q = p
    · subst e; omega
    · rw [(hpo q hq e).1]; exact h.kd q hq
  · by_cases e : q = p
    · subst e; omega
    · obtain ⟨a0, a1, a2, a4, a5⟩ := hpo q hq e
      rw [a0] at hk
      rw [a2, a5]; exact h.no q hq hk
  · by_cases e : q = p
    · subst e; omega
    · obtain ⟨a0, a1, a2, a4, a5⟩ := hpo q hq e
      rw [a0] at hk
      rw [a1]; exact h.no1 q hq hk
  · have e : q ≠ p := fun e => by subst e; omega
    obtain ⟨a0, a1, a2, a4, a5⟩ := hpo q hq e
    rw [a0] at h1 h2
    have := h.ow q hq h1 h2
    rw [a1]
    exact ⟨(hR _).mpr this.1, by rw [(hro _ this.1.1.1 this.1.1.2).2.2.2.2]; exact this.2⟩
  · have e : q ≠ p := fun e => by subst e; omega
    obtain ⟨a0, a1, a2, a4, a5⟩ := hpo q hq e
    rw [a0] at hk
    have h6 := h.mv q hq hk
    have h7 := (h.ow q hq (by omega) (by omega)).1
    have h10 := h.rf _ h7
    obtain ⟨b0, b2, b3, b5, b6⟩ := hro _ h7.1.1 h7.1.2
    rw [a1, a2, a5, b2, b5, hs _ _ h7.1.1 h7.1.2 h6.1.1 (by omega) (key q hq e hk)]
    exact h6
  · have e3 : q ≠ p := fun e => by subst e; omega
    have e4 : t ≠ p := fun e => by subst e; omega
    obtain ⟨a0, a1, a2, a4, a5⟩ := hpo q hq e3
    obtain ⟨b0, b1, b2, b4, b5⟩ := hpo t ht e4
    rw [a0] at hk1
    rw [b0] at hk2
    rw [a1, b1] at e1
    rw [a2, b2] at e2
    exact h.un q t hq ht hk1 hk2 e1 e2
  · have e3 : q ≠ p := fun e => by subst e; omega
    have e4 : t ≠ p := fun e => by subst e; omega
    obtain ⟨a0, a1, a2, a4, a5⟩ := hpo q hq e3
    obtain ⟨b0, b1, b2, b4, b5⟩ := hpo t ht e4
    rw [a0] at hk1
    rw [b0] at hk2
    rw [a1, b1] at e1
    exact h.r1 q t hq ht hk1 hk2 e1
  · have hq0 := (hR q).mp hq
    have f := h.rf q hq0
    have e5 : ¬ (q = pg g p 1 ∧ b = pg g p 2) := by
      intro z
      by_cases y : pg g p 0 = 4
      · have := h.no p hp (by omega)
        omega
      · have := hs1 y
        rw [← z.1, ← z.2] at this
        exact this h3
    rw [(hro q hq.1.1 hq.1.2).2.1] at h2
    rw [hs q b hq.1.1 hq.1.2 h1 (by omega) e5] at h3
    obtain ⟨x, hx⟩ := h.he q b hq0 h1 h2 h3
    have e3 : x ≠ p := fun e => e5 (by subst e; exact ⟨hx.2.2.1.symm, hx.2.2.2.symm⟩)
    obtain ⟨a0, a1, a2, a4, a5⟩ := hpo x hx.1 e3
    exact ⟨x, hx.1, by rw [a0, a1, a2]; exact hx.2⟩
  · have hq0 := (hR q).mp hq
    rw [(hro q hq.1.1 hq.1.2).2.2.2.2] at h6
    obtain ⟨x, hx⟩ := h.rt q hq0 h6
    have e3 : x ≠ p := fun e => by subst e; omega
    obtain ⟨a0, a1, a2, a4, a5⟩ := hpo x hx.1 e3
    exact ⟨x, hx.1, by rw [a0, a1]; exact hx.2⟩
  · rw [(hro q h0 h1).1]; exact h.fl q h0 h1
  · have hq0 := (hR q).mp hq
    obtain ⟨b0, b2, b3, b5, b6⟩ := hro q hq.1.1 hq.1.2
    rw [b2, b3, b6]
    exact h.rf q hq0
  · by_cases e : q = p
    · subst e; omega
    · rw [(hpo q hq e).2.2.2.1]; exact h.vl q hq
/-- a free page gets a room's root: of a new room, or of one whose root was away -/
theorem GP.rootin (h : GP P g) (hp : isPg P p) (h0 : pg g p 0 = 0) (hr : 0 ≤ r ∧ r < 4) (hn : isRm g r → rm g r 6 = 1) (k0 : pg g' p 0 = 1) (k1 : pg g' p 1 = r) (k2 : pg g' p 2 = -1) (k4 : 0 ≤ pg g' p 4 ∧ pg g' p 4 ≤ 999) (k5 : pg g' p 5 = -1) (hpo : ∀ q, isPg P q → q ≠ p → SmP g g' q)
    (hro : ∀ q, 0 ≤ q → q < 4 → q ≠ r → SmR g g' q) (r0 : rm g' r 0 = 1) (r6 : rm g' r 6 = 0) (rr2 : (1 ≤ rm g' r 2 ∧ rm g' r 2 ≤ 8) ∧ (rm g' r 3 = 1 ∨ rm g' r 3 = 2)) (hsr : ∀ b, 0 ≤ b → b < rm g' r 2 → rm g' r (7 + b) ≠ 1) (hs : ∀ q b, 0 ≤ q → q < 4 → 0 ≤ b → b < 8 → q ≠ r → rm g' q (7 + b) = rm g q (7 + b)) : GP P g' := by
  have hR : ∀ q, q ≠ r → (isRm g' q ↔ isRm g q) := by
    intro q e
    constructor
    · intro z
      exact ⟨z.1, by rw [← (hro q z.1.1 z.1.2 e).1]; exact z.2⟩
    · intro z
      exact ⟨z.1, by rw [(hro q z.1.1 z.1.2 e).1]; exact z.2⟩
  have key : ∀ q, isPg P q → 1 ≤ pg g q 0 → pg g q 0 ≤ 3 → pg g q 1 ≠ r := by
    intro q hq h1 h2 e
    have h3 := h.ow q hq h1 h2
    rw [e] at h3
    have := hn h3.1
    omega
  unfold GP
  refine ⟨fun q hq => ?_, fun q hq hk => ?_, fun q hq hk => ?_, fun q hq h1 h2 => ?_, fun q hq hk => ?_, fun q t hq ht hk1 hk2 e1 e2 => ?_, fun q t hq ht hk1 hk2 e1 => ?_, fun q b hq h1 h2 h3 => ?_, fun q hq h6 => ?_, fun q h0 h1 => ?_, fun q hq => ?_, fun q hq => ?_⟩
  · by_cases e : q = p
    · subst e; omega
    · rw [(hpo q hq e).1]; exact h.kd q hq
  · by_cases e : q = p
    · subst e; omega
    · obtain ⟨a0, a1, a2, a4, a5⟩ := hpo q hq e
      rw [a0] at hk
      rw [a2, a5]; exact h.no q hq hk
  · by_cases e : q = p
    · subst e; omega
    · obtain ⟨a0, a1, a2, a4, a5⟩ := hpo q hq e
      rw [a0] at hk
      rw [a1]; exact h.no1 q hq hk
  · by_cases e : q = p
    · subst e
      rw [k1]
      exact ⟨⟨hr, r0⟩, r6⟩
    · obtain ⟨a0, a1, a2, a4, a5⟩ := hpo q hq e
      rw [a0] at h1 h2
      have := h.ow q hq h1 h2
      have e2 := key q hq h1 h2
      rw [a1]
      exact ⟨(hR _ e2).mpr this.1, by rw [(hro _ this.1.1.1 this.1.1.2 e2).2.2.2.2]; exact this.2⟩
  · have e : q ≠ p := fun e => by subst e; omega
    obtain ⟨a0, a1, a2, a4, a5⟩ := hpo q hq e
    rw [a0] at hk
    have h6 := h.mv q hq hk
    have h7 := (h.ow q hq (by omega) (by omega)).1
    have h10 := h.rf _ h7
    have e2 := key q hq (by omega) (by omega)
    obtain ⟨b0, b2, b3, b5, b6⟩ := hro _ h7.1.1 h7.1.2 e2
    rw [a1, a2, a5, b2, b5, hs _ _ h7.1.1 h7.1.2 h6.1.1 (by omega) e2]
    exact h6
  · have e3 : q ≠ p := fun e => by subst e; omega
    have e4 : t ≠ p := fun e => by subst e; omega
    obtain ⟨a0, a1, a2, a4, a5⟩ := hpo q hq e3
    obtain ⟨b0, b1, b2, b4, b5⟩ := hpo t ht e4
    rw [a0] at hk1
    rw [b0] at hk2
    rw [a1, b1] at e1
    rw [a2, b2] at e2
    exact h.un q t hq ht hk1 hk2 e1 e2
  · by_cases e3 : q = p
    · by_cases e4 : t = p
      · rw [e3, e4]
      · exfalso
        obtain ⟨b0, b1, b2, b4, b5⟩ := hpo t ht e4
        rw [b0] at hk2
        refine key t ht (by omega) (by omega) ?_
        rw [← b1, ← e1, e3, k1]
    · obtain ⟨a0, a1, a2, a4, a5⟩ := hpo q hq e3
      rw [a0] at hk1
      by_cases e4 : t = p
      · exfalso
        refine key q hq (by omega) (by omega) ?_
        rw [← a1, e1, e4, k1]
      · obtain ⟨b0, b1, b2, b4, b5⟩ := hpo t ht e4
        rw [b0] at hk2
        rw [a1, b1] at e1
        exact h.r1 q t hq ht hk1 hk2 e1
  · by_cases e : q = r
    · subst e
      exact absurd h3 (hsr b h1 h2)
    · have hq0 := (hR q e).mp hq
      have f := h.rf q hq0
      rw [(hro q hq.1.1 hq.1.2 e).2.1] at h2
      rw [hs q b hq.1.1 hq.1.2 h1 (by omega) e] at h3
      obtain ⟨x, hx⟩ := h.he q b hq0 h1 h2 h3
      have e3 : x ≠ p := fun e => by subst e; omega
      obtain ⟨a0, a1, a2, a4, a5⟩ := hpo x hx.1 e3
      exact ⟨x, hx.1, by rw [a0, a1, a2]; exact hx.2⟩
  · by_cases e : q = r
    · exact ⟨p, hp, k0, by rw [e]; exact k1⟩
    · have hq0 := (hR q e).mp hq
      rw [(hro q hq.1.1 hq.1.2 e).2.2.2.2] at h6
      obtain ⟨x, hx⟩ := h.rt q hq0 h6
      have e3 : x ≠ p := fun e => by subst e; omega
      obtain ⟨a0, a1, a2, a4, a5⟩ := hpo x hx.1 e3
      exact ⟨x, hx.1, by rw [a0, a1]; exact hx.2⟩
  · by_cases e : q = r
    · rw [e]; exact Or.inr r0
    · rw [(hro q h0 h1 e).1]; exact h.fl q h0 h1
  · by_cases e : q = r
    · subst e
      exact ⟨rr2.1, rr2.2, Or.inl r6⟩
    · have hq0 := (hR q e).mp hq
      obtain ⟨b0, b2, b3, b5, b6⟩ := hro q hq.1.1 hq.1.2 e
      rw [b2, b3, b6]
      exact h.rf q hq0
  · by_cases e : q = p
    · subst e; exact k4
    · rw [(hpo q hq e).2.2.2.1]; exact h.vl q hq
/-- a root goes: its room's root is away then, or the room is gone -/
theorem GP.rootout (h : GP P g) (hp : isPg P p) (h0 : pg g p 0 = 1) (hr : pg g p 1 = r) (hone : ∀ q, isPg P q → q ≠ p → pg g q 1 ≠ r) (k0 : pg g' p 0 = 0) (k1 : pg g' p 1 = -1) (k2 : pg g' p 2 = -1) (k4 : pg g' p 4 = 0) (k5 : pg g' p 5 = -1) (hpo : ∀ q, isPg P q → q ≠ p → SmP g g' q)
    (hro : ∀ q, 0 ≤ q → q < 4 → q ≠ r → SmR g g' q) (r0 : rm g' r 0 = 0 ∨ (rm g' r 0 = 1 ∧ rm g' r 6 = 1)) (rr2 : rm g' r 2 = rm g r 2 ∧ rm g' r 3 = rm g r 3) (hs : ∀ q b, 0 ≤ q → q < 4 → 0 ≤ b → b < 8 → rm g' q (7 + b) = rm g q (7 + b)) : GP P g' := by
  have hR : ∀ q, q ≠ r → (isRm g' q ↔ isRm g q) := by
    intro q e
    constructor
    · intro z
      exact ⟨z.1, by rw [← (hro q z.1.1 z.1.2 e).1]; exact z.2⟩
    · intro z
      exact ⟨z.1, by rw [(hro q z.1.1 z.1.2 e).1]; exact z.2⟩
  have hrr := (h.ow p hp (by omega) (by omega)).1
  rw [hr] at hrr
  have key : ∀ q, isPg P q → 1 ≤ pg g q 0 → pg g q 0 ≤ 3 → q ≠ p → pg g q 1 ≠ r := fun q hq h1 h2 e => hone q hq e
  unfold GP
  refine ⟨fun q hq => ?_, fun q hq hk => ?_, fun q hq hk => ?_, fun q hq h1 h2 => ?_, fun q hq hk => ?_, fun q t hq ht hk1 hk2 e1 e2 => ?_, fun q t hq ht hk1 hk2 e1 => ?_, fun q b hq h1 h2 h3 => ?_, fun q hq h6 => ?_, fun q h0 h1 => ?_, fun q hq => ?_, fun q hq => ?_⟩
  · by_cases e : q = p
    · subst e; omega
    · rw [(hpo q hq e).1]; exact h.kd q hq
  · by_cases e : q = p
    · subst e; omega
    · obtain ⟨a0, a1, a2, a4, a5⟩ := hpo q hq e
      rw [a0] at hk
      rw [a2, a5]; exact h.no q hq hk
  · by_cases e : q = p
    · subst e; omega
    · obtain ⟨a0, a1, a2, a4, a5⟩ := hpo q hq e
      rw [a0] at hk
      rw [a1]; exact h.no1 q hq hk
  · have e : q ≠ p := fun e => by subst e; omega
    obtain ⟨a0, a1, a2, a4, a5⟩ := hpo q hq e
    rw [a0] at h1 h2
    have := h.ow q hq h1 h2
    have e2 := key q hq h1 h2 e
    rw [a1]
    exact ⟨(hR _ e2).mpr this.1, by rw [(hro _ this.1.1.1 this.1.1.2 e2).2.2.2.2]; exact this.2⟩
  · have e : q ≠ p := fun e => by subst e; omega
    obtain ⟨a0, a1, a2, a4, a5⟩ := hpo q hq e
    rw [a0] at hk
    have h6 := h.mv q hq hk
    have h7 := (h.ow q hq (by omega) (by omega)).1
    have h10 := h.rf _ h7
    have e2 := key q hq (by omega) (by omega) e
    obtain ⟨b0, b2, b3, b5, b6⟩ := hro _ h7.1.1 h7.1.2 e2
    rw [a1, a2, a5, b2, b5, hs _ _ h7.1.1 h7.1.2 h6.1.1 (by omega)]
    exact h6
  · have e3 : q ≠ p := fun e => by subst e; omega
    have e4 : t ≠ p := fun e => by subst e; omega
    obtain ⟨a0, a1, a2, a4, a5⟩ := hpo q hq e3
    obtain ⟨b0, b1, b2, b4, b5⟩ := hpo t ht e4
    rw [a0] at hk1
    rw [b0] at hk2
    rw [a1, b1] at e1
    rw [a2, b2] at e2
    exact h.un q t hq ht hk1 hk2 e1 e2
  · have e3 : q ≠ p := fun e => by subst e; omega
    have e4 : t ≠ p := fun e => by subst e; omega
    obtain ⟨a0, a1, a2, a4, a5⟩ := hpo q hq e3
    obtain ⟨b0, b1, b2, b4, b5⟩ := hpo t ht e4
    rw [a0] at hk1
    rw [b0] at hk2
    rw [a1, b1] at e1
    exact h.r1 q t hq ht hk1 hk2 e1
  · have hq0 : isRm g q := by
      by_cases e : q = r
      · rw [e]; exact hrr
      · exact (hR q e).mp hq
    have f := h.rf q hq0
    have e2 : rm g' q 2 = rm g q 2 := by
      by_cases e : q = r
      · rw [e]; exact rr2.1
      · exact (hro q hq.1.1 hq.1.2 e).2.1
    rw [e2] at h2
    rw [hs q b hq.1.1 hq.1.2 h1 (by omega)] at h3
    obtain ⟨x, hx⟩ := h.he q b hq0 h1 h2 h3
    have e3 : x ≠ p := fun e => by subst e; omega
    obtain ⟨a0, a1, a2, a4, a5⟩ := hpo x hx.1 e3
    exact ⟨x, hx.1, by rw [a0, a1, a2]; exact hx.2⟩
  · have e : q ≠ r := fun e => by subst e; omega
    have hq0 := (hR q e).mp hq
    rw [(hro q hq.1.1 hq.1.2 e).2.2.2.2] at h6
    obtain ⟨x, hx⟩ := h.rt q hq0 h6
    have e3 : x ≠ p := fun z => by subst z; exact e (hx.2.2.symm.trans hr)
    obtain ⟨a0, a1, a2, a4, a5⟩ := hpo x hx.1 e3
    exact ⟨x, hx.1, by rw [a0, a1]; exact hx.2⟩
  · by_cases e : q = r
    · rw [e]; omega
    · rw [(hro q h0 h1 e).1]; exact h.fl q h0 h1
  · by_cases e : q = r
    · subst e
      have := h.rf q hrr
      have hq2 := hq.2
      rw [rr2.1, rr2.2]
      exact ⟨this.1, this.2.1, by omega⟩
    · have hq0 := (hR q e).mp hq
      obtain ⟨b0, b2, b3, b5, b6⟩ := hro q hq.1.1 hq.1.2 e
      rw [b2, b3, b6]
      exact h.rf q hq0
  · by_cases e : q = p
    · subst e; omega
    · rw [(hpo q hq e).2.2.2.1]; exact h.vl q hq
end GPS
