/-! contracts: what the methods do, as pure functions of the reference's row of numbers -/
/-- gives an int, writes nothing -/
def PU (m : Nat) (args : List AV) (σ : ST) (r : Int) : Prop := ∀ Q : Option AV → ST → Prop, Q (some (.inl r)) σ → wpM m args σ Q
theorem PU.mk {m : Nat} {args : List AV} {σ : ST} {r : Int} (h : ∀ Q : Option AV → ST → Prop, (∀ x, x = r → Q (some (.inl x)) σ) → wpM m args σ Q) : PU m args σ r := fun Q hQ => h Q (fun x e => by rw [e]; exact hQ)
theorem PU.I {m : Nat} {args : List AV} {σ : ST} {r : Int} {F : Int → ST → Prop} (h : PU m args σ r) (k : F r σ) : wpM m args σ (asI F) := h _ k
theorem PU.to {m : Nat} {args : List AV} {σ : ST} {r r' : Int} (h : PU m args σ r) (e : r = r') : PU m args σ r' := e ▸ h
def b2 (c : Prop) [Decidable c] : Int := if c then 1 else 0
theorem b2_e0 {c : Prop} [Decidable c] : (b2 c = 0) = ¬ c := by
  unfold b2
  by_cases h : c
  · rw [if_pos h]; simp [h]
  · rw [if_neg h]; simp [h]
theorem b2_e1 {c : Prop} [Decidable c] : (b2 c = 1) = c := by
  unfold b2
  by_cases h : c
  · rw [if_pos h]; simp [h]
  · rw [if_neg h]; simp [h]
theorem b2_l {c : Prop} [Decidable c] (h : ¬ c) : (0 : Int) = b2 c := (if_neg h).symm
theorem b2_h {c : Prop} [Decidable c] (h : c) : (1 : Int) = b2 c := (if_pos h).symm
theorem b2_01 (c : Prop) [Decidable c] : b2 c = 0 ∨ b2 c = 1 := by
  unfold b2
  split
  · exact Or.inr rfl
  · exact Or.inl rfl
theorem b2_iff {c d : Prop} [Decidable c] [Decidable d] (h : c ↔ d) : b2 c = b2 d := by
  unfold b2
  by_cases hc : c
  · rw [if_pos hc, if_pos (h.mp hc)]
  · rw [if_neg hc, if_neg (fun z => hc (h.mpr z))]
/-- the first place from i on -/
def ff (c : Int → Prop) [DecidablePred c] : Nat → Int → Int
  | 0, _ => -1
  | n + 1, i => if c i then i else ff c n (i + 1)
theorem ff_no {c : Int → Prop} [DecidablePred c] {n : Nat} {i : Int} (h : ¬ c i) : ff c (n + 1) i = ff c n (i + 1) := if_neg h
theorem ff_yes {c : Int → Prop} [DecidablePred c] {n : Nat} {i : Int} (h : c i) : ff c (n + 1) i = i := if_pos h
theorem ff_iff {c d : Int → Prop} [DecidablePred c] [DecidablePred d] : ∀ (n : Nat) (i : Int), (∀ j, i ≤ j → j < i + n → (c j ↔ d j)) → ff c n i = ff d n i
  | 0, _, _ => rfl
  | n + 1, i, h => by
    have h0 := h i (Int.le_refl _) (by omega)
    have h1 := ff_iff n (i + 1) (fun j a b => h j (by omega) (by omega))
    unfold ff
    by_cases hc : c i
    · rw [if_pos hc, if_pos (h0.mp hc)]
    · rw [if_neg hc, if_neg (fun z => hc (h0.mpr z)), h1]
theorem ff_at {c : Int → Prop} [DecidablePred c] : ∀ (n : Nat) (i : Int), ff c n i = -1 ∨ (i ≤ ff c n i ∧ ff c n i < i + n ∧ c (ff c n i))
  | 0, _ => Or.inl rfl
  | n + 1, i => by
    by_cases hc : c i
    · rw [ff_yes hc]
      exact Or.inr ⟨Int.le_refl _, by omega, hc⟩
    · rw [ff_no hc]
      rcases ff_at (c := c) n (i + 1) with h | h
      · exact Or.inl h
      · exact Or.inr ⟨by omega, by omega, h.2.2⟩
/-- a machine's rules: pages, cores, hold, key -/
abbrev MP : Type := Int × Int × Int × Int
def MP.np (P : MP) : Int := P.1
def MP.nc (P : MP) : Int := P.2.1
def MP.nh (P : MP) : Int := P.2.2.1
def MP.key (P : MP) : Int := P.2.2.2
def MPok (P : MP) : Prop := (0 ≤ P.np) ∧ (P.np ≤ 10) ∧ (0 ≤ P.nc) ∧ (P.nc ≤ 3) ∧ (0 ≤ P.nh) ∧ (P.nh ≤ 3) ∧ (P.np = 0 → P.nc = 0)
theorem MPok.p0 {P : MP} (h : MPok P) : 0 ≤ P.np := h.1
theorem MPok.p1 {P : MP} (h : MPok P) : P.np ≤ 10 := h.2.1
theorem MPok.c0 {P : MP} (h : MPok P) : 0 ≤ P.nc := h.2.2.1
theorem MPok.c1 {P : MP} (h : MPok P) : P.nc ≤ 3 := h.2.2.2.1
theorem MPok.h0 {P : MP} (h : MPok P) : 0 ≤ P.nh := h.2.2.2.2.1
theorem MPok.h1 {P : MP} (h : MPok P) : P.nh ≤ 3 := h.2.2.2.2.2.1
theorem MPok.z {P : MP} (h : MPok P) : P.np = 0 → P.nc = 0 := h.2.2.2.2.2.2
def pg (g : Int → Int) (p k : Int) : Int := g (11 * p + k)
def rm (g : Int → Int) (r k : Int) : Int := g (110 + 23 * r + k)
def co (g : Int → Int) (c k : Int) : Int := g (202 + 11 * c + k)
def cp (g : Int → Int) (c k : Int) : Int := g (235 + 9 * c + k)
/-- the reference's own -/
def ZS (σ : ST) (P : MP) (g : Int → Int) : Prop := (MPok P) ∧ (∀ s, 0 ≤ s → s < 526 → σ 46 0 0 s = g s) ∧ (σ 43 0 0 0 = P.np) ∧ (σ 43 0 0 1 = P.nc) ∧ (σ 43 0 0 2 = P.nh) ∧ (σ 43 0 0 3 = P.key) ∧ (bz (σ 40 0 0 11) = b2 (P.np ≠ 0)) ∧ (P.np = 0 → ∀ r, 0 ≤ r → r < 4 → rm g r 0 = 0) ∧ (P.np = 0 → ∀ c, 0 ≤ c → c < 12 → cp g c 0 = 0)
theorem ZS.ok {σ : ST} {P : MP} {g : Int → Int} (h : ZS σ P g) : MPok P := h.1
theorem ZS.now {σ : ST} {P : MP} {g : Int → Int} (h : ZS σ P g) : ∀ s, 0 ≤ s → s < 526 → σ 46 0 0 s = g s := h.2.1
theorem ZS.np {σ : ST} {P : MP} {g : Int → Int} (h : ZS σ P g) : σ 43 0 0 0 = P.np := h.2.2.1
theorem ZS.nc {σ : ST} {P : MP} {g : Int → Int} (h : ZS σ P g) : σ 43 0 0 1 = P.nc := h.2.2.2.1
theorem ZS.nh {σ : ST} {P : MP} {g : Int → Int} (h : ZS σ P g) : σ 43 0 0 2 = P.nh := h.2.2.2.2.1
theorem ZS.key {σ : ST} {P : MP} {g : Int → Int} (h : ZS σ P g) : σ 43 0 0 3 = P.key := h.2.2.2.2.2.1
theorem ZS.mac {σ : ST} {P : MP} {g : Int → Int} (h : ZS σ P g) : bz (σ 40 0 0 11) = b2 (P.np ≠ 0) := h.2.2.2.2.2.2.1
theorem ZS.zr {σ : ST} {P : MP} {g : Int → Int} (h : ZS σ P g) : P.np = 0 → ∀ r, 0 ≤ r → r < 4 → rm g r 0 = 0 := h.2.2.2.2.2.2.2.1
theorem ZS.zc {σ : ST} {P : MP} {g : Int → Int} (h : ZS σ P g) : P.np = 0 → ∀ c, 0 ≤ c → c < 12 → cp g c 0 = 0 := h.2.2.2.2.2.2.2.2
abbrev zz : AV := .inr (.inr (40, 0, 0))
abbrev ww (k : Int) : AV := .inr (.inr (12, k, 0))
theorem P_Z_in (x y z : Int) (σ : ST) : PU m_Z_in [.inl x, .inl y, .inl z] σ (b2 (y ≤ x ∧ x ≤ z)) := by
  refine PU.mk fun Q hQ => T_Z_in _ _ _ _ _ ?_
  (repeat' (first | (refine And.intro ?_ ?_) | (intro hc; simp only [b2_e0, b2_e1, Classical.not_not, ne_eq] at hc) | (intro hc) | exact Or.inl rfl | exact Or.inr rfl)) <;> try omega
  all_goals (first | exact hQ _ (b2_l (by omega)) | exact hQ _ (b2_h (by omega)))
section ZR
variable {σ : ST} {P : MP} {g : Int → Int}
theorem P_Z_ofPage (hz : ZS σ P g) {p k : Int} (h0 : 0 ≤ p) (h1 : p < 10) (h2 : 0 ≤ k) (h3 : k < 11) : PU m_Z_ofPage [zz, .inl p, .inl k] σ (pg g p k) := by
  refine PU.mk fun Q hQ => T_Z_ofPage _ _ _ _ _ _ ?_
  simp (disch := omega) only [wr_id]
  exact ⟨⟨by omega, by omega⟩, hQ _ (hz.now _ (by omega) (by omega))⟩
theorem P_Z_ofRoom (hz : ZS σ P g) {p k : Int} (h0 : 0 ≤ p) (h1 : p < 4) (h2 : 0 ≤ k) (h3 : k < 23) : PU m_Z_ofRoom [zz, .inl p, .inl k] σ (rm g p k) := by
  refine PU.mk fun Q hQ => T_Z_ofRoom _ _ _ _ _ _ ?_
  simp (disch := omega) only [wr_id]
  exact ⟨⟨by omega, by omega⟩, hQ _ (hz.now _ (by omega) (by omega))⟩
theorem P_Z_ofCore (hz : ZS σ P g) {p k : Int} (h0 : 0 ≤ p) (h1 : p < 3) (h2 : 0 ≤ k) (h3 : k < 11) : PU m_Z_ofCore [zz, .inl p, .inl k] σ (co g p k) := by
  refine PU.mk fun Q hQ => T_Z_ofCore _ _ _ _ _ _ ?_
  simp (disch := omega) only [wr_id]
  exact ⟨⟨by omega, by omega⟩, hQ _ (hz.now _ (by omega) (by omega))⟩
theorem P_Z_ofCopy (hz : ZS σ P g) {p k : Int} (h0 : 0 ≤ p) (h1 : p < 12) (h2 : 0 ≤ k) (h3 : k < 9) : PU m_Z_ofCopy [zz, .inl p, .inl k] σ (cp g p k) := by
  refine PU.mk fun Q hQ => T_Z_ofCopy _ _ _ _ _ _ ?_
  simp (disch := omega) only [wr_id]
  exact ⟨⟨by omega, by omega⟩, hQ _ (hz.now _ (by omega) (by omega))⟩
abbrev isPg (P : MP) (p : Int) : Prop := 0 ≤ p ∧ p < P.np
abbrev isRm (g : Int → Int) (r : Int) : Prop := (0 ≤ r ∧ r < 4) ∧ rm g r 0 = 1
abbrev isCo (P : MP) (c : Int) : Prop := 0 ≤ c ∧ c < P.nc
abbrev isCp (g : Int → Int) (c : Int) : Prop := (0 ≤ c ∧ c < 12) ∧ cp g c 0 = 1
theorem P_Z_isPage (hz : ZS σ P g) (p : Int) : PU m_Z_isPage [zz, .inl p] σ (b2 (isPg P p)) := by
  have e0 := hz.np
  have e1 := hz.ok.p0
  have e2 := hz.ok.p1
  refine PU.mk fun Q hQ => T_Z_isPage _ _ _ _ _ ?_
  rw [hz.mac, wr_id (by omega)]
  (repeat' (first | (refine And.intro ?_ ?_) | (intro hc; simp only [b2_e0, b2_e1, Classical.not_not, ne_eq] at hc) | (intro hc) | exact Or.inl rfl | exact Or.inr rfl | refine PU.I (P_Z_in _ _ _ _) ?_)) <;> try omega
  all_goals (first | exact hQ _ (b2_l (by omega)) | exact hQ _ (b2_h (by omega)))
theorem P_Z_isUsed (hz : ZS σ P g) (p : Int) : PU m_Z_isUsed [zz, .inl p] σ (b2 (isPg P p ∧ pg g p 0 ≠ 0)) := by
  have e2 := hz.ok.p1
  refine PU.mk fun Q hQ => T_Z_isUsed _ _ _ _ _ ?_
  (repeat' (first | (refine And.intro ?_ ?_) | (intro hc; simp only [b2_e0, b2_e1, Classical.not_not, ne_eq] at hc) | (intro hc) | exact Or.inl rfl | exact Or.inr rfl | refine PU.I (P_Z_isPage hz _) ?_ | refine PU.I (P_Z_ofPage hz (by omega) (by omega) (by omega) (by omega)) ?_)) <;> try omega
  all_goals (first | exact hQ _ (b2_l (by omega)) | exact hQ _ (b2_h (by omega)))
theorem L_Z_freePage (hz : ZS σ P g) (Q : Option AV → ST → Prop) : ∀ (n : Nat) (i : Int), i + n = P.np → 0 ≤ i → (∀ x, x = ff (fun p => pg g p 0 = 0) n i → Q (some (.inl x)) σ) → wp m_Z_freePage (2, [some zz, some (.inl i)], [], σ) Q
  | 0, i, h, h0, hQ => by
    have e0 := hz.np
    refine T_Z_freePage_2 _ _ _ _ _ ?_
    (repeat' (first | (refine And.intro ?_ ?_) | (intro hc; simp only [b2_e0, b2_e1, Classical.not_not, ne_eq] at hc) | (intro hc) | exact Or.inl rfl | exact Or.inr rfl)) <;> try omega
    exact hQ _ rfl
  | n + 1, i, h, h0, hQ => by
    have e0 := hz.np
    have e2 := hz.ok.p1
    refine T_Z_freePage_2 _ _ _ _ _ ?_
    (repeat' (first | (refine And.intro ?_ ?_) | (intro hc; simp only [b2_e0, b2_e1, Classical.not_not, ne_eq] at hc) | (intro hc) | exact Or.inl rfl | exact Or.inr rfl | refine PU.I (P_Z_ofPage hz (by omega) (by omega) (by omega) (by omega)) ?_)) <;> try omega
    all_goals (first | exact hQ _ (by rw [ff_yes (by omega)]) | (simp (disch := omega) only [wr_id]; exact L_Z_freePage hz Q n (i + 1) (by omega) (by omega) (fun x e => hQ x (by rw [e, ff_no (by omega)]))))
theorem P_Z_freePage (hz : ZS σ P g) : PU m_Z_freePage [zz] σ (ff (fun p => pg g p 0 = 0) P.np.toNat 0) := by
  have e1 := hz.ok.p0
  exact PU.mk fun Q hQ => T_Z_freePage _ _ _ _ (L_Z_freePage hz Q P.np.toNat 0 (by omega) (by omega) hQ)
end ZR
