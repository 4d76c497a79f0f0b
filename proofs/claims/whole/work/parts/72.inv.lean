/-! what ties the component's store and the reference's; acts on both -/
abbrev xx : AV := .inr (.inr (0, 0, 0))
def MCi (σ : ST) (P : MP) : Prop := (bz (σ 0 0 0 2) = b2 (P.np ≠ 0)) ∧ (∀ i, 0 ≤ i → i < 4 → σ 7 0 0 i = σ 43 0 0 i)
theorem MCi.has {σ : ST} {P : MP} (h : MCi σ P) : bz (σ 0 0 0 2) = b2 (P.np ≠ 0) := h.1
theorem MCi.rul {σ : ST} {P : MP} (h : MCi σ P) : ∀ i, 0 ≤ i → i < 4 → σ 7 0 0 i = σ 43 0 0 i := h.2
def TPi (σ : ST) : Prop := (σ 1 0 0 0 = σ 40 0 0 2) ∧ (0 ≤ σ 40 0 0 2) ∧ (σ 40 0 0 2 ≤ 320) ∧ (∀ i, 0 ≤ i → i < σ 40 0 0 2 → σ 2 0 0 i = σ 41 0 0 i ∧ 1 ≤ σ 41 0 0 i ∧ σ 41 0 0 i ≤ 255)
theorem TPi.len {σ : ST} (h : TPi σ) : σ 1 0 0 0 = σ 40 0 0 2 := h.1
theorem TPi.l0 {σ : ST} (h : TPi σ) : 0 ≤ σ 40 0 0 2 := h.2.1
theorem TPi.l1 {σ : ST} (h : TPi σ) : σ 40 0 0 2 ≤ 320 := h.2.2.1
theorem TPi.byt {σ : ST} (h : TPi σ) : ∀ i, 0 ≤ i → i < σ 40 0 0 2 → σ 2 0 0 i = σ 41 0 0 i ∧ 1 ≤ σ 41 0 0 i ∧ σ 41 0 0 i ≤ 255 := h.2.2.2
def SCi (σ : ST) : Prop := (σ 0 0 0 4 = σ 40 0 0 14) ∧ (0 ≤ σ 40 0 0 14) ∧ (σ 40 0 0 14 ≤ 4) ∧ (∀ m, 0 ≤ m → m < σ 40 0 0 14 → σ 5 m 0 0 = σ 45 0 0 m ∧ 0 ≤ σ 45 0 0 m ∧ σ 45 0 0 m ≤ 12) ∧ (∀ m i j, 0 ≤ m → m < σ 40 0 0 14 → 0 ≤ i → i < σ 45 0 0 m → 0 ≤ j → j < 6 → σ 6 m 0 (6 * i + j) = σ 44 0 0 (6 * (12 * m + i) + j)) ∧ (∀ m i, 0 ≤ m → m < σ 40 0 0 14 → 0 ≤ i → i < σ 45 0 0 m → 0 ≤ σ 44 0 0 (6 * (12 * m + i)) ∧ σ 44 0 0 (6 * (12 * m + i)) ≤ 15) ∧ (∀ m i, 0 ≤ m → m < σ 40 0 0 14 → 0 ≤ i → i < σ 45 0 0 m → σ 44 0 0 (6 * (12 * m + i)) = 2 ∨ σ 44 0 0 (6 * (12 * m + i)) = 3 → 0 ≤ σ 44 0 0 (6 * (12 * m + i) + 2) ∧ σ 44 0 0 (6 * (12 * m + i) + 2) ≤ 999) ∧ (∀ m i, 0 ≤ m → m < σ 40 0 0 14 → 0 ≤ i → i < σ 45 0 0 m → σ 44 0 0 (6 * (12 * m + i)) = 1 → σ 44 0 0 (6 * (12 * m + i) + 1) = -1)
theorem SCi.cnt {σ : ST} (h : SCi σ) : σ 0 0 0 4 = σ 40 0 0 14 := h.1
theorem SCi.c0 {σ : ST} (h : SCi σ) : 0 ≤ σ 40 0 0 14 := h.2.1
theorem SCi.c1 {σ : ST} (h : SCi σ) : σ 40 0 0 14 ≤ 4 := h.2.2.1
theorem SCi.len {σ : ST} (h : SCi σ) : ∀ m, 0 ≤ m → m < σ 40 0 0 14 → σ 5 m 0 0 = σ 45 0 0 m ∧ 0 ≤ σ 45 0 0 m ∧ σ 45 0 0 m ≤ 12 := h.2.2.2.1
theorem SCi.cel {σ : ST} (h : SCi σ) : ∀ m i j, 0 ≤ m → m < σ 40 0 0 14 → 0 ≤ i → i < σ 45 0 0 m → 0 ≤ j → j < 6 → σ 6 m 0 (6 * i + j) = σ 44 0 0 (6 * (12 * m + i) + j) := h.2.2.2.2.1
theorem SCi.srt {σ : ST} (h : SCi σ) : ∀ m i, 0 ≤ m → m < σ 40 0 0 14 → 0 ≤ i → i < σ 45 0 0 m → 0 ≤ σ 44 0 0 (6 * (12 * m + i)) ∧ σ 44 0 0 (6 * (12 * m + i)) ≤ 15 := h.2.2.2.2.2.1
theorem SCi.adr {σ : ST} (h : SCi σ) : ∀ m i, 0 ≤ m → m < σ 40 0 0 14 → 0 ≤ i → i < σ 45 0 0 m → σ 44 0 0 (6 * (12 * m + i)) = 2 ∨ σ 44 0 0 (6 * (12 * m + i)) = 3 → 0 ≤ σ 44 0 0 (6 * (12 * m + i) + 2) ∧ σ 44 0 0 (6 * (12 * m + i) + 2) ≤ 999 := h.2.2.2.2.2.2.1
theorem SCi.slo {σ : ST} (h : SCi σ) : ∀ m i, 0 ≤ m → m < σ 40 0 0 14 → 0 ≤ i → i < σ 45 0 0 m → σ 44 0 0 (6 * (12 * m + i)) = 1 → σ 44 0 0 (6 * (12 * m + i) + 1) = -1 := h.2.2.2.2.2.2.2
def UNi (σ : ST) (P : MP) (n : Int) : Prop := (0 ≤ σ 40 0 0 18) ∧ (σ 40 0 0 18 ≤ 40) ∧ (σ 0 0 0 12 = σ 40 0 0 18) ∧ (0 ≤ σ 0 0 0 11) ∧ (σ 0 0 0 11 < 41) ∧ (P.np = 0 → σ 40 0 0 18 = 0) ∧ (∀ j, 0 ≤ j → j < σ 40 0 0 18 → ∃ g, (∀ x, 0 ≤ x → x < 526 → σ 48 0 0 (526 * j + x) = g x) ∧ RX σ (3 + (σ 0 0 0 11 - σ 40 0 0 18 + j) % 41) P g ∧ GW P g n)
theorem UNi.u0 {σ : ST} {P : MP} {n : Int} (h : UNi σ P n) : 0 ≤ σ 40 0 0 18 := h.1
theorem UNi.u1 {σ : ST} {P : MP} {n : Int} (h : UNi σ P n) : σ 40 0 0 18 ≤ 40 := h.2.1
theorem UNi.eq {σ : ST} {P : MP} {n : Int} (h : UNi σ P n) : σ 0 0 0 12 = σ 40 0 0 18 := h.2.2.1
theorem UNi.p0 {σ : ST} {P : MP} {n : Int} (h : UNi σ P n) : 0 ≤ σ 0 0 0 11 := h.2.2.2.1
theorem UNi.p1 {σ : ST} {P : MP} {n : Int} (h : UNi σ P n) : σ 0 0 0 11 < 41 := h.2.2.2.2.1
theorem UNi.z {σ : ST} {P : MP} {n : Int} (h : UNi σ P n) : P.np = 0 → σ 40 0 0 18 = 0 := h.2.2.2.2.2.1
theorem UNi.row {σ : ST} {P : MP} {n : Int} (h : UNi σ P n) : ∀ j, 0 ≤ j → j < σ 40 0 0 18 → ∃ g, (∀ x, 0 ≤ x → x < 526 → σ 48 0 0 (526 * j + x) = g x) ∧ RX σ (3 + (σ 0 0 0 11 - σ 40 0 0 18 + j) % 41) P g ∧ GW P g n := h.2.2.2.2.2.2
def IMi (σ : ST) (P : MP) (n : Int) : Prop := (bz (σ 0 0 0 9) = bz (σ 40 0 0 23)) ∧ (bz (σ 40 0 0 23) ≠ 0 → P.np ≠ 0 ∧ ∃ g, (∀ x, 0 ≤ x → x < 526 → σ 51 0 0 x = g x) ∧ RX σ 2 P g ∧ GW P g n)
theorem IMi.eq {σ : ST} {P : MP} {n : Int} (h : IMi σ P n) : bz (σ 0 0 0 9) = bz (σ 40 0 0 23) := h.1
theorem IMi.img {σ : ST} {P : MP} {n : Int} (h : IMi σ P n) : bz (σ 40 0 0 23) ≠ 0 → P.np ≠ 0 ∧ ∃ g, (∀ x, 0 ≤ x → x < 526 → σ 51 0 0 x = g x) ∧ RX σ 2 P g ∧ GW P g n := h.2
def RFi (σ : ST) (u : Int) : Prop := (∀ i, 0 ≤ i → i < 5 → σ 10 0 0 i = σ 47 0 0 i)
theorem RFi.eq {σ : ST} {u : Int} (h : RFi σ u) : ∀ i, 0 ≤ i → i < 5 → σ 10 0 0 i = σ 47 0 0 i := h
def IVg (σ : ST) (P : MP) (g : Int → Int) (n : Int) : Prop := (ZS σ P g) ∧ (RX σ 0 P g) ∧ (GW P g n) ∧ (MCi σ P) ∧ (RFi σ 0) ∧ (TPi σ) ∧ (SCi σ) ∧ (UNi σ P n) ∧ (IMi σ P n)
theorem IVg.z {σ : ST} {P : MP} {g : Int → Int} {n : Int} (h : IVg σ P g n) : ZS σ P g := h.1
theorem IVg.x {σ : ST} {P : MP} {g : Int → Int} {n : Int} (h : IVg σ P g n) : RX σ 0 P g := h.2.1
theorem IVg.w {σ : ST} {P : MP} {g : Int → Int} {n : Int} (h : IVg σ P g n) : GW P g n := h.2.2.1
theorem IVg.m {σ : ST} {P : MP} {g : Int → Int} {n : Int} (h : IVg σ P g n) : MCi σ P := h.2.2.2.1
theorem IVg.r {σ : ST} {P : MP} {g : Int → Int} {n : Int} (h : IVg σ P g n) : RFi σ 0 := h.2.2.2.2.1
theorem IVg.t {σ : ST} {P : MP} {g : Int → Int} {n : Int} (h : IVg σ P g n) : TPi σ := h.2.2.2.2.2.1
theorem IVg.s {σ : ST} {P : MP} {g : Int → Int} {n : Int} (h : IVg σ P g n) : SCi σ := h.2.2.2.2.2.2.1
theorem IVg.u {σ : ST} {P : MP} {g : Int → Int} {n : Int} (h : IVg σ P g n) : UNi σ P n := h.2.2.2.2.2.2.2.1
theorem IVg.i {σ : ST} {P : MP} {g : Int → Int} {n : Int} (h : IVg σ P g n) : IMi σ P n := h.2.2.2.2.2.2.2.2
def INV (σ : ST) (n : Int) : Prop := ∃ P g, IVg σ P g n
section KEEPS
variable {σ s : ST} {P : MP} {g : Int → Int} {n m : Int}
theorem MCi.keep (h : MCi σ P) (e1 : s 0 0 0 2 = σ 0 0 0 2) (e2 : ∀ x, s 7 0 0 x = σ 7 0 0 x) (e3 : ∀ x, s 43 0 0 x = σ 43 0 0 x) : MCi s P := by
  unfold MCi
  rw [e1]
  exact ⟨h.has, fun i a b => by rw [e2, e3]; exact h.rul i a b⟩
theorem TPi.keep (h : TPi σ) (e1 : s 1 0 0 0 = σ 1 0 0 0) (e2 : s 40 0 0 2 = σ 40 0 0 2) (e3 : ∀ x, s 2 0 0 x = σ 2 0 0 x) (e4 : ∀ x, s 41 0 0 x = σ 41 0 0 x) : TPi s := by
  unfold TPi
  rw [e1, e2]
  exact ⟨h.len, h.l0, h.l1, fun i a b => by rw [e3, e4]; exact h.byt i a b⟩
theorem SCi.keep (h : SCi σ) (e1 : s 0 0 0 4 = σ 0 0 0 4) (e2 : s 40 0 0 14 = σ 40 0 0 14) (e3 : ∀ m, 0 ≤ m → m < 4 → s 5 m 0 0 = σ 5 m 0 0) (e4 : ∀ m x, 0 ≤ m → m < 4 → s 6 m 0 x = σ 6 m 0 x) (e5 : ∀ x, x < 288 → s 44 0 0 x = σ 44 0 0 x) (e6 : ∀ x, x < 4 → s 45 0 0 x = σ 45 0 0 x) : SCi s := by
  have c1 := h.c1
  unfold SCi
  rw [e1, e2]
  refine ⟨h.cnt, h.c0, h.c1, fun m a b => ?_, fun m i j a b c d x y => ?_, fun m i a b c d => ?_, fun m i a b c d x => ?_, fun m i a b c d x => ?_⟩
  · rw [e3 m a (by omega), e6 m (by omega)]; exact h.len m a b
  · rw [e6 m (by omega)] at d
    have := h.len m a b
    rw [e4 m _ a (by omega), e5 _ (by omega)]; exact h.cel m i j a b c d x y
  · rw [e6 m (by omega)] at d
    have := h.len m a b
    rw [e5 _ (by omega)]; exact h.srt m i a b c d
  · rw [e6 m (by omega)] at d
    have := h.len m a b
    rw [e5 _ (by omega)] at x
    rw [e5 _ (by omega)]; exact h.adr m i a b c d x
  · rw [e6 m (by omega)] at d
    have := h.len m a b
    rw [e5 _ (by omega)] at x
    rw [e5 _ (by omega)]; exact h.slo m i a b c d x
theorem IMi.keep (h : IMi σ P n) (hm : n ≤ m) (hm2 : m ≤ 100000) (e1 : s 0 0 0 9 = σ 0 0 0 9) (e2 : s 40 0 0 23 = σ 40 0 0 23) (e3 : ∀ x, s 51 0 0 x = σ 51 0 0 x) (e4 : ∀ (t : Nat) (i x : Int), 12 ≤ t → t ≤ 29 → s t 2 i x = σ t 2 i x) : IMi s P m := by
  unfold IMi
  rw [e1, e2]
  refine ⟨h.eq, fun z => ?_⟩
  obtain ⟨a, g, b, c, d⟩ := h.img z
  exact ⟨a, g, fun x x0 x1 => by rw [e3]; exact b x x0 x1, c.keepo (fun t i x h1 h2 => e4 t i x h1 h2), d.mono hm hm2⟩
theorem UNi.keep (h : UNi σ P n) (hm : n ≤ m) (hm2 : m ≤ 100000) (e1 : s 0 0 0 11 = σ 0 0 0 11) (e2 : s 0 0 0 12 = σ 0 0 0 12) (e3 : s 40 0 0 18 = σ 40 0 0 18) (e4 : ∀ x, s 48 0 0 x = σ 48 0 0 x) (e5 : ∀ (t : Nat) (k i x : Int), 12 ≤ t → t ≤ 29 → 3 ≤ k → k ≠ 3 + σ 0 0 0 11 → s t k i x = σ t k i x) : UNi s P m := by
  have u0 := h.u0
  have u1 := h.u1
  have p0 := h.p0
  have p1 := h.p1
  unfold UNi
  rw [e1, e2, e3]
  refine ⟨h.u0, h.u1, h.eq, h.p0, h.p1, h.z, fun j a b => ?_⟩
  obtain ⟨g, c, d, e⟩ := h.row j a b
  exact ⟨g, fun x x0 x1 => by rw [e4]; exact c x x0 x1, d.keepo (fun t i x h1 h2 => e5 t _ i x h1 h2 (by omega) (by omega)), e.mono hm hm2⟩
end KEEPS
abbrev ChA (pn : Int) (t : Nat) (k x : Int) : Prop := (11 ≤ t ∧ t ≤ 29 ∧ (k = 0 ∨ k = 3 + pn)) ∨ (t = 0 ∧ (x = 11 ∨ x = 12)) ∨ t = 10 ∨ t = 46 ∨ t = 47 ∨ t = 48 ∨ (t = 40 ∧ (x = 18 ∨ x = 20))
def AFr (pn : Int) (σ s : ST) : Prop := ∀ (t : Nat) (k i x : Int), ¬ ((11 ≤ t ∧ t ≤ 29 ∧ (k = 0 ∨ k = 3 + pn)) ∨ (t = 0 ∧ (x = 11 ∨ x = 12)) ∨ t = 10 ∨ t = 46 ∨ t = 47 ∨ t = 48 ∨ (t = 40 ∧ (x = 18 ∨ x = 20))) → s t k i x = σ t k i x
section ACTS
variable {σ s : ST} {P : MP} {g : Int → Int} {n : Int}
theorem C_past {pn : Int} (h : RX σ 0 P g) (hp : 0 ≤ pn ∧ pn < 41) (e : σ 0 0 0 11 = pn) {F : ST → Prop} (K : ∀ s, Off (SWd (3 + pn)) σ s → RX s (3 + pn) P g → F s) : wpM m_X_pastRow [xx] σ (asR 12 fun a b s => wpM m_World_take [.inr (.inr (12, a, b)), ww 0] s (asV F)) := by
  refine T_X_pastRow _ _ _ _ ?_
  refine PU.I (P_floorMod ⟨by omega, by omega⟩ (by omega) (by omega) σ) ?_
  rw [e, show pn % 41 = pn by omega]
  refine And.intro (by omega) (And.intro rfl ?_)
  exact C_W_take (k := 3 + pn) (by omega) (fun s o r => K s o (r P g h))
theorem C_keeps0 (e : s 11 0 0 1 ≠ -1) (t f a : Int) {F : Int → ST → Prop} (K : F 0 s) : wpM m_X_keepsAct [xx, .inl t, .inl f, .inl a] s (asI F) := by
  refine T_X_keepsAct _ _ _ _ _ _ _ ?_
  exact And.intro (fun q => absurd q e) (fun _ => And.intro (Or.inl rfl) K)
theorem C_keeps1 {pn u : Int} (h : RX s 0 P g) (e : s 11 0 0 1 = -1) (hp : 0 ≤ pn ∧ pn < 41) (e1 : s 0 0 0 11 = pn) (hu : 0 ≤ u ∧ u ≤ 40) (e2 : s 0 0 0 12 = u) (t f a : Int) {F : Int → ST → Prop} (K : ∀ s', (∀ (t : Nat) (k i x : Int), ¬ ((26 ≤ t ∧ t ≤ 29) ∧ k = 0) → ¬ (t = 0 ∧ (x = 11 ∨ x = 12)) → s' t k i x = s t k i x) → s' 0 0 0 11 = (pn + 1) % 41 → s' 0 0 0 12 = (if u = 40 then 40 else u + 1) → RX s' 0 P (noteG g t f a) → F 1 s') : wpM m_X_keepsAct [xx, .inl t, .inl f, .inl a] s (asI F) := by
  refine T_X_keepsAct _ _ _ _ _ _ _ ?_
  refine And.intro (fun _ => ?_) (fun q => absurd e q)
  refine C_note h t f a (fun s1 o r => ?_)
  have q : ∀ (t : Nat) (k i x : Int), ¬ ((26 ≤ t ∧ t ≤ 29) ∧ k = 0) → s1 t k i x = s t k i x := fun t k i x hn => o t k i x (fun z => hn ⟨z.1, z.2.1⟩)
  have e3 := q 0 0 0 11 (by omega)
  have e4 := q 0 0 0 12 (by omega)
  rw [e1] at e3
  rw [e2] at e4
  rw [e3, wr_id (x := pn + 1) (by omega)]
  refine PU.I (P_floorMod ⟨by omega, by omega⟩ (by omega) (by omega) s1) ?_
  have e5 : up s1 0 0 0 11 ((pn + 1) % 41) 0 0 0 12 = u := by rw [up_s, if_neg (by omega), e4]
  rw [e5]
  refine And.intro (fun h4 => And.intro (Or.inr rfl) (K _ (fun t k i x a b => ?_) (by rw [up_s, if_pos rfl]) (by rw [e5, if_pos (by omega)]; omega) (r.keepo (fun t i x a b => up_o (by omega))))) (fun h4 => And.intro (Or.inr rfl) (K _ (fun t k i x a b => ?_) (by rw [up_s, if_neg (by omega), up_s, if_pos rfl]) (by rw [up_s, if_pos rfl, if_neg (by omega), wr_id (by omega)]) (r.keepo (fun t i x a b => by rw [up_o (by omega), up_o (by omega)]))))
  · unfold up
    rw [if_neg (by omega)]
    exact q t k i x a
  · unfold up
    rw [if_neg (by omega), if_neg (by omega)]
    exact q t k i x a
theorem why_in (hw : IVg σ P g n) {t a b c d e : Int} (h0 : 0 ≤ t) (h1 : t ≤ 19) : -1 ≤ whyG P g t a b c d e ∧ whyG P g t a b c d e < 5 := by
  unfold whyG whyCreateG whySlotsG whyAddG whyExtendG whySealG whyEnterG whyLeaveG whyTouchG whyBlockG whyTrackG whyEvictG whyLoadG whyRemoveG whyMapG whyDoubleG whyChangeG whyDropG whyTellG
  (repeat' split) <;> omega
/-- acts on a machine that isn't there are refused -/
theorem why_np (hz : ZS σ P g) (h : P.np = 0) (t a b c d e : Int) (h0 : 0 ≤ t) (h1 : t ≤ 19) : whyG P g t a b c d e ≠ -1 := by
  have zr := hz.zr h
  have zc := hz.zc h
  have nz := hz.ok.z h
  have R : ∀ r, ¬ isRm g r := fun r z => by have := zr r z.1.1 z.1.2; omega
  have C : ∀ c, ¬ isCp g c := fun r z => by have := zc r z.1.1 z.1.2; omega
  have N : ∀ c, ¬ isCo P c := fun c z => by omega
  have Q : ∀ p, ¬ isPg P p := fun c z => by omega
  rcases (show t = 0 ∨ t = 1 ∨ t = 2 ∨ t = 3 ∨ t = 4 ∨ t = 5 ∨ t = 6 ∨ t = 7 ∨ t = 8 ∨ t = 9 ∨ t = 10 ∨ t = 11 ∨ t = 12 ∨ t = 13 ∨ t = 14 ∨ t = 15 ∨ t = 16 ∨ t = 17 ∨ t = 18 ∨ t = 19 by omega) with z | z | z | z | z | z | z | z | z | z | z | z | z | z | z | z | z | z | z | z <;> subst z
  · rw [whyG_0]; exact fun w => (W_create w).1 h
  · rw [whyG_1]; exact fun w => (W_slots w).1 h
  · rw [whyG_2]; exact fun w => R _ (W_add w).1
  · rw [whyG_3]; exact fun w => R _ (W_extend w).1
  · rw [whyG_4]; exact fun w => R _ (W_seal w).1
  · rw [whyG_5]; exact fun w => N _ (W_enter w).1
  · rw [whyG_6]; exact fun w => N _ (W_leave w).1
  · rw [whyG_7]; exact fun w => N _ (W_leave w).1
  · rw [whyG_8]; exact fun w => N _ (W_enter w).1
  · rw [whyG_9]; exact fun w => N _ (W_touch w).1
  · rw [whyG_10]; exact fun w => Q _ (W_block w).1
  · rw [whyG_11]; exact fun w => R _ (W_track w).1
  · rw [whyG_12]; exact fun w => Q _ (W_evict w).1
  · rw [whyG_13]; exact fun w => C _ (W_load w).1
  · rw [whyG_14]; exact fun w => Q _ (W_remove w).1
  · rw [whyG_15]; exact fun w => R _ (W_map w).1
  · rw [whyG_16]; exact fun w => C _ (W_double w).1
  · rw [whyG_17]; exact fun w => C _ (W_change w).1
  · rw [whyG_18]; exact fun w => C _ (W_drop w)
  · rw [whyG_19]; exact fun w => N _ (W_tell w).1
/-- an act is kept by the reference -/
theorem A_Z_act {u : Int} (hz : ZS s P g) (hp : P.np ≠ 0) (hg : GW P g n) (l0 : 0 ≤ g 345 ∧ g 345 ≤ 60) (hu : 0 ≤ u ∧ u ≤ 40) (e : s 40 0 0 18 = u) {t a b c d ee : Int} (h0 : 0 ≤ t) (h1 : t ≤ 19) (hw : whyG P g t a b c d ee = -1) (ld : doG P g t a b c d ee 345 = g 345) {F : Int → ST → Prop}
    (K : ∀ s', (∀ (t' : Nat) (k i x : Int), ¬ (t' = 46 ∨ t' = 48 ∨ (t' = 40 ∧ x = 18)) → s' t' k i x = s t' k i x) → ZS s' P (noteG (doG P g t a b c d ee) t (if t = 1 then -1 else a) (ansG P g t a b c d ee)) → s' 40 0 0 18 = (if u = 40 then 40 else u + 1) → (∀ j x, 0 ≤ j → j < (if u = 40 then 39 else u) → 0 ≤ x → x < 526 → s' 48 0 0 (526 * j + x) = s 48 0 0 (526 * (if u = 40 then j + 1 else j) + x)) → (∀ x, 0 ≤ x → x < 526 → s' 48 0 0 (526 * (if u = 40 then 39 else u) + x) = g x) → F (ansG P g t a b c d ee) s') : wpM m_Z_act [zz, .inl t, .inl a, .inl b, .inl c, .inl d, .inl ee] s (asI F) := by
  refine T_Z_act _ _ _ _ _ _ _ _ _ _ ?_
  refine A_Z_keep hu e (fun s1 f1 f2 f3 f4 => ?_)
  have hz1 : ZS s1 P g := hz.keepo (fun x => f1 _ _ _ _ (by omega) (by omega)) (fun x => f1 _ _ _ _ (by omega) (by omega)) (f1 _ _ _ _ (by omega) (by omega))
  refine A_Z_do (ZT.start hz1 hp) hg h0 h1 hw (fun s2 z2 => ?_)
  have fin : ∀ s3, ZT s1 s3 P (noteG (doG P g t a b c d ee) t (if t = 1 then -1 else a) (ansG P g t a b c d ee)) → F (ansG P g t a b c d ee) s3 := by
    intro s3 z3
    have o := z3.2.2
    refine K s3 (fun t' k i x hn => ?_) z3.1 ?_ (fun j x j0 j1 x0 x1 => ?_) (fun x x0 x1 => ?_)
    · rw [o t' k i x (by omega), f1 t' k i x (by omega) (by omega)]
    · rw [o 40 0 0 18 (by decide), f2]
    · rw [o 48 0 0 _ (by decide), f3 j x j0 j1 x0 x1]
    · rw [o 48 0 0 _ (by decide), f4 x x0 x1]
      exact hz.now x x0 x1
  by_cases h : t = 1
  · rw [if_pos h] at fin
    exact And.intro (fun q => absurd h q) (fun _ => A_Z_note z2 (by omega) (by omega) fin)
  · rw [if_neg h] at fin
    exact And.intro (fun _ => A_Z_note z2 (by omega) (by omega) fin) (fun q => absurd h q)
end ACTS
