/-! the component reads its tape -/
abbrev tp : AV := .inr (.inr (1, 0, 0))
def TBx (s : ST) (h : Int → Int) (L i : Int) : Prop := (HH h L) ∧ (s 1 0 0 0 = L) ∧ (∀ x, 0 ≤ x → x < L → s 2 0 0 x = h x) ∧ (s 1 0 0 2 = i) ∧ (0 ≤ i) ∧ (i ≤ L)
theorem TBx.H {s : ST} {h : Int → Int} {L i : Int} (hZ : TBx s h L i) : HH h L := hZ.1
theorem TBx.len {s : ST} {h : Int → Int} {L i : Int} (hZ : TBx s h L i) : s 1 0 0 0 = L := hZ.2.1
theorem TBx.byt {s : ST} {h : Int → Int} {L i : Int} (hZ : TBx s h L i) : ∀ x, 0 ≤ x → x < L → s 2 0 0 x = h x := hZ.2.2.1
theorem TBx.pos {s : ST} {h : Int → Int} {L i : Int} (hZ : TBx s h L i) : s 1 0 0 2 = i := hZ.2.2.2.1
theorem TBx.i0 {s : ST} {h : Int → Int} {L i : Int} (hZ : TBx s h L i) : 0 ≤ i := hZ.2.2.2.2.1
theorem TBx.i1 {s : ST} {h : Int → Int} {L i : Int} (hZ : TBx s h L i) : i ≤ L := hZ.2.2.2.2.2
abbrev Fa (σ s : ST) : Prop := ∀ (t : Nat) (k i x : Int), ¬ (t = 1 ∧ x = 2) → s t k i x = σ t k i x
def R9 (y v : Int) : Prop := (y ≤ 999 ∧ y = v) ∨ (999 < y ∧ v = 1000)
section CTP
variable {σ s : ST} {h : Int → Int} {L i a : Int}
theorem Fa_re (s : ST) : Fa s s := fun _ _ _ _ _ => rfl
theorem Fa_up {v : Int} (f : Fa σ s) : Fa σ (up s 1 0 0 2 v) := fun t k i x hn => by
  unfold up
  rw [if_neg (by omega)]
  exact f t k i x hn
theorem TBx.mv {σ s : ST} {h : Int → Int} {L i j : Int} (B : TBx σ h L i) (f : Fa σ s) (e : s 1 0 0 2 = j) (j0 : 0 ≤ j) (j1 : j ≤ L) : TBx s h L j := ⟨B.H, (f _ _ _ _ (by omega)).trans B.len, fun x a b => (f _ _ _ _ (by omega)).trans (B.byt x a b), e, j0, j1⟩
theorem TBx.st {s : ST} {h : Int → Int} {L i : Int} (B : TBx s h L i) (q : i < L) : TBx (up s 1 0 0 2 (i + 1)) h L (i + 1) := B.mv (Fa_up (Fa_re s)) (by rw [up_s, if_pos rfl]) (by have := B.i0; omega) (by omega)
theorem P_stands (B : TBx s h L i) {c : Int} (hc : 0 ≤ c) : PU m_Tape_stands [tp, .inl c] s (b2 (h i = c)) := by
  have l1 := B.H.l1
  have i0 := B.i0
  have i1 := B.i1
  refine PU.mk fun Q hQ => T_Tape_stands _ _ _ _ _ ?_
  rw [B.len, B.pos]
  by_cases q : i < L
  · have e := B.byt i i0 q
    rw [e]
    (repeat' (first | (refine And.intro ?_ ?_) | (intro hzq; simp only [b2_e0, b2_e1, Classical.not_not, ne_eq] at hzq) | (intro hzq) | exact Or.inl rfl | exact Or.inr rfl)) <;> try omega
    all_goals (first | exact hQ _ (b2_l (by omega)) | exact hQ _ (b2_h (by omega)))
  · have e := B.H.out i (by omega)
    (repeat' (first | (refine And.intro ?_ ?_) | (intro hzq; simp only [b2_e0, b2_e1, Classical.not_not, ne_eq] at hzq) | (intro hzq) | exact Or.inl rfl | exact Or.inr rfl)) <;> try omega
    all_goals (first | exact hQ _ (b2_l (by omega)) | exact hQ _ (b2_h (by omega)))
theorem L_skB {Q : Option AV → ST → Prop} : ∀ (d : Nat) (i : Int) (s : ST), i + d = L → TBx s h L i → Fa σ s → (∀ s', Fa σ s' → TBx s' h L (sk isBl h i) → Q none s') → wp m_Tape_skipBlanks (0, [some tp], [], s) Q
  | d, i, s, hd, B, f, K => by
    have l1 := B.H.l1
    have i0 := B.i0
    refine T_Tape_skipBlanks_0 _ _ _ _ ?_
    rw [B.len, B.pos]
    refine And.intro (fun q => ?_) (fun q => ?_)
    · rw [sk_n (by rw [B.H.out i q]; exact bl_m1)] at K
      exact K s f B
    · refine PU.I (P_stands B (by omega)) ?_
      rw [B.pos, wr_id (x := i + 1) (by omega)]
      refine And.intro (fun z => ?_) (fun z => ?_)
      · rw [b2_e0] at z
        rw [sk_n z] at K
        exact K s f B
      · rw [b2_e0] at z
        have z2 : h i = 32 := Classical.not_not.1 z
        rw [sk_y B.H bl_m1 i0 z2] at K
        match d, hd with
        | 0, hd => exact absurd hd (by omega)
        | d + 1, hd => exact L_skB d (i + 1) _ (by omega) (B.st (by omega)) (Fa_up f) K
theorem C_skB (B : TBx s h L i) {F : ST → Prop} (K : ∀ s', Fa s s' → TBx s' h L (sk isBl h i) → F s') : wpM m_Tape_skipBlanks [tp] s (asV F) := by
  have i1 := B.i1
  exact L_skB (σ := s) (L - i).toNat i s (by omega) B (Fa_re s) (fun s' f b => K s' f b)
theorem L_skL {Q : Option AV → ST → Prop} : ∀ (d : Nat) (i : Int) (s : ST), i + d = L → TBx s h L i → Fa σ s → (∀ s', Fa σ s' → TBx s' h L (sk isLt h i) → Q none s') → wp m_Tape_skipLetters (0, [some tp], [], s) Q
  | d, i, s, hd, B, f, K => by
    have l1 := B.H.l1
    have i0 := B.i0
    refine T_Tape_skipLetters_0 _ _ _ _ ?_
    rw [B.len, B.pos]
    by_cases q : i < L
    · rw [B.byt i i0 q, wr_id (x := i + 1) (by omega)]
      by_cases z : isLt (h i)
      · rw [sk_y B.H lt_m1 i0 z] at K
        match d, hd with
        | 0, hd => exact absurd hd (by omega)
        | d + 1, hd =>
          have r := L_skL d (i + 1) _ (by omega) (B.st q) (Fa_up f) K
          (repeat' (first | (refine And.intro ?_ ?_) | (intro hzq; simp only [b2_e0, b2_e1, Classical.not_not, ne_eq] at hzq) | (intro hzq) | exact Or.inl rfl | exact Or.inr rfl)) <;> try omega
          all_goals exact r
      · rw [sk_n z] at K
        have r := K s f B
        (repeat' (first | (refine And.intro ?_ ?_) | (intro hzq; simp only [b2_e0, b2_e1, Classical.not_not, ne_eq] at hzq) | (intro hzq) | exact Or.inl rfl | exact Or.inr rfl)) <;> try omega
        all_goals exact r
    · rw [sk_n (by rw [B.H.out i (by omega)]; exact lt_m1)] at K
      have r := K s f B
      (repeat' (first | (refine And.intro ?_ ?_) | (intro hzq; simp only [b2_e0, b2_e1, Classical.not_not, ne_eq] at hzq) | (intro hzq) | exact Or.inl rfl | exact Or.inr rfl)) <;> try omega
      all_goals exact r
theorem C_skL (B : TBx s h L i) {F : ST → Prop} (K : ∀ s', Fa s s' → TBx s' h L (sk isLt h i) → F s') : wpM m_Tape_skipLetters [tp] s (asV F) := by
  have i1 := B.i1
  exact L_skL (σ := s) (L - i).toNat i s (by omega) B (Fa_re s) (fun s' f b => K s' f b)
theorem L_num {Q : Option AV → ST → Prop} : ∀ (d : Nat) (i : Int) (s : ST) (x a : Int) (o2 : Option AV), i + d = L → TBx s h L i → Fa σ s → 0 ≤ x ∧ x ≤ 9999 → R9 x a → (∀ s' y, Fa σ s' → TBx s' h L (sk isDg h i) → R9 y (nmA h i a) → Q (some (.inl y)) s') → wp m_Tape_readNumber (2, [some tp, some (.inl x), o2], [], s) Q
  | d, i, s, x, a, o2, hd, B, f, hx, ha, K => by
    have l1 := B.H.l1
    have i0 := B.i0
    refine T_Tape_readNumber_2 _ _ _ _ _ _ ?_
    rw [B.len, B.pos]
    by_cases q : i < L
    · rw [B.byt i i0 q]
      by_cases z : isDg (h i)
      · rw [sk_y B.H dg_m1 i0 z, nm_y B.H i0 a z] at K
        match d, hd with
        | 0, hd => exact absurd hd (by omega)
        | d + 1, hd =>
          rw [wr_id (x := h i - 48) (by omega), wr_id (x := x * 10) (by omega), wr_id (x := x * 10 + (h i - 48)) (by omega)]
          have go : ∀ y o, 0 ≤ y ∧ y ≤ 9999 → R9 y (cp9 (10 * a + h i - 48)) → wp m_Tape_readNumber (95, [some tp, some (.inl y), o], [], s) Q := by
            intro y o hy hr
            refine T_Tape_readNumber_95 _ _ _ _ _ _ ?_
            rw [B.pos, wr_id (x := i + 1) (by omega)]
            exact L_num d (i + 1) _ y _ _ (by omega) (B.st q) (Fa_up f) hy hr K
          unfold R9 at ha
          have go1 : 999 < x → ∀ o, wp m_Tape_readNumber (95, [some tp, some (.inl x), o], [], s) Q := fun hq o => go x o hx (by unfold R9 cp9; split <;> omega)
          have go2 : ¬ 999 < x → ∀ o, wp m_Tape_readNumber (95, [some tp, some (.inl (x * 10 + (h i - 48))), o], [], s) Q := fun hq o => go _ o (by omega) (by unfold R9 cp9; split <;> omega)
          clear go K
          (repeat' (first | (refine And.intro ?_ ?_) | (intro hzq; simp only [b2_e0, b2_e1, Classical.not_not, ne_eq] at hzq) | (intro hzq) | exact Or.inl rfl | exact Or.inr rfl)) <;> try omega
          all_goals first | exact go1 (by omega) _ | exact go2 (by omega) _
      · rw [sk_n z, nm_n a z] at K
        have r := K s x f B ha
        (repeat' (first | (refine And.intro ?_ ?_) | (intro hzq; simp only [b2_e0, b2_e1, Classical.not_not, ne_eq] at hzq) | (intro hzq) | exact Or.inl rfl | exact Or.inr rfl)) <;> try omega
        all_goals exact r
    · have z : ¬ isDg (h i) := by rw [B.H.out i (by omega)]; exact dg_m1
      rw [sk_n z, nm_n a z] at K
      have r := K s x f B ha
      (repeat' (first | (refine And.intro ?_ ?_) | (intro hzq; simp only [b2_e0, b2_e1, Classical.not_not, ne_eq] at hzq) | (intro hzq) | exact Or.inl rfl | exact Or.inr rfl)) <;> try omega
      all_goals exact r
theorem C_num (B : TBx s h L i) {F : Int → ST → Prop} (K : ∀ s' y, Fa s s' → TBx s' h L (sk isDg h i) → R9 y (nm h i) → F y s') : wpM m_Tape_readNumber [tp] s (asI F) := by
  have l1 := B.H.l1
  have i0 := B.i0
  have i1 := B.i1
  refine T_Tape_readNumber _ _ _ _ ?_
  refine T_Tape_readNumber_2 _ _ _ _ _ _ ?_
  rw [B.len, B.pos]
  by_cases q : i < L
  · rw [B.byt i i0 q]
    by_cases z : isDg (h i)
    · have e : nm h i = nmA h (i + 1) (cp9 (10 * 0 + h i - 48)) := by
        unfold nm
        rw [if_pos z, nm_y B.H i0 0 z]
      rw [sk_y B.H dg_m1 i0 z, e] at K
      rw [wr_id (x := h i - 48) (by omega)]
      have go : ∀ o, wp m_Tape_readNumber (95, [some tp, some (.inl (h i - 48)), o], [], s) (asI F) := by
        intro o
        refine T_Tape_readNumber_95 _ _ _ _ _ _ ?_
        rw [B.pos, wr_id (x := i + 1) (by omega)]
        exact L_num (L - (i + 1)).toNat (i + 1) _ _ _ _ (by omega) (B.st q) (Fa_up (Fa_re s)) (by omega) (by unfold R9 cp9; split <;> omega) (fun s' y a b c => K s' y a b c)
      clear K
      (repeat' (first | (refine And.intro ?_ ?_) | (intro hzq; simp only [b2_e0, b2_e1, Classical.not_not, ne_eq] at hzq) | (intro hzq) | exact Or.inl rfl | exact Or.inr rfl)) <;> try omega
      all_goals first | exact go _ | contradiction
    · have e : nm h i = -1 := by
        unfold nm
        rw [if_neg z]
      rw [sk_n z, e] at K
      have r : asI F (some (.inl (-1))) s := K s (-1) (Fa_re s) B (Or.inl ⟨by omega, rfl⟩)
      (repeat' (first | (refine And.intro ?_ ?_) | (intro hzq; simp only [b2_e0, b2_e1, Classical.not_not, ne_eq] at hzq) | (intro hzq) | exact Or.inl rfl | exact Or.inr rfl)) <;> try omega
      all_goals exact r
  · have z : ¬ isDg (h i) := by rw [B.H.out i (by omega)]; exact dg_m1
    have e : nm h i = -1 := by
      unfold nm
      rw [if_neg z]
    rw [sk_n z, e] at K
    have r : asI F (some (.inl (-1))) s := K s (-1) (Fa_re s) B (Or.inl ⟨by omega, rfl⟩)
    (repeat' (first | (refine And.intro ?_ ?_) | (intro hzq; simp only [b2_e0, b2_e1, Classical.not_not, ne_eq] at hzq) | (intro hzq) | exact Or.inl rfl | exact Or.inr rfl)) <;> try omega
    all_goals exact r
theorem L_isW {e k : Int} (B : TBx s h L e) (a0 : 0 ≤ a) (k0 : 0 ≤ k) (k1 : k < 20) (hl : e - a = wL k) {Q : Option AV → ST → Prop} : ∀ (d : Nat) (x : Int), x + d = wL k → 0 ≤ x → Q (some (.inl (b2 (isWb h a k d x = true)))) s → wp m_Tape_isWord (31, [some tp, some (.inl a), some (.inr (.inr (70, k, 0))), some (.inl x)], [], s) Q
  | d, x, hd, x0, K => by
    have l1 := B.H.l1
    have i1 := B.i1
    refine T_Tape_isWord_31 _ _ _ _ _ _ _ _ ?_
    rw [show ((strs.getD (Int.toNat k) []).length : Int) = wL k from rfl, show (strs.getD (Int.toNat k) []).getD (Int.toNat x) 0 = wC k x from rfl, show (strs.length : Int) = 26 from rfl, wr_id (x := x + 1) (by omega)]
    refine And.intro ⟨k0, by omega⟩ ?_
    match d, hd, K with
    | 0, hd, K => exact And.intro (fun _ => And.intro (Or.inr rfl) K) (fun q => absurd (show wL k ≤ x by omega) q)
    | d + 1, hd, K =>
      refine And.intro (fun q => absurd q (by omega)) (fun _ => ?_)
      rw [wr_id (x := a + x) (by omega), B.byt (a + x) (by omega) (by omega)]
      refine And.intro ⟨by omega, by omega⟩ (And.intro ⟨⟨k0, by omega⟩, x0, by omega⟩ ?_)
      have ee : isWb h a k (d + 1) x = (decide (h (a + x) = wC k x) && isWb h a k d (x + 1)) := rfl
      rw [ee] at K
      refine And.intro (fun q => ?_) (fun q => ?_)
      · rw [decide_eq_true q, Bool.true_and] at K
        exact L_isW B a0 k0 k1 hl d (x + 1) (by omega) (by omega) K
      · rw [decide_eq_false q, Bool.false_and, ← b2_l (c := false = true) (by decide)] at K
        exact And.intro (Or.inl rfl) K
theorem P_isW {e k : Int} (B : TBx s h L e) (a0 : 0 ≤ a) (a1 : a ≤ e) (k0 : 0 ≤ k) (k1 : k < 20) : PU m_Tape_isWord [tp, .inl a, .inr (.inr (70, k, 0))] s (b2 (isW h a e k)) := by
  have l1 := B.H.l1
  have i1 := B.i1
  have wl := wL_in k0 k1
  refine PU.mk fun Q hQ => T_Tape_isWord _ _ _ _ _ _ _ ?_
  rw [show ((strs.getD (Int.toNat k) []).length : Int) = wL k from rfl, show (strs.length : Int) = 26 from rfl, B.pos, wr_id (x := e - a) (by omega)]
  refine And.intro (fun q => absurd q (by omega)) (fun _ => And.intro (fun q => absurd q (by omega)) (fun _ => And.intro ⟨k0, by omega⟩ (And.intro (fun q => ?_) (fun q => ?_))))
  · refine L_isW B a0 k0 k1 q (wL k).toNat 0 (by omega) (by omega) (hQ _ (b2_iff ⟨fun z => ⟨q, z⟩, fun z => z.2⟩))
  · exact And.intro (Or.inl rfl) (hQ _ (b2_l (fun z => q z.1)))
theorem C_rWord {x : Int} (x0 : 0 ≤ x) (x1 : x < 4) {F : Int → Int → ST → Prop} (K : ∀ v, v = 0 + x → F v 0 s) : wpM m_Tape_ruleWord [.inl x] s (asR 70 F) := by
  refine T_Tape_ruleWord _ _ _ ?_
  (repeat' (first | (refine And.intro ?_ ?_) | (intro hzq; simp only [b2_e0, b2_e1, Classical.not_not, ne_eq] at hzq) | (intro hzq) | exact Or.inl rfl | exact Or.inr rfl)) <;> try omega
  all_goals exact K _ (by omega)
theorem C_sWord {x : Int} (x0 : 0 ≤ x) (x1 : x < 16) {F : Int → Int → ST → Prop} (K : ∀ v, v = 4 + x → F v 0 s) : wpM m_Tape_stepWord [.inl x] s (asR 70 F) := by
  refine T_Tape_stepWord _ _ _ ?_
  (repeat' (first | (refine And.intro ?_ ?_) | (intro hzq; simp only [b2_e0, b2_e1, Classical.not_not, ne_eq] at hzq) | (intro hzq) | exact Or.inl rfl | exact Or.inr rfl)) <;> try omega
  all_goals exact K _ (by omega)
theorem L_rOf {e : Int} (B : TBx s h L e) (a0 : 0 ≤ a) (a1 : a ≤ e) {Q : Option AV → ST → Prop} : ∀ (d : Nat) (x : Int), x + d = 4 → 0 ≤ x → Q (some (.inl (ff (fun j => isW h a e (0 + j)) d x))) s → wp m_Tape_ruleOf (2, [some tp, some (.inl a), some (.inl x)], [], s) Q
  | d, x, hd, x0, K => by
    refine T_Tape_ruleOf_2 _ _ _ _ _ _ ?_
    match d, hd, K with
    | 0, hd, K => exact And.intro (fun _ => K) (fun q => absurd (show 4 ≤ x by omega) q)
    | d + 1, hd, K =>
      refine And.intro (fun q => absurd q (by omega)) (fun _ => C_rWord x0 (by omega) (fun v hv => ?_))
      subst hv
      refine PU.I (P_isW B a0 a1 (by omega) (by omega)) ?_
      rw [wr_id (x := x + 1) (by omega)]
      refine And.intro (fun z => ?_) (fun z => ?_)
      · rw [b2_e0] at z
        rw [ff_no (c := fun j => isW h a e (0 + j)) z] at K
        exact L_rOf B a0 a1 d (x + 1) (by omega) (by omega) K
      · rw [b2_e0] at z
        rw [ff_yes (c := fun j => isW h a e (0 + j)) (Classical.not_not.1 z)] at K
        exact K
theorem P_rOf {e : Int} (B : TBx s h L e) (a0 : 0 ≤ a) (a1 : a ≤ e) : PU m_Tape_ruleOf [tp, .inl a] s (wd h 0 4 a e) :=
  PU.mk fun Q hQ => T_Tape_ruleOf _ _ _ _ _ (L_rOf B a0 a1 4 0 (by omega) (by omega) (hQ _ rfl))
theorem L_sOf {e : Int} (B : TBx s h L e) (a0 : 0 ≤ a) (a1 : a ≤ e) {Q : Option AV → ST → Prop} : ∀ (d : Nat) (x : Int), x + d = 16 → 0 ≤ x → Q (some (.inl (ff (fun j => isW h a e (4 + j)) d x))) s → wp m_Tape_stepOf (2, [some tp, some (.inl a), some (.inl x)], [], s) Q
  | d, x, hd, x0, K => by
    refine T_Tape_stepOf_2 _ _ _ _ _ _ ?_
    match d, hd, K with
    | 0, hd, K => exact And.intro (fun _ => K) (fun q => absurd (show 16 ≤ x by omega) q)
    | d + 1, hd, K =>
      refine And.intro (fun q => absurd q (by omega)) (fun _ => C_sWord x0 (by omega) (fun v hv => ?_))
      subst hv
      refine PU.I (P_isW B a0 a1 (by omega) (by omega)) ?_
      rw [wr_id (x := x + 1) (by omega)]
      refine And.intro (fun z => ?_) (fun z => ?_)
      · rw [b2_e0] at z
        rw [ff_no (c := fun j => isW h a e (4 + j)) z] at K
        exact L_sOf B a0 a1 d (x + 1) (by omega) (by omega) K
      · rw [b2_e0] at z
        rw [ff_yes (c := fun j => isW h a e (4 + j)) (Classical.not_not.1 z)] at K
        exact K
theorem P_sOf {e : Int} (B : TBx s h L e) (a0 : 0 ≤ a) (a1 : a ≤ e) : PU m_Tape_stepOf [tp, .inl a] s (wd h 4 16 a e) :=
  PU.mk fun Q hQ => T_Tape_stepOf _ _ _ _ _ (L_sOf B a0 a1 16 0 (by omega) (by omega) (hQ _ rfl))
end CTP
