/-! old, twins, lies, leaks, victim, on both -/
def slP (P : MP) (g : Int → Int) (v : Int) : Int := ff (fun p => pg g p 0 = 4 ∧ slotOf g p v ≠ -1) P.np.toNat 0
abbrev oldG (P : MP) (g : Int → Int) (c : Int) : Prop := cp g c 8 = 1 ∨ roomS g (cp g c 1) = -1 ∨ slP P g (cp g c 7) = -1
def v_old (_ : ST) (P : MP) (g : Int → Int) : Int := if P.np = 0 then -1 else bf (fun c => isCp g c ∧ oldG P g c) 12 0 0
def v_twins (c : Int) (_ : ST) (_ : MP) (g : Int → Int) : Int := if isCp g c then bf (fun o => o ≠ c ∧ isCp g o ∧ cp g o 7 = cp g c 7) 12 0 0 else -1
def v_lies (r : Int) (_ : ST) (P : MP) (g : Int → Int) : Int := if isRm g r then bf (fun a => a < rm g r 2 ∧ rm g r (15 + a) - 1 ≠ -1 ∧ ¬ isPo P g (rm g r (15 + a) - 1) r a) 8 0 0 else -1
def lkF (g : Int → Int) (c : Int) : Nat → Int → Int → Int
  | 0, _, a => a
  | n + 1, i, a => lkF g c n (i + 1) (if pg g (co g c (6 + 2 * i)) 5 ≠ -1 then i_or a (i_shl 1 (co g c (5 + 2 * i))) else a)
def lkA (g : Int → Int) (r : Int) : Nat → Int → Int → Int
  | 0, _, a => a
  | n + 1, c, a => lkA g r n (c + 1) (if co g c 1 = r then lkF g c (co g c 4).toNat 0 a else a)
def v_leaks (r : Int) (_ : ST) (P : MP) (g : Int → Int) : Int := if isRm g r then lkA g r P.nc.toNat 0 0 else -1
def rkG (k : Int) : Int := if k = 2 then 0 else if k = 3 then 1 else 2
def vcF (P : MP) (g : Int → Int) : Nat → Int → Int → Int
  | 0, _, b => b
  | n + 1, i, b => vcF P g n (i + 1) (if (pg g i 0 ≠ 0 ∧ canGoG P g i) ∧ (b = -1 ∨ rkG (pg g i 0) < rkG (pg g b 0)) then i else b)
def v_victim (_ : ST) (P : MP) (g : Int → Int) : Int := vcF P g P.np.toNat 0 (-1)
theorem bf_cut {c : Int → Prop} [DecidablePred c] : ∀ (m n : Nat) (i a : Int), m ≤ n → (∀ j, i + m ≤ j → ¬ c j) → bf c n i a = bf c m i a
  | 0, 0, _, _, _, _ => rfl
  | 0, n + 1, i, a, h, hc => by
    rw [bf_n (hc i (by omega))]
    exact bf_cut 0 n (i + 1) a (by omega) (fun j hj => hc j (by omega))
  | m + 1, n + 1, i, a, h, hc => by
    by_cases z : c i
    · rw [bf_y z, bf_y z]
      exact bf_cut m n (i + 1) _ (by omega) (fun j hj => hc j (by omega))
    · rw [bf_n z, bf_n z]
      exact bf_cut m n (i + 1) _ (by omega) (fun j hj => hc j (by omega))
theorem i_or_a (a b c : Int) : i_or (i_or a b) c = i_or a (i_or b c) := by
  unfold i_or
  rw [n_bk, n_bk]
  refine congrArg Int32.toInt (b_ext (fun i hi => ?_))
  rw [b_or, b_or, b_or, b_or, Bool.or_assoc]
theorem lkF_or (g : Int → Int) (c : Int) : ∀ (n : Nat) (i a b : Int), lkF g c n i (i_or a b) = i_or a (lkF g c n i b)
  | 0, _, _, _ => rfl
  | n + 1, i, a, b => by
    unfold lkF
    by_cases h : pg g (co g c (6 + 2 * i)) 5 ≠ -1
    · rw [if_pos h, if_pos h, i_or_a]
      exact lkF_or g c n (i + 1) a _
    · rw [if_neg h, if_neg h]
      exact lkF_or g c n (i + 1) a b
theorem lkF_32 (g : Int → Int) (c : Int) : ∀ (n : Nat) (i a : Int), in32 a → in32 (lkF g c n i a)
  | 0, _, _, h => h
  | n + 1, i, a, h => by
    unfold lkF
    split
    · exact lkF_32 g c n (i + 1) _ (i_or_32 _ _)
    · exact lkF_32 g c n (i + 1) _ h
theorem lkF_0 (g : Int → Int) (c : Int) (n : Nat) (i a : Int) (ha : in32 a) : lkF g c n i a = i_or a (lkF g c n i 0) := by
  have := lkF_or g c n i a 0
  rw [i_or_0 ha] at this
  exact this
/-- the victim: the first of the lowest rank -/
def vk (P : MP) (g : Int → Int) (k : Int) (n : Nat) (i : Int) : Int := ff (fun p => pg g p 0 = k ∧ canGoG P g p) n i
theorem rk_c (k : Int) : (k = 2 ∧ rkG k = 0) ∨ (k = 3 ∧ rkG k = 1) ∨ (k ≠ 2 ∧ k ≠ 3 ∧ rkG k = 2) := by
  unfold rkG
  (repeat' split) <;> omega
theorem vcF_eq (P : MP) (g : Int → Int) : ∀ (n : Nat) (i b : Int), 0 ≤ i → (b = -1 ∨ (0 ≤ b ∧ 1 ≤ pg g b 0 ∧ pg g b 0 ≤ 3)) → vcF P g n i b = if b ≠ -1 ∧ pg g b 0 = 2 then b else if vk P g 2 n i ≠ -1 then vk P g 2 n i else if b ≠ -1 ∧ pg g b 0 = 3 then b else if vk P g 3 n i ≠ -1 then vk P g 3 n i else if b ≠ -1 then b else vk P g 1 n i
  | 0, i, b, hi, hb => by
    show b = _
    have e : ∀ k, vk P g k 0 i = -1 := fun k => rfl
    rw [e, e, e]
    (repeat' split) <;> omega
  | n + 1, i, b, hi, hb => by
    unfold vcF
    have st : ∀ k, vk P g k (n + 1) i = if pg g i 0 = k ∧ canGoG P g i then i else vk P g k n (i + 1) := fun k => rfl
    rw [st 2, st 3, st 1]
    have ri := rk_c (pg g i 0)
    have rb := rk_c (pg g b 0)
    by_cases hc : (pg g i 0 ≠ 0 ∧ canGoG P g i) ∧ (b = -1 ∨ rkG (pg g i 0) < rkG (pg g b 0))
    · have k1 : 1 ≤ pg g i 0 ∧ pg g i 0 ≤ 3 := by omega
      have cg := hc.1.2
      rw [if_pos hc, vcF_eq P g n (i + 1) i (by omega) (Or.inr ⟨hi, k1.1, k1.2⟩)]
      have hr : b = -1 ∨ rkG (pg g i 0) < rkG (pg g b 0) := hc.2
      rcases (show pg g i 0 = 1 ∨ pg g i 0 = 2 ∨ pg g i 0 = 3 by omega) with e | e | e
      · rw [if_neg (show ¬ (pg g i 0 = 2 ∧ canGoG P g i) from fun z => by have := z.1; omega), if_neg (show ¬ (pg g i 0 = 3 ∧ canGoG P g i) from fun z => by have := z.1; omega), if_pos (show pg g i 0 = 1 ∧ canGoG P g i from ⟨e, cg⟩)]
        clear hc cg
        (repeat' split) <;> first | rfl | omega
      · rw [if_pos (show pg g i 0 = 2 ∧ canGoG P g i from ⟨e, cg⟩), if_neg (show ¬ (pg g i 0 = 3 ∧ canGoG P g i) from fun z => by have := z.1; omega), if_neg (show ¬ (pg g i 0 = 1 ∧ canGoG P g i) from fun z => by have := z.1; omega)]
        clear hc cg
        (repeat' split) <;> first | rfl | omega
      · rw [if_neg (show ¬ (pg g i 0 = 2 ∧ canGoG P g i) from fun z => by have := z.1; omega), if_pos (show pg g i 0 = 3 ∧ canGoG P g i from ⟨e, cg⟩), if_neg (show ¬ (pg g i 0 = 1 ∧ canGoG P g i) from fun z => by have := z.1; omega)]
        clear hc cg
        (repeat' split) <;> first | rfl | omega
    · rw [if_neg hc, vcF_eq P g n (i + 1) b (by omega) hb]
      by_cases cg : canGoG P g i
      · have k1 : 1 ≤ pg g i 0 ∧ pg g i 0 ≤ 3 := by omega
        have hr : ¬ (b = -1 ∨ rkG (pg g i 0) < rkG (pg g b 0)) := fun z => hc ⟨⟨by omega, cg⟩, z⟩
        rcases (show pg g i 0 = 1 ∨ pg g i 0 = 2 ∨ pg g i 0 = 3 by omega) with e | e | e
        · rw [if_neg (show ¬ (pg g i 0 = 2 ∧ canGoG P g i) from fun z => by have := z.1; omega), if_neg (show ¬ (pg g i 0 = 3 ∧ canGoG P g i) from fun z => by have := z.1; omega), if_pos (show pg g i 0 = 1 ∧ canGoG P g i from ⟨e, cg⟩)]
          clear hc cg
          (repeat' split) <;> first | rfl | omega
        · rw [if_pos (show pg g i 0 = 2 ∧ canGoG P g i from ⟨e, cg⟩), if_neg (show ¬ (pg g i 0 = 3 ∧ canGoG P g i) from fun z => by have := z.1; omega), if_neg (show ¬ (pg g i 0 = 1 ∧ canGoG P g i) from fun z => by have := z.1; omega)]
          clear hc cg
          (repeat' split) <;> first | rfl | omega
        · rw [if_neg (show ¬ (pg g i 0 = 2 ∧ canGoG P g i) from fun z => by have := z.1; omega), if_pos (show pg g i 0 = 3 ∧ canGoG P g i from ⟨e, cg⟩), if_neg (show ¬ (pg g i 0 = 1 ∧ canGoG P g i) from fun z => by have := z.1; omega)]
          clear hc cg
          (repeat' split) <;> first | rfl | omega
      · rw [if_neg (show ¬ (pg g i 0 = 2 ∧ canGoG P g i) from fun z => cg z.2), if_neg (show ¬ (pg g i 0 = 3 ∧ canGoG P g i) from fun z => cg z.2), if_neg (show ¬ (pg g i 0 = 1 ∧ canGoG P g i) from fun z => cg z.2)]
section RDD
variable {σ : ST} {P : MP} {g : Int → Int} {n : Int}
theorem L_W_isOld (hw : RW σ 0 P g) {c : Int} (hv : σ 25 0 c 7 = cp g c 7) (Q : Option AV → ST → Prop) : ∀ (n : Nat) (i : Int), i + n = P.np → 0 ≤ i → (∀ x, x = b2 (ff (fun p => pg g p 0 = 4 ∧ slotOf g p (cp g c 7) ≠ -1) n i = -1) → Q (some (.inl x)) σ) → wp m_World_isOld (23, [some (ww 0), some (cc 0 c), some (.inl i)], [], σ) Q
  | 0, i, h, h0, hQ => by
    have e0 := hw.np
    refine T_World_isOld_23 _ _ _ _ _ _ _ ?_
    (repeat' (first | (refine And.intro ?_ ?_) | (intro hzq; simp only [b2_e0, b2_e1, Classical.not_not, ne_eq] at hzq) | (intro hzq) | exact Or.inl rfl | exact Or.inr rfl)) <;> try omega
    exact hQ _ (b2_h rfl)
  | n + 1, i, h, h0, hQ => by
    have e0 := hw.np
    have e2 := hw.ok.p1
    have x := hw.pg i (by omega) (by omega)
    have e1 : PU m_Page_hasVersion [pp 0 i, .inl (σ 25 0 c 7)] σ (b2 (slotOf g i (cp g c 7) ≠ -1)) := by
      rw [hv]
      exact P_P_hasVersion x _
    refine T_World_isOld_23 _ _ _ _ _ _ _ ?_
    (repeat' (first | (refine And.intro ?_ ?_) | (intro hzq; simp only [b2_e0, b2_e1, Classical.not_not, ne_eq] at hzq) | (intro hzq) | exact Or.inl rfl | exact Or.inr rfl | refine PU.I (P_W_isSlots hw _) ?_ | refine PU.I (e1) ?_)) <;> try omega
    all_goals (try rw [wr_id (by omega)])
    all_goals (first | exact L_W_isOld hw hv Q n (i + 1) (by omega) (by omega) (fun x e => hQ x (by rw [e, ff_no (by omega)])) | exact hQ _ (b2_l (by rw [ff_yes (by omega)]; omega)))
theorem P_W_isOld (hw : RW σ 0 P g) (hg : GW P g n) {c : Int} (hc : isCp g c) : PU m_World_isOld [ww 0, cc 0 c] σ (b2 (oldG P g c)) := by
  have y := (hw.cp c hc.1.1 hc.1.2).y hc.2
  have w8 := bz_iff y.cha
  have p0 := hw.ok.p0
  have e1 : PU m_World_roomOfSerial [ww 0, .inl (σ 25 0 c 1)] σ (roomS g (cp g c 1)) := by
    rw [y.ser]
    exact Q_W_roomS hw _
  refine PU.mk fun Q hQ => T_World_isOld _ _ _ _ _ _ ?_
  (repeat' (first | (refine And.intro ?_ ?_) | (intro hzq; simp only [b2_e0, b2_e1, Classical.not_not, ne_eq] at hzq) | (intro hzq) | exact Or.inl rfl | exact Or.inr rfl | refine PU.I (e1) ?_)) <;> try omega
  all_goals (first | (refine L_W_isOld hw y.ver Q P.np.toNat 0 (by omega) (by omega) (fun x e => hQ x (e.trans (b2_iff (show slP P g (cp g c 7) = -1 ↔ oldG P g c by omega))))) | exact hQ _ (b2_h (by omega)))
theorem L_X_old (h : IVg σ P g n) (Q : Option AV → ST → Prop) : ∀ (m : Nat) (i a : Int), i + m = 12 → 0 ≤ i → in32 a → (∀ x, x = bf (fun c => isCp g c ∧ oldG P g c) m i a → Q (some (.inl x)) σ) → wp m_X_old (13, [some xx, some (.inl a), some (.inl i)], [], σ) Q
  | 0, i, a, h1, h0, ha, hQ => by
    refine T_X_old_13 _ _ _ _ _ _ ?_
    (repeat' (first | (refine And.intro ?_ ?_) | (intro hzq; simp only [b2_e0, b2_e1, Classical.not_not, ne_eq] at hzq) | (intro hzq) | exact Or.inl rfl | exact Or.inr rfl)) <;> try omega
    exact hQ _ rfl
  | m + 1, i, a, h1, h0, ha, hQ => by
    refine T_X_old_13 _ _ _ _ _ _ ?_
    by_cases hc : isCp g i
    · (repeat' (first | (refine And.intro ?_ ?_) | (intro hzq; simp only [b2_e0, b2_e1, Classical.not_not, ne_eq] at hzq) | (intro hzq) | exact Or.inl rfl | exact Or.inr rfl | refine PU.I (P_W_isCopy h.x.1 _) ?_ | refine PU.I (P_W_isOld h.x.1 h.w hc) ?_)) <;> try omega
      all_goals (simp (disch := omega) only [wr_id]; first | exact L_X_old h Q m (i + 1) _ (by omega) (by omega) (i_or_32 _ _) (fun x e => hQ x (by rw [e, bf_y (by omega)])) | exact L_X_old h Q m (i + 1) _ (by omega) (by omega) ha (fun x e => hQ x (by rw [e, bf_n (by omega)])))
    · (repeat' (first | (refine And.intro ?_ ?_) | (intro hzq; simp only [b2_e0, b2_e1, Classical.not_not, ne_eq] at hzq) | (intro hzq) | exact Or.inl rfl | exact Or.inr rfl | refine PU.I (P_W_isCopy h.x.1 _) ?_)) <;> try omega
      all_goals (simp (disch := omega) only [wr_id]; first | exact L_X_old h Q m (i + 1) _ (by omega) (by omega) (i_or_32 _ _) (fun x e => hQ x (by rw [e, bf_y (by omega)])) | exact L_X_old h Q m (i + 1) _ (by omega) (by omega) ha (fun x e => hQ x (by rw [e, bf_n (by omega)])))
theorem X_rd_old (h : IVg σ P g n) : PU m_X_old [xx] σ (v_old σ P g) := by
  have hb := bz_iff h.m.has
  refine PU.mk fun Q hQ => T_X_old _ _ _ _ ?_
  unfold v_old at hQ
  by_cases hp : P.np = 0
  · rw [if_pos hp] at hQ
    (repeat' (first | (refine And.intro ?_ ?_) | (intro hzq; simp only [b2_e0, b2_e1, Classical.not_not, ne_eq] at hzq) | (intro hzq) | exact Or.inl rfl | exact Or.inr rfl)) <;> try omega
    exact hQ _ rfl
  · rw [if_neg hp] at hQ
    (repeat' (first | (refine And.intro ?_ ?_) | (intro hzq; simp only [b2_e0, b2_e1, Classical.not_not, ne_eq] at hzq) | (intro hzq) | exact Or.inl rfl | exact Or.inr rfl)) <;> try omega
    exact L_X_old h Q 12 0 0 (by omega) (by omega) in32_0 hQ
theorem L_Z_inSlots17 (hz : ZS σ P g) (v : Int) {i : Int} (hi : 0 ≤ i ∧ i < P.np) (Q : Option AV → ST → Prop) (w : Prop) [Decidable w] (G : ∀ (t : Int) (o : Int), t = 0 ∨ t = 1 → (∀ x, x = b2 (t ≠ 0 ∨ w) → Q (some (.inl x)) σ) → wp m_Z_isInSlots (4, [some zz, some (.inl v), some (.inl t), some (.inl (i + 1)), some (.inl o)], [], σ) Q) : ∀ (n : Nat) (j t : Int), j + n = 4 → 0 ≤ j → t = 0 ∨ t = 1 → (∀ x, x = b2 (t ≠ 0 ∨ (pg g i 0 = 4 ∧ ff (fun s => pg g i (7 + s) = v) n j ≠ -1) ∨ w) → Q (some (.inl x)) σ) → wp m_Z_isInSlots (17, [some zz, some (.inl v), some (.inl t), some (.inl i), some (.inl j)], [], σ) Q
  | 0, j, t, h, h0, ht, hQ => by
    have e2 := hz.ok.p1
    refine T_Z_isInSlots_17 _ _ _ _ _ _ _ _ ?_
    rw [wr_id (x := i + 1) (by omega)]
    have f0 : ff (fun s => pg g i (7 + s) = v) 0 j = -1 := rfl
    refine And.intro (fun _ => G t j ht (fun x e => hQ x (e.trans (b2_iff ⟨fun h => h.elim Or.inl (fun z => Or.inr (Or.inr z)), fun h => h.elim Or.inl (fun z => z.elim (fun y => absurd f0 y.2) Or.inr)⟩)))) (fun q => absurd (show (4 : Int) ≤ j by omega) q)
  | n + 1, j, t, h, h0, ht, hQ => by
    have e2 := hz.ok.p1
    refine T_Z_isInSlots_17 _ _ _ _ _ _ _ _ ?_
    rw [wr_id (x := i + 1) (by omega), wr_id (x := j + 1) (by omega), wr_id (x := 7 + j) (by omega)]
    (repeat' (first | (refine And.intro ?_ ?_) | (intro hzq; simp only [b2_e0, b2_e1, Classical.not_not, ne_eq] at hzq) | (intro hzq) | exact Or.inl rfl | exact Or.inr rfl | refine PU.I (P_Z_ofPage hz (by omega) (by omega) (by omega) (by omega)) ?_)) <;> try omega
    · have hk : ¬ pg g i 0 = 4 := by omega
      exact G t j ht (fun x e => hQ x (e.trans (b2_iff ⟨fun h => h.elim Or.inl (fun z => Or.inr (Or.inr z)), fun h => h.elim Or.inl (fun z => z.elim (fun y => absurd y.1 hk) Or.inr)⟩)))
    · have hk : t ≠ 0 := by omega
      exact L_Z_inSlots17 hz v hi Q w G n (j + 1) 1 (by omega) (by omega) (Or.inr rfl) (fun x e => hQ x (e.trans (b2_iff ⟨fun _ => Or.inl hk, fun _ => Or.inl (by decide)⟩)))
    · have hk : t = 0 := by omega
      have f1 : ff (fun s => pg g i (7 + s) = v) (n + 1) j = ff (fun s => pg g i (7 + s) = v) n (j + 1) := ff_no (by omega)
      rw [f1] at hQ
      exact L_Z_inSlots17 hz v hi Q w G n (j + 1) 0 (by omega) (by omega) (Or.inl rfl) (fun x e => hQ x (e.trans (b2_iff ⟨fun h => h.elim (fun z => absurd rfl z) Or.inr, fun h => h.elim (fun z => absurd hk z) Or.inr⟩)))
    · have hk : pg g i 0 = 4 := by omega
      have f1 : ff (fun s => pg g i (7 + s) = v) (n + 1) j = j := ff_yes (by omega)
      exact L_Z_inSlots17 hz v hi Q w G n (j + 1) 1 (by omega) (by omega) (Or.inr rfl) (fun x e => hQ x (e.trans (b2_iff ⟨fun _ => Or.inr (Or.inl ⟨hk, by rw [f1]; omega⟩), fun _ => Or.inl (by decide)⟩)))
theorem L_Z_inSlots (hz : ZS σ P g) (v : Int) (Q : Option AV → ST → Prop) : ∀ (n : Nat) (i t : Int) (o : Option AV), i + n = P.np → 0 ≤ i → t = 0 ∨ t = 1 → (∀ x, x = b2 (t ≠ 0 ∨ ff (fun p => pg g p 0 = 4 ∧ slotOf g p v ≠ -1) n i ≠ -1) → Q (some (.inl x)) σ) → wp m_Z_isInSlots (4, [some zz, some (.inl v), some (.inl t), some (.inl i), o], [], σ) Q
  | 0, i, t, o, h, h0, ht, hQ => by
    have e0 := hz.np
    refine T_Z_isInSlots_4 _ _ _ _ _ _ _ _ ?_
    have f0 : ff (fun p => pg g p 0 = 4 ∧ slotOf g p v ≠ -1) 0 i = -1 := rfl
    refine And.intro (by omega) (And.intro (fun _ => And.intro ht (hQ _ ?_)) (fun q => absurd (show σ 43 0 0 0 ≤ i by omega) q))
    rcases ht with e | e
    · rw [e]; exact b2_l (by omega)
    · rw [e]; exact b2_h (by omega)
  | n + 1, i, t, o, h, h0, ht, hQ => by
    have e0 := hz.np
    refine T_Z_isInSlots_4 _ _ _ _ _ _ _ _ ?_
    refine And.intro (by omega) (And.intro (fun q => absurd q (by omega)) (fun _ => ?_))
    refine L_Z_inSlots17 hz v ⟨h0, by omega⟩ Q (ff (fun p => pg g p 0 = 4 ∧ slotOf g p v ≠ -1) n (i + 1) ≠ -1) (fun t o ht hq => L_Z_inSlots hz v Q n (i + 1) t _ (by omega) (by omega) ht hq) 4 0 t (by omega) (by omega) ht (fun x e => hQ x (e.trans (b2_iff ?_)))
    have es : ff (fun s => pg g i (7 + s) = v) 4 0 = slotOf g i v := rfl
    rw [es]
    by_cases hc : pg g i 0 = 4 ∧ slotOf g i v ≠ -1
    · have f1 : ff (fun p => pg g p 0 = 4 ∧ slotOf g p v ≠ -1) (n + 1) i = i := ff_yes hc
      rw [f1]
      omega
    · have f1 : ff (fun p => pg g p 0 = 4 ∧ slotOf g p v ≠ -1) (n + 1) i = ff (fun p => pg g p 0 = 4 ∧ slotOf g p v ≠ -1) n (i + 1) := ff_no hc
      rw [f1]
      omega
theorem P_Z_inSlots (hz : ZS σ P g) (v : Int) : PU m_Z_isInSlots [zz, .inl v] σ (b2 (slP P g v ≠ -1)) := by
  have e1 := hz.ok.p0
  exact PU.mk fun Q hQ => T_Z_isInSlots _ _ _ _ _ (L_Z_inSlots hz v Q P.np.toNat 0 0 _ (by omega) (by omega) (Or.inl rfl) (fun x e => hQ x (e.trans (b2_iff (show ((0 : Int) ≠ 0 ∨ slP P g v ≠ -1) ↔ slP P g v ≠ -1 by omega)))))
theorem L_Z_old (h : IVg σ P g n) (Q : Option AV → ST → Prop) : ∀ (m : Nat) (i a : Int) (o : Option AV), i + m = 12 → 0 ≤ i → in32 a → (∀ x, x = bf (fun c => isCp g c ∧ oldG P g c) m i a → Q (some (.inl x)) σ) → wp m_Z_old (13, [some zz, some (.inl a), some (.inl i), o], [], σ) Q
  | 0, i, a, o, h1, h0, ha, hQ => by
    refine T_Z_old_13 _ _ _ _ _ _ _ ?_
    (repeat' (first | (refine And.intro ?_ ?_) | (intro hzq; simp only [b2_e0, b2_e1, Classical.not_not, ne_eq] at hzq) | (intro hzq) | exact Or.inl rfl | exact Or.inr rfl)) <;> try omega
    exact hQ _ rfl
  | m + 1, i, a, o, h1, h0, ha, hQ => by
    have go : ∀ t : Int, t = b2 (isCp g i ∧ oldG P g i) → wp m_Z_old (71, [some zz, some (.inl a), some (.inl i), o], [.inl t], σ) Q := by
      intro t ht
      refine T_Z_old_71 _ _ _ _ _ _ _ _ ?_
      rw [i_or_0 ha, ht, b2_e0, wr_id (by omega)]
      refine And.intro (fun hc => L_Z_old h Q m (i + 1) _ _ (by omega) (by omega) ha (fun x e => hQ x (by rw [e, bf_n hc]))) (fun hc => L_Z_old h Q m (i + 1) _ _ (by omega) (by omega) (i_or_32 _ _) (fun x e => hQ x (by rw [e, bf_y (Classical.not_not.mp hc)])))
    refine T_Z_old_13 _ _ _ _ _ _ _ ?_
    by_cases hc : isCp g i
    · have cy := h.w.s.cy i hc
      (repeat' (first | (refine And.intro ?_ ?_) | (intro hzq; simp only [b2_e0, b2_e1, Classical.not_not, ne_eq] at hzq) | (intro hzq) | exact Or.inl rfl | exact Or.inr rfl | refine PU.I (P_Z_isCopy h.z _) ?_ | refine PU.I (P_Z_ofCopy h.z (by omega) (by omega) (by omega) (by omega)) ?_ | refine PU.I (P_Z_inSlots h.z _) ?_ | refine PU.I (Q_roomS h.z _) ?_)) <;> try omega
      all_goals (first | exact go _ (b2_h (by omega)) | exact go _ (b2_l (by omega)))
    · (repeat' (first | (refine And.intro ?_ ?_) | (intro hzq; simp only [b2_e0, b2_e1, Classical.not_not, ne_eq] at hzq) | (intro hzq) | exact Or.inl rfl | exact Or.inr rfl | refine PU.I (P_Z_isCopy h.z _) ?_)) <;> try omega
      all_goals exact go _ (b2_l (by omega))
theorem Z_rd_old (h : IVg σ P g n) : PU m_Z_old [zz] σ (v_old σ P g) := by
  have hb := bz_iff h.z.mac
  refine PU.mk fun Q hQ => T_Z_old _ _ _ _ ?_
  unfold v_old at hQ
  by_cases hp : P.np = 0
  · rw [if_pos hp] at hQ
    (repeat' (first | (refine And.intro ?_ ?_) | (intro hzq; simp only [b2_e0, b2_e1, Classical.not_not, ne_eq] at hzq) | (intro hzq) | exact Or.inl rfl | exact Or.inr rfl)) <;> try omega
    exact hQ _ rfl
  · rw [if_neg hp] at hQ
    (repeat' (first | (refine And.intro ?_ ?_) | (intro hzq; simp only [b2_e0, b2_e1, Classical.not_not, ne_eq] at hzq) | (intro hzq) | exact Or.inl rfl | exact Or.inr rfl)) <;> try omega
    exact L_Z_old h Q 12 0 0 _ (by omega) (by omega) in32_0 hQ
theorem L_X_twins (h : IVg σ P g n) {c : Int} (hc : isCp g c) (Q : Option AV → ST → Prop) : ∀ (m : Nat) (i a : Int), i + m = 12 → 0 ≤ i → in32 a → (∀ x, x = bf (fun o => o ≠ c ∧ isCp g o ∧ cp g o 7 = cp g c 7) m i a → Q (some (.inl x)) σ) → wp m_X_twins (17, [some xx, some (.inl c), some (.inl a), some (.inl i)], [], σ) Q
  | 0, i, a, h1, h0, ha, hQ => by
    refine T_X_twins_17 _ _ _ _ _ _ _ ?_
    (repeat' (first | (refine And.intro ?_ ?_) | (intro hzq; simp only [b2_e0, b2_e1, Classical.not_not, ne_eq] at hzq) | (intro hzq) | exact Or.inl rfl | exact Or.inr rfl)) <;> try omega
    exact hQ _ rfl
  | m + 1, i, a, h1, h0, ha, hQ => by
    have w7 := ((h.x.1.cp c hc.1.1 hc.1.2).y hc.2).ver
    refine T_X_twins_17 _ _ _ _ _ _ _ ?_
    by_cases hi : isCp g i
    · have y7 := ((h.x.1.cp i hi.1.1 hi.1.2).y hi.2).ver
      (repeat' (first | (refine And.intro ?_ ?_) | (intro hzq; simp only [b2_e0, b2_e1, Classical.not_not, ne_eq] at hzq) | (intro hzq) | exact Or.inl rfl | exact Or.inr rfl | refine PU.I (P_W_isCopy h.x.1 _) ?_)) <;> try omega
      all_goals (simp (disch := omega) only [wr_id]; first | exact L_X_twins h hc Q m (i + 1) _ (by omega) (by omega) (i_or_32 _ _) (fun x e => hQ x (by rw [e, bf_y (by omega)])) | exact L_X_twins h hc Q m (i + 1) _ (by omega) (by omega) ha (fun x e => hQ x (by rw [e, bf_n (by omega)])))
    · (repeat' (first | (refine And.intro ?_ ?_) | (intro hzq; simp only [b2_e0, b2_e1, Classical.not_not, ne_eq] at hzq) | (intro hzq) | exact Or.inl rfl | exact Or.inr rfl | refine PU.I (P_W_isCopy h.x.1 _) ?_)) <;> try omega
      all_goals (simp (disch := omega) only [wr_id]; first | exact L_X_twins h hc Q m (i + 1) _ (by omega) (by omega) (i_or_32 _ _) (fun x e => hQ x (by rw [e, bf_y (by omega)])) | exact L_X_twins h hc Q m (i + 1) _ (by omega) (by omega) ha (fun x e => hQ x (by rw [e, bf_n (by omega)])))
theorem X_rd_twins (h : IVg σ P g n) (c : Int) : PU m_X_twins [xx, .inl c] σ (v_twins c σ P g) := by
  refine PU.mk fun Q hQ => T_X_twins _ _ _ _ _ ?_
  unfold v_twins at hQ
  by_cases hc : isCp g c
  · rw [if_pos hc] at hQ
    (repeat' (first | (refine And.intro ?_ ?_) | (intro hzq; simp only [b2_e0, b2_e1, Classical.not_not, ne_eq] at hzq) | (intro hzq) | exact Or.inl rfl | exact Or.inr rfl | refine PU.I (P_W_isCopy h.x.1 _) ?_)) <;> try omega
    exact L_X_twins h hc Q 12 0 0 (by omega) (by omega) in32_0 hQ
  · rw [if_neg hc] at hQ
    (repeat' (first | (refine And.intro ?_ ?_) | (intro hzq; simp only [b2_e0, b2_e1, Classical.not_not, ne_eq] at hzq) | (intro hzq) | exact Or.inl rfl | exact Or.inr rfl | refine PU.I (P_W_isCopy h.x.1 _) ?_)) <;> try omega
    exact hQ _ rfl
theorem L_Z_twins (h : IVg σ P g n) {c : Int} (hc : isCp g c) (Q : Option AV → ST → Prop) : ∀ (m : Nat) (i a : Int), i + m = 12 → 0 ≤ i → in32 a → (∀ x, x = bf (fun o => o ≠ c ∧ isCp g o ∧ cp g o 7 = cp g c 7) m i a → Q (some (.inl x)) σ) → wp m_Z_twins (14, [some zz, some (.inl c), some (.inl a), some (.inl i)], [], σ) Q
  | 0, i, a, h1, h0, ha, hQ => by
    refine T_Z_twins_14 _ _ _ _ _ _ _ ?_
    (repeat' (first | (refine And.intro ?_ ?_) | (intro hzq; simp only [b2_e0, b2_e1, Classical.not_not, ne_eq] at hzq) | (intro hzq) | exact Or.inl rfl | exact Or.inr rfl)) <;> try omega
    exact hQ _ rfl
  | m + 1, i, a, h1, h0, ha, hQ => by
    refine T_Z_twins_14 _ _ _ _ _ _ _ ?_
    rw [i_or_0 ha]
    (repeat' (first | (refine And.intro ?_ ?_) | (intro hzq; simp only [b2_e0, b2_e1, Classical.not_not, ne_eq] at hzq) | (intro hzq) | exact Or.inl rfl | exact Or.inr rfl | refine PU.I (P_Z_isCopy h.z _) ?_ | refine PU.I (P_Z_ofCopy h.z (by omega) (by omega) (by omega) (by omega)) ?_)) <;> try omega
    all_goals (simp (disch := omega) only [wr_id]; first | exact L_Z_twins h hc Q m (i + 1) _ (by omega) (by omega) (i_or_32 _ _) (fun x e => hQ x (by rw [e, bf_y (by omega)])) | exact L_Z_twins h hc Q m (i + 1) _ (by omega) (by omega) ha (fun x e => hQ x (by rw [e, bf_n (by omega)])))
theorem Z_rd_twins (h : IVg σ P g n) (c : Int) : PU m_Z_twins [zz, .inl c] σ (v_twins c σ P g) := by
  refine PU.mk fun Q hQ => T_Z_twins _ _ _ _ _ ?_
  unfold v_twins at hQ
  by_cases hc : isCp g c
  · rw [if_pos hc] at hQ
    (repeat' (first | (refine And.intro ?_ ?_) | (intro hzq; simp only [b2_e0, b2_e1, Classical.not_not, ne_eq] at hzq) | (intro hzq) | exact Or.inl rfl | exact Or.inr rfl | refine PU.I (P_Z_isCopy h.z _) ?_)) <;> try omega
    exact L_Z_twins h hc Q 12 0 0 (by omega) (by omega) in32_0 hQ
  · rw [if_neg hc] at hQ
    (repeat' (first | (refine And.intro ?_ ?_) | (intro hzq; simp only [b2_e0, b2_e1, Classical.not_not, ne_eq] at hzq) | (intro hzq) | exact Or.inl rfl | exact Or.inr rfl | refine PU.I (P_Z_isCopy h.z _) ?_)) <;> try omega
    exact hQ _ rfl
end RDD
