/-! bits (the first family of kit/laws/BITS.to-paste stands here); numbers; what is seen; touch -/
def bt (x : Int32) (i : Nat) : Bool := x.toBitVec.getLsbD i
theorem b_ext {x y : Int32} (h : ∀ i, i < 32 → bt x i = bt y i) : x = y := Int32.toBitVec_inj.mp (BitVec.eq_of_getLsbD_eq (fun i hi => h i hi))
theorem b_or (x y : Int32) (i : Nat) : bt (x ||| y) i = (bt x i || bt y i) := by unfold bt; rw [Int32.toBitVec_or, BitVec.getLsbD_or]
theorem b_and (x y : Int32) (i : Nat) : bt (x &&& y) i = (bt x i && bt y i) := by unfold bt; rw [Int32.toBitVec_and, BitVec.getLsbD_and]
theorem b_xor (x y : Int32) (i : Nat) : bt (x ^^^ y) i = (bt x i ^^ bt y i) := by unfold bt; rw [Int32.toBitVec_xor, BitVec.getLsbD_xor]
theorem b_big {x : Int32} {i : Nat} (h : 32 ≤ i) : bt x i = false := BitVec.getLsbD_of_ge _ _ h
theorem b_255 (i : Nat) : bt 255 i = decide (i < 8) := by
  rcases Nat.lt_or_ge i 32 with h | h
  · exact (by decide +kernel : ∀ i, i < 32 → bt 255 i = decide (i < 8)) i h
  · rw [b_big h, decide_eq_false (by omega)]
theorem b_65535 (i : Nat) : bt 65535 i = decide (i < 16) := by
  rcases Nat.lt_or_ge i 32 with h | h
  · exact (by decide +kernel : ∀ i, i < 32 → bt 65535 i = decide (i < 16)) i h
  · rw [b_big h, decide_eq_false (by omega)]
theorem b_m1 : ∀ i, i < 32 → bt (-1) i = true := by decide +kernel
theorem b_0 (i : Nat) : bt 0 i = false := BitVec.getLsbD_zero
theorem s_l : ∀ n, n < 32 → ((nI n &&& 31).toBitVec.smod 32).toNat = n := by decide +kernel
theorem s_u : ∀ n, n < 32 → (((nI n).toUInt32 &&& Int32.toUInt32 31).toBitVec % 32).toNat = n := by decide +kernel
theorem b_shl (n : Nat) (hn : n < 32) (x : Int32) {i : Nat} (hi : i < 32) : bt (x <<< (nI n &&& 31)) i = (decide (n ≤ i) && bt x (i - n)) := by
  unfold bt
  rw [Int32.toBitVec_shiftLeft]
  show (x.toBitVec <<< ((nI n &&& 31).toBitVec.smod 32).toNat).getLsbD i = _
  rw [s_l n hn, BitVec.getLsbD_shiftLeft]
  rcases Nat.lt_or_ge i n with h | h
  · simp [h, Nat.not_le.mpr h]
  · simp [hi, h, Nat.not_lt.mpr h]
theorem b_ushr (n : Nat) (hn : n < 32) (x : Int32) (i : Nat) : bt ((x.toUInt32 >>> ((nI n).toUInt32 &&& Int32.toUInt32 31)).toInt32) i = bt x (n + i) := by
  show (x.toUInt32 >>> ((nI n).toUInt32 &&& Int32.toUInt32 31)).toBitVec.getLsbD i = x.toUInt32.toBitVec.getLsbD (n + i)
  rw [UInt32.toBitVec_shiftRight]
  show (x.toUInt32.toBitVec >>> (((nI n).toUInt32 &&& Int32.toUInt32 31).toBitVec % 32).toNat).getLsbD i = _
  rw [s_u n hn, BitVec.getLsbD_ushiftRight]
theorem b_sshr (n : Nat) (hn : n < 32) (x : Int32) {i : Nat} (hi : i < 32) : bt (x >>> (nI n &&& 31)) i = if n + i < 32 then bt x (n + i) else bt x 31 := by
  unfold bt
  rw [Int32.toBitVec_shiftRight]
  show (x.toBitVec.sshiftRight ((nI n &&& 31).toBitVec.smod 32).toNat).getLsbD i = _
  rw [s_l n hn, BitVec.getLsbD_sshiftRight, BitVec.msb_eq_getLsbD_last]
  simp [hi]
theorem b_shl8 (x : Int32) {i : Nat} (hi : i < 32) : bt (x <<< ((8 : Int32) &&& 31)) i = (decide (8 ≤ i) && bt x (i - 8)) := b_shl 8 (by omega) x hi
theorem b_shl16 (x : Int32) {i : Nat} (hi : i < 32) : bt (x <<< ((16 : Int32) &&& 31)) i = (decide (16 ≤ i) && bt x (i - 16)) := b_shl 16 (by omega) x hi
theorem b_shl24 (x : Int32) {i : Nat} (hi : i < 32) : bt (x <<< ((24 : Int32) &&& 31)) i = (decide (24 ≤ i) && bt x (i - 24)) := b_shl 24 (by omega) x hi
theorem b_sshr8 (x : Int32) {i : Nat} (hi : i < 32) : bt (x >>> ((8 : Int32) &&& 31)) i = if 8 + i < 32 then bt x (8 + i) else bt x 31 := b_sshr 8 (by omega) x hi
theorem b_lit : ∀ i, i < 32 → (bt 1 i = decide (i = 0) ∧ bt 2 i = decide (i = 1) ∧ bt 4 i = decide (i = 2)) := by decide +kernel
theorem n_bk (z : Int32) : Int32.ofInt z.toInt = z := Int32.ofInt_toInt z
theorem i_z0 (z : Int32) : z.toInt = 0 ↔ z = 0 := by
  constructor
  · intro h
    rw [← Int32.toInt_inj, h]
    rfl
  · intro h
    rw [h]
    rfl
theorem bit_and (R K : Int32) (h : Nat) (hh : h < 32) (hK : ∀ i, i < 32 → bt K i = decide (i = h)) : R &&& K = 0 ↔ bt R h = false := by
  constructor
  · intro e
    have := congrArg (fun z => bt z h) e
    rw [b_and, hK h hh] at this
    simpa [b_0] using this
  · intro e
    refine b_ext (fun i hi => ?_)
    rw [b_and, hK i hi, b_0]
    by_cases z : i = h
    · subst z; rw [e]; rfl
    · rw [decide_eq_false z, Bool.and_false]
theorem bit_one (z : Int32) : (z &&& 1 = 1 ↔ bt z 0 = true) := by
  constructor
  · intro e
    have := congrArg (fun q => bt q 0) e
    rw [b_and, show bt (1 : Int32) 0 = true from by decide +kernel, Bool.and_true] at this
    exact this
  · intro e
    refine b_ext (fun i hi => ?_)
    rw [b_and, (b_lit i hi).1]
    by_cases q : i = 0
    · subst q; rw [e]; rfl
    · rw [decide_eq_false q, Bool.and_false]
theorem rgt {r h : Int} (h0 : 0 ≤ h) (h1 : h ≤ 2) : i_and r (i_shl 1 h) ≠ 0 ↔ i_and (i_shr r h) 1 = 1 := by
  have key : ∀ n : Nat, n < 3 → ∀ K : Int32, Int32.ofInt (i_shl 1 (n : Int)) = K → (∀ i, i < 32 → bt K i = decide (i = n)) → (i_and r (i_shl 1 (n : Int)) ≠ 0 ↔ i_and (i_shr r (n : Int)) 1 = 1) := by
    intro n hn K hK hb
    have e1 : Int32.ofInt (n : Int) = nI n := by
      rw [Int32.ofInt_eq_ofNat]
      rfl
    unfold i_and
    rw [hK, Ne, i_z0, bit_and _ K n (by omega) hb]
    have e2 : Int32.ofInt (i_shr r (n : Int)) = Int32.ofInt r >>> (nI n &&& 31) := by
      unfold i_shr
      rw [n_bk, e1]
    rw [e2, show Int32.ofInt 1 = 1 from rfl]
    have e3 : ∀ z : Int32, z.toInt = 1 ↔ z = 1 := by
      intro z
      constructor
      · intro q
        rw [← Int32.toInt_inj, q]
        rfl
      · intro q
        rw [q]
        rfl
    rw [e3, bit_one, b_sshr n (by omega) _ (by omega), if_pos (by omega), Nat.add_zero]
    cases bt (Int32.ofInt r) n <;> simp
  rcases (show h = 0 ∨ h = 1 ∨ h = 2 by omega) with rfl | rfl | rfl
  · exact key 0 (by omega) 1 (by decide +kernel) (fun i hi => (b_lit i hi).1)
  · exact key 1 (by omega) 2 (by decide +kernel) (fun i hi => (b_lit i hi).2.1)
  · exact key 2 (by omega) 4 (by decide +kernel) (fun i hi => (b_lit i hi).2.2)
theorem i_xor_neg {x y : Int} (hx : in32 x) (hy : in32 y) (h0 : 0 ≤ y) : i_xor x y < 0 ↔ x < 0 := by
  unfold i_xor
  have e1 : (Int32.ofInt x ^^^ Int32.ofInt y).toBitVec.msb = ((Int32.ofInt x).toBitVec.msb ^^ (Int32.ofInt y).toBitVec.msb) := by
    rw [Int32.toBitVec_xor, BitVec.msb_xor]
  rw [BitVec.msb_eq_toInt, BitVec.msb_eq_toInt, BitVec.msb_eq_toInt] at e1
  have a1 : (Int32.ofInt x).toBitVec.toInt = x := n_toInt hx
  have a2 : (Int32.ofInt y).toBitVec.toInt = y := n_toInt hy
  rw [a1, a2, decide_eq_false (show ¬ y < 0 by omega), Bool.xor_false] at e1
  exact decide_eq_decide.mp e1
theorem i_rem_eq {x y : Int} (hx : in32 x) (h0 : 0 < y) (h1 : y < 2147483648) : i_rem x y = x.tmod y := by
  have hx1 := hx.1
  have hx2 := hx.2
  have hy : in32 y := ⟨by omega, by omega⟩
  have hn : Int32.ofInt y ≠ -1 := by
    intro e
    have := congrArg Int32.toInt e
    rw [n_toInt hy] at this
    have h2 : (-1 : Int32).toInt = -1 := by decide
    omega
  unfold i_rem
  have e0 := Int.mul_tdiv_add_tmod x y
  have e1 := Int.tmod_lt_of_pos x h0
  have e2 : -y < x.tmod y := Int.lt_tmod_of_pos x h0
  have e3 : 0 ≤ x → 0 ≤ x.tmod y := fun h => Int.tmod_nonneg y h
  have e4 : x ≤ 0 → x.tmod y ≤ 0 := by
    intro h
    have := Int.tmod_nonneg y (show 0 ≤ -x by omega)
    rw [Int.neg_tmod] at this
    omega
  rw [Int32.toInt_sub, Int32.toInt_mul, Int32.toInt_div_of_ne_right _ _ hn, n_toInt hx, n_toInt hy, Int.mul_comm (x.tdiv y) y]
  generalize y * x.tdiv y = z at e0
  have e5 : z.bmod (2 ^ 32) = z := by
    refine Int.bmod_eq_of_le ?_ ?_ <;> omega
  rw [e5]
  have e6 : x - z = x.tmod y := by omega
  rw [e6]
  refine Int.bmod_eq_of_le ?_ ?_ <;> omega
theorem P_floorMod {x m : Int} (hx : in32 x) (h0 : 0 < m) (h1 : m < 1000000) (σ : ST) : PU m_JMath_floorMod [.inl x, .inl m] σ (x % m) := by
  have hm : in32 m := ⟨by omega, by omega⟩
  have e1 := i_rem_eq hx h0 (by omega)
  have e2 := i_xor_neg hx hm (by omega)
  have e3 : 0 ≤ x → x.tmod m = x % m := fun h => Int.tmod_eq_emod_of_nonneg h
  have e4 : x < 0 → x.tmod m = - ((-x) % m) := by
    intro h
    have := Int.tmod_eq_emod_of_nonneg (b := m) (show 0 ≤ -x by omega)
    rw [Int.neg_tmod] at this
    omega
  have e5 := Int.emod_nonneg (-x) (show m ≠ 0 by omega)
  have e6 := Int.emod_lt_of_pos (-x) h0
  have e7 := Int.emod_nonneg x (show m ≠ 0 by omega)
  have e8 := Int.emod_lt_of_pos x h0
  have e9 : ((-x) % m = 0 ∧ x % m = 0) ∨ ((-x) % m = m - x % m ∧ x % m ≠ 0) := by
    have q1 := Int.emod_add_mul_ediv x m
    have q2 := Int.emod_add_mul_ediv (-x) m
    have q3 : m * ((x / m) + (-x) / m) = - (x % m + (-x) % m) := by
      rw [Int.mul_add]
      omega
    generalize (x / m) + (-x) / m = q at q3
    have q4 : m * q ≤ 0 := by omega
    have q5 : -(2 * m) < m * q := by omega
    have q6 : q ≤ 0 := by
      rcases Int.lt_or_le 0 q with z | z
      · have := Int.mul_pos h0 z
        omega
      · exact z
    have q7 : -2 < q := by
      rcases Int.lt_or_le (-2) q with z | z
      · exact z
      · have := Int.mul_le_mul_of_nonneg_left z (show 0 ≤ m by omega)
        omega
    rcases (show q = 0 ∨ q = -1 by omega) with z | z
    · subst z
      omega
    · subst z
      omega
  refine PU.mk fun Q hQ => T_JMath_floorMod _ _ _ _ ?_
  rw [e1]
  refine And.intro (by omega) (And.intro (fun h => hQ _ (e3 (by omega))) (fun h => And.intro (fun z => hQ _ ?_) (fun z => hQ _ ?_)))
  · have := e4 (by omega)
    omega
  · have := e4 (by omega)
    rw [wr_id (by omega)]
    omega
/-! what a core sees -/
theorem sc_o {g : Int → Int} {p j v x : Int} (h : ¬ (202 + 11 * p ≤ x ∧ x < 202 + 11 * p + 11)) (h0 : 0 ≤ j) (h1 : j < 11) : sc g p j v x = g x := if_neg (by omega)
theorem L_forget (k c m : Int) (hm : m ≤ 2) {F : ST → Prop} : ∀ (n : Nat) (i : Int) (σ : ST), i + n = m → 0 ≤ i → σ 21 k c 4 = m → (∀ s, Off (SCo2 k c) σ s → (∀ j, s 21 k c j = σ 21 k c j) → (∀ j, i ≤ j → j < m → s 22 k c j = σ 22 k c (j + 1) ∧ s 23 k c j = σ 23 k c (j + 1)) → (∀ j, j < i → s 22 k c j = σ 22 k c j ∧ s 23 k c j = σ 23 k c j) → F s) → wp m_Core_forgetLongestSeen (20, [some (kk k c), some (.inl i)], [], σ) (asV F)
  | 0, i, σ, h, hi, e, K => by
    refine T_Core_forgetLongestSeen_20 _ _ _ _ _ ?_
    rw [e]
    refine And.intro (fun _ => K σ (Off_refl _ _) (fun _ => rfl) (fun j a b => absurd a (by omega)) (fun j a => ⟨rfl, rfl⟩)) (fun q => absurd (show m ≤ i by omega) q)
  | n + 1, i, σ, h, hi, e, K => by
    refine T_Core_forgetLongestSeen_20 _ _ _ _ _ ?_
    rw [e, wr_id (by omega)]
    refine And.intro (fun q => absurd q (by omega)) (fun _ => And.intro (fun q => absurd q (by omega)) (fun _ => ?_))
    refine And.intro (by omega) (And.intro (by omega) (And.intro (by omega) (And.intro (by omega) ?_)))
    rw [up_o (by decide)]
    refine L_forget k c m hm n (i + 1) _ (by omega) (by omega) (by rw [up_o (by decide), up_o (by decide)]; exact e) (fun s o a1 a2 a3 => K s (Off_cat (Off_up (Off_up (Off_refl _ _) ⟨Or.inr (Or.inl rfl), rfl, rfl⟩) ⟨Or.inr (Or.inr rfl), rfl, rfl⟩) o) (fun j => ?_) (fun j x y => ?_) (fun j x => ?_))
    · rw [a1, up_o (by decide), up_o (by decide)]
    · rcases (show j = i ∨ i + 1 ≤ j by omega) with z | z
      · subst z
        have := a3 j (by omega)
        rw [this.1, this.2, up_o (by decide), up_s, if_pos rfl, up_s, if_pos rfl]
        exact ⟨rfl, rfl⟩
      · have := a2 j z y
        rw [this.1, this.2, up_o (by decide), up_s, if_neg (by omega), up_s, if_neg (by omega), up_o (by decide)]
        exact ⟨rfl, rfl⟩
    · have := a3 j (by omega)
      rw [this.1, this.2, up_o (by decide), up_s, if_neg (by omega), up_s, if_neg (by omega), up_o (by decide)]
      exact ⟨rfl, rfl⟩
theorem co_shF_lo {c : Int} : ∀ (n : Nat) (i : Int) (g : Int → Int) (t : Int), i + n ≤ 6 → 2 ≤ i → 0 ≤ t → t < i - 2 → co (shF c n i g) c (5 + t) = co g c (5 + t)
  | 0, _, _, _, _, _, _, _ => rfl
  | n + 1, i, g, t, h, hi, h0, h1 => by
    show co (shF c n (i + 1) _) c (5 + t) = _
    rw [co_shF_lo n (i + 1) _ t (by omega) (by omega) h0 (by omega), co_sc (by omega)]
theorem co_shF_at {c : Int} : ∀ (n : Nat) (i : Int) (g : Int → Int) (t : Int), i + n ≤ 6 → 2 ≤ i → i - 2 ≤ t → t < i - 2 + n → co (shF c n i g) c (5 + t) = co g c (7 + t)
  | 0, _, _, _, _, _, h0, h1 => absurd h0 (by omega)
  | n + 1, i, g, t, h, hi, h0, h1 => by
    show co (shF c n (i + 1) _) c (5 + t) = _
    rcases (show t = i - 2 ∨ i - 1 ≤ t by omega) with z | z
    · rw [co_shF_lo n (i + 1) _ t (by omega) (by omega) (by omega) (by omega), show 5 + t = 5 + i - 2 by omega, co_s, show 7 + t = 5 + i by omega]
    · rw [co_shF_at n (i + 1) _ t (by omega) (by omega) (by omega) (by omega), co_sc (by omega)]
theorem shF_o {c x : Int} (h : ¬ (202 + 11 * c ≤ x ∧ x < 202 + 11 * c + 11)) : ∀ (n : Nat) (i : Int) (g : Int → Int), i + n ≤ 6 → 2 ≤ i → shF c n i g x = g x
  | 0, _, _, _, _ => rfl
  | n + 1, i, g, h0, h1 => by
    show shF c n (i + 1) _ x = _
    rw [shF_o h n (i + 1) _ (by omega) (by omega), sc_o h (by omega) (by omega)]
section SEE
variable {σ s : ST} {k : Int} {P : MP} {g g' : Int → Int} {c a p v : Int}
theorem RX.core (h : RX σ k P g) (hc : isCo P c) (ho : Off (SCo2 k c) σ s) (he : ∀ x, ¬ (202 + 11 * c ≤ x ∧ x < 202 + 11 * c + 11) → g' x = g x) (hq : RCo s k c g') (h4 : co g' c 4 ≤ 3) : RX s k P g' := by
  have c1 := h.1.ok.c1
  have p1 := h.1.ok.p1
  have o12 : ∀ j, s 12 k 0 j = σ 12 k 0 j := fun j => ho 12 k 0 j (fun z => by have := z.1; omega)
  refine ⟨RW_upd (p := 1000) (p2 := 1000) (r := 1000) (c := c) (y := 1000) (by unfold OKR; omega) h.1 h.2 (Off_sub ho SU_co2) (fun x hx => he x (by omega)) (o12 0) (o12 1) (o12 2) ?_ ?_ (fun z => absurd z (by omega)) (fun z => absurd z (by omega)) (fun z => absurd z (by omega)) (fun _ => hq) (fun z => absurd z (by omega)), fun d hd => ?_⟩
  · rw [o12, he 343 (by omega)]; exact h.1.ver
  · rw [o12, he 344 (by omega)]; exact h.1.ser
  · by_cases e : d = c
    · rw [e]; exact h4
    · have z : co g' d 4 = co g d 4 := he _ (by omega)
      rw [z]; exact h.2 d hd
theorem RX.reg (h : RX σ k P g) (hc : isCo P c) : RX (up σ 21 k c 0 v) k P (sc g c 0 v) := by
  have c1 := h.1.ok.c1
  have h4 := h.2 c hc
  refine h.core hc (Off_up (Off_refl _ _) ⟨Or.inl rfl, rfl, rfl⟩) (fun x hx => sc_o hx (by omega) (by omega)) ?_ ?_
  · obtain ⟨z1, z2, z3, z4, z5, z6, z7⟩ := h.1.co c hc.1 hc.2
    clear h
    unfold RCo; refine ⟨?_, ?_, ?_, ?_, ?_, fun i h0 h1 => ?_, fun i h0 h1 => ?_⟩
    all_goals (try rw [co_sc (by omega)] at h1)
    all_goals ((try simp (decide := true) (disch := omega) only [up_s, up_o, up_ne, if_true, if_false, ite_true, ite_false, pg_sp, pg_sr, pg_sc, pg_sy, pg_v, pg_s, rm_sp, rm_sr, rm_sc, rm_sy, rm_v, rm_s, co_sp, co_sr, co_sc, co_sy, co_v, co_s, cp_sp, cp_sr, cp_sc, cp_sy, cp_v, cp_s, at_sp, at_sr, at_sc, at_sy, at_put, at_put_o, rm_clear, cp_clear, pg_clear_o, co_clear, at_clear, pg_clear_0, pg_clear_1, pg_clear_2, pg_clear_3, pg_clear_4, pg_clear_5, pg_clear_6, pg_clear_7, pg_clear_8, pg_clear_9, pg_clear_10, pg_clear_sl]) <;> first | done | assumption | exact bz1 (by first | exact True.intro | omega) | exact bz0 (by first | exact (fun q => q) | omega) | omega | exact bv _ (by omega) (by omega) | exact x7 (by intro hz; exact h0 (by simp (decide := true) (disch := omega) only [up_s, up_o, up_ne, if_true, if_false, ite_true, ite_false, pg_sp, pg_sr, pg_sc, pg_sy, pg_v, pg_s, rm_sp, rm_sr, rm_sc, rm_sy, rm_v, rm_s, co_sp, co_sr, co_sc, co_sy, co_v, co_s, cp_sp, cp_sr, cp_sc, cp_sy, cp_v, cp_s, at_sp, at_sr, at_sc, at_sy, at_put, at_put_o, rm_clear, cp_clear, pg_clear_o, co_clear, at_clear, pg_clear_0, pg_clear_1, pg_clear_2, pg_clear_3, pg_clear_4, pg_clear_5, pg_clear_6, pg_clear_7, pg_clear_8, pg_clear_9, pg_clear_10, pg_clear_sl]; exact hz)) | exact absurd (by simp (decide := true) (disch := omega) only [up_s, up_o, up_ne, if_true, if_false, ite_true, ite_false, pg_sp, pg_sr, pg_sc, pg_sy, pg_v, pg_s, rm_sp, rm_sr, rm_sc, rm_sy, rm_v, rm_s, co_sp, co_sr, co_sc, co_sy, co_v, co_s, cp_sp, cp_sr, cp_sc, cp_sy, cp_v, cp_s, at_sp, at_sr, at_sc, at_sy, at_put, at_put_o, rm_clear, cp_clear, pg_clear_o, co_clear, at_clear, pg_clear_0, pg_clear_1, pg_clear_2, pg_clear_3, pg_clear_4, pg_clear_5, pg_clear_6, pg_clear_7, pg_clear_8, pg_clear_9, pg_clear_10, pg_clear_sl]) h0 | exact absurd h1 (by (try simp (decide := true) (disch := omega) only [up_s, up_o, up_ne, if_true, if_false, ite_true, ite_false, pg_sp, pg_sr, pg_sc, pg_sy, pg_v, pg_s, rm_sp, rm_sr, rm_sc, rm_sy, rm_v, rm_s, co_sp, co_sr, co_sc, co_sy, co_v, co_s, cp_sp, cp_sr, cp_sc, cp_sy, cp_v, cp_s, at_sp, at_sr, at_sc, at_sy, at_put, at_put_o, rm_clear, cp_clear, pg_clear_o, co_clear, at_clear, pg_clear_0, pg_clear_1, pg_clear_2, pg_clear_3, pg_clear_4, pg_clear_5, pg_clear_6, pg_clear_7, pg_clear_8, pg_clear_9, pg_clear_10, pg_clear_sl]); omega) | exact y7 _ (by omega) (by omega) | exact y8 _ (by omega) (by omega) | exact x9 _ (by omega) (by omega) | exact z6 _ (by omega) (by omega) | exact z7 _ (by omega) (by omega) | assumption)
  · rw [co_sc (by omega)]; exact h4
theorem RX.val (h : RX σ k P g) (hp : isPg P p) : RX (up σ 14 k p 4 v) k P (sp g p 4 v) := by
  refine h.page hp (Off_up (Off_refl _ _) ⟨Or.inl rfl, rfl, rfl⟩) (fun x hx => sp_o hx (by omega) (by omega)) ?_
  obtain ⟨x1, x2, x3, x4, x5, x6, x7, x8, x9⟩ := h.1.pg p hp.1 hp.2
  clear h
  unfold RPg; refine ⟨?_, ?_, ?_, ?_, ?_, ?_, fun h0 => ?_, ?_, fun j h0 h1 => ?_⟩
  all_goals ((try simp (decide := true) (disch := omega) only [up_s, up_o, up_ne, if_true, if_false, ite_true, ite_false, pg_sp, pg_sr, pg_sc, pg_sy, pg_v, pg_s, rm_sp, rm_sr, rm_sc, rm_sy, rm_v, rm_s, co_sp, co_sr, co_sc, co_sy, co_v, co_s, cp_sp, cp_sr, cp_sc, cp_sy, cp_v, cp_s, at_sp, at_sr, at_sc, at_sy, at_put, at_put_o, rm_clear, cp_clear, pg_clear_o, co_clear, at_clear, pg_clear_0, pg_clear_1, pg_clear_2, pg_clear_3, pg_clear_4, pg_clear_5, pg_clear_6, pg_clear_7, pg_clear_8, pg_clear_9, pg_clear_10, pg_clear_sl]) <;> first | done | assumption | exact bz1 (by first | exact True.intro | omega) | exact bz0 (by first | exact (fun q => q) | omega) | omega | exact bv _ (by omega) (by omega) | exact x7 (by intro hz; exact h0 (by simp (decide := true) (disch := omega) only [up_s, up_o, up_ne, if_true, if_false, ite_true, ite_false, pg_sp, pg_sr, pg_sc, pg_sy, pg_v, pg_s, rm_sp, rm_sr, rm_sc, rm_sy, rm_v, rm_s, co_sp, co_sr, co_sc, co_sy, co_v, co_s, cp_sp, cp_sr, cp_sc, cp_sy, cp_v, cp_s, at_sp, at_sr, at_sc, at_sy, at_put, at_put_o, rm_clear, cp_clear, pg_clear_o, co_clear, at_clear, pg_clear_0, pg_clear_1, pg_clear_2, pg_clear_3, pg_clear_4, pg_clear_5, pg_clear_6, pg_clear_7, pg_clear_8, pg_clear_9, pg_clear_10, pg_clear_sl]; exact hz)) | exact absurd (by simp (decide := true) (disch := omega) only [up_s, up_o, up_ne, if_true, if_false, ite_true, ite_false, pg_sp, pg_sr, pg_sc, pg_sy, pg_v, pg_s, rm_sp, rm_sr, rm_sc, rm_sy, rm_v, rm_s, co_sp, co_sr, co_sc, co_sy, co_v, co_s, cp_sp, cp_sr, cp_sc, cp_sy, cp_v, cp_s, at_sp, at_sr, at_sc, at_sy, at_put, at_put_o, rm_clear, cp_clear, pg_clear_o, co_clear, at_clear, pg_clear_0, pg_clear_1, pg_clear_2, pg_clear_3, pg_clear_4, pg_clear_5, pg_clear_6, pg_clear_7, pg_clear_8, pg_clear_9, pg_clear_10, pg_clear_sl]) h0 | exact absurd h1 (by (try simp (decide := true) (disch := omega) only [up_s, up_o, up_ne, if_true, if_false, ite_true, ite_false, pg_sp, pg_sr, pg_sc, pg_sy, pg_v, pg_s, rm_sp, rm_sr, rm_sc, rm_sy, rm_v, rm_s, co_sp, co_sr, co_sc, co_sy, co_v, co_s, cp_sp, cp_sr, cp_sc, cp_sy, cp_v, cp_s, at_sp, at_sr, at_sc, at_sy, at_put, at_put_o, rm_clear, cp_clear, pg_clear_o, co_clear, at_clear, pg_clear_0, pg_clear_1, pg_clear_2, pg_clear_3, pg_clear_4, pg_clear_5, pg_clear_6, pg_clear_7, pg_clear_8, pg_clear_9, pg_clear_10, pg_clear_sl]); omega) | exact y7 _ (by omega) (by omega) | exact y8 _ (by omega) (by omega) | exact x9 _ (by omega) (by omega) | exact z6 _ (by omega) (by omega) | exact z7 _ (by omega) (by omega) | assumption)
theorem C_see (h : RX σ k P g) (hc : isCo P c) (h0 : 0 ≤ co g c 4) (h1 : co g c 4 ≤ P.nh) (h2 : 1 ≤ P.nh) {F : ST → Prop} (K : ∀ s, Off (SCo2 k c) σ s → RX s k P (seesG P g c a p) → F s) : wpM m_Core_see [kk k c, .inl a, .inl p, .inl (σ 12 k 0 2)] σ (asV F) := by
  have e0 := h.1.nh
  have e1 := h.1.ok.h1
  have c1 := h.1.ok.c1
  obtain ⟨z1, z2, z3, z4, z5, z6, z7⟩ := h.1.co c hc.1 hc.2
  have fin : ∀ (s : ST) (m : Int) (f : Int → Int) (o3 : Option AV), 0 ≤ m → m ≤ 2 → Off (SCo2 k c) σ s → (∀ j, j ≠ 4 → s 21 k c j = σ 21 k c j) → s 21 k c 4 = m → (∀ x, ¬ (202 + 11 * c ≤ x ∧ x < 202 + 11 * c + 11) → f x = g x) → (∀ j, 0 ≤ j → j < 4 → co f c j = co g c j) → (∀ j, 0 ≤ j → j < m → s 22 k c j = co f c (5 + 2 * j) ∧ s 23 k c j = co f c (6 + 2 * j)) → (∀ s, Off (SCo2 k c) σ s → RX s k P (see3 f c m a p) → F s) → wp m_Core_see (20, [some (kk k c), some (.inl a), some (.inl p), o3], [], s) (asV F) := by
    intro s m f o3 hm0 hm2 o b1 b2 b3 b4 b5 K
    refine T_Core_see_20 _ _ _ _ _ _ _ ?_
    have u1 : up s 22 k c m a 21 k c 4 = m := by rw [up_o (by decide), b2]
    have u2 : up (up s 22 k c m a) 23 k c m p 21 k c 4 = m := by rw [up_o (by decide), u1]
    rw [b2, u1, u2, wr_id (by omega)]
    refine And.intro (fun q => absurd q (by omega)) (fun _ => And.intro (fun _ => And.intro (by omega) (And.intro (by omega) ?_)) (fun q => absurd q (by omega)))
    refine K _ (Off_up (Off_up (Off_up o ⟨Or.inr (Or.inl rfl), rfl, rfl⟩) ⟨Or.inr (Or.inr rfl), rfl, rfl⟩) ⟨Or.inl rfl, rfl, rfl⟩) ?_
    have e5 : co (see3 f c m a p) c 4 = m + 1 := co_s
    refine h.core hc (Off_up (Off_up (Off_up o ⟨Or.inr (Or.inl rfl), rfl, rfl⟩) ⟨Or.inr (Or.inr rfl), rfl, rfl⟩) ⟨Or.inl rfl, rfl, rfl⟩) (fun x hx => ?_) ?_ (by omega)
    · unfold see3
      rw [sc_o hx (by omega) (by omega), sc_o hx (by omega) (by omega), sc_o hx (by omega) (by omega)]
      exact b3 x hx
    · unfold RCo
      rw [e5]
      have r : ∀ j, 0 ≤ j → j < 4 → co (see3 f c m a p) c j = co g c j := by
        intro j j0 j1
        unfold see3
        rw [co_sc (by omega), co_sc (by omega), co_sc (by omega)]
        exact b4 j j0 j1
      rw [r 0 (by omega) (by omega), r 1 (by omega) (by omega), r 2 (by omega) (by omega), r 3 (by omega) (by omega)]
      have w : ∀ j, j ≠ 4 → up (up (up s 22 k c m a) 23 k c m p) 21 k c 4 (m + 1) 21 k c j = σ 21 k c j := by
        intro j hj
        rw [up_s, if_neg hj, up_o (by decide), up_o (by decide), b1 j hj]
      refine ⟨(w 0 (by omega)).trans z1, (w 1 (by omega)).trans z2, (w 2 (by omega)).trans z3, (w 3 (by omega)).trans z4, by rw [up_s, if_pos rfl], fun i i0 i1 => ?_, fun i i0 i1 => ?_⟩
      · rw [up_o (by decide), up_o (by decide), up_s]
        unfold see3
        rw [co_sc (by omega), co_sc (by omega)]
        by_cases z : i = m
        · subst z
          rw [if_pos rfl, co_s]
        · rw [if_neg z, co_sc (by omega)]
          exact (b5 i i0 (by omega)).1
      · rw [up_o (by decide), up_s]
        unfold see3
        rw [co_sc (by omega)]
        by_cases z : i = m
        · subst z
          rw [if_pos rfl, show 6 + 2 * i = 5 + 2 * i + 1 by omega, co_s]
        · rw [if_neg z, co_sc (by omega), co_sc (by omega), up_o (by decide)]
          exact (b5 i i0 (by omega)).2
  refine T_Core_see _ _ _ _ _ _ _ ?_
  rw [e0, z5]
  unfold seesG at K
  by_cases hn : co g c 4 = P.nh
  · rw [if_pos hn] at K
    have go : wpM m_Core_forgetLongestSeen [kk k c] σ (asV fun s101 => wp m_Core_see (20, [some (kk k c), some (.inl a), some (.inl p), some (.inl P.nh)], [], s101) (asV F)) := by
      refine T_Core_forgetLongestSeen _ _ _ _ ?_
      rw [z5, wr_id (by omega)]
      refine And.intro (fun _ => ?_) (fun q => absurd (show 0 < co g c 4 by omega) q)
      refine L_forget k c (P.nh - 1) (by omega) (P.nh - 1).toNat 0 _ (by omega) (by omega) (by rw [up_s, if_pos rfl, hn]) (fun s o a1 a2 a3 => ?_)
      refine fin s (P.nh - 1) (shF c (2 * P.nh - 2).toNat 2 g) _ (by omega) (by omega) (Off_cat (Off_up (Off_refl _ _) ⟨Or.inl rfl, rfl, rfl⟩) o) (fun j hj => by rw [a1, up_s, if_neg hj]) (by rw [a1, up_s, if_pos rfl, hn]) (fun x hx => shF_o hx _ _ _ (by omega) (by omega)) (fun j j0 j1 => co_shF _ _ _ (by omega) (by omega) j j0 (by omega) (Or.inr (by omega)) hc.1 (by omega) hc.1 (by omega)) (fun j j0 j1 => ?_) K
      have b := a2 j j0 j1
      rw [b.1, b.2, up_o (by decide), up_o (by decide), z6 (j + 1) (by omega) (by omega), z7 (j + 1) (by omega) (by omega), co_shF_at _ _ _ (2 * j) (by omega) (by omega) (by omega) (by omega), show 6 + 2 * j = 5 + (2 * j + 1) by omega, co_shF_at _ _ _ (2 * j + 1) (by omega) (by omega) (by omega) (by omega)]
      exact ⟨congrArg _ (by omega), congrArg _ (by omega)⟩
    refine And.intro (fun _ => go) (fun q => absurd (show P.nh ≤ co g c 4 by omega) q)
  · rw [if_neg hn] at K
    refine And.intro (fun q => absurd q (by omega)) (fun _ => And.intro (fun _ => ?_) (fun q => absurd (show co g c 4 < 3 by omega) q))
    exact fin σ (co g c 4) g _ h0 (by omega) (Off_refl _ _) (fun _ _ => rfl) z5 (fun _ _ => rfl) (fun _ _ _ => rfl) (fun j j0 j1 => ⟨z6 j j0 j1, z7 j j0 j1⟩) K
end SEE
