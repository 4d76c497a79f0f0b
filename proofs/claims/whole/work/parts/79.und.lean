/-! undo, image, back, on both -/
def bcF (x : Int) : Nat → Int → Int → Int
  | 0, _, a => a
  | n + 1, k, a => bcF x n (k + 1) (wr (a + i_and (i_shr x k) 1))
section UND
variable {σ s : ST} {P : MP} {g : Int → Int} {n : Int}
theorem P_Z_bits (x : Int) (σ : ST) : PU m_Z_bits [.inl x] σ (bcF x 12 0 0) := by
  have L : ∀ (Q : Option AV → ST → Prop) (n : Nat) (i a : Int), i + n = 12 → 0 ≤ i → (∀ y, y = bcF x n i a → Q (some (.inl y)) σ) → wp m_Z_bits (4, [some (.inl x), some (.inl a), some (.inl i)], [], σ) Q := by
    intro Q n
    induction n with
    | zero =>
      intro i a h h0 hQ
      refine T_Z_bits_4 _ _ _ _ _ ?_
      (repeat' (first | (refine And.intro ?_ ?_) | (intro hzq; simp only [b2_e0, b2_e1, Classical.not_not, ne_eq] at hzq) | (intro hzq) | exact Or.inl rfl | exact Or.inr rfl)) <;> try omega
      exact hQ _ rfl
    | succ n ih =>
      intro i a h h0 hQ
      refine T_Z_bits_4 _ _ _ _ _ ?_
      rw [wr_id (x := i + 1) (by omega)]
      exact And.intro (fun q => absurd q (by omega)) (fun _ => ih (i + 1) _ (by omega) (by omega) hQ)
  exact PU.mk fun Q hQ => T_Z_bits _ _ _ (L Q 12 0 0 (by omega) (by omega) hQ)
theorem P_bitCount {x : Int} (h0 : 0 ≤ x) (h1 : x < 1024) (σ : ST) : PU m_JInteger_bitCount [.inl x] σ (bcF x 12 0 0) := by
  refine PU.mk fun Q hQ => T_JInteger_bitCount _ _ _ (hQ _ ?_)
  obtain ⟨m, rfl⟩ := Int.eq_ofNat_of_zero_le h0
  have hm : m < 1024 := by omega
  clear h0 h1 hQ
  revert hm
  revert m
  decide +kernel
theorem or_in {x y : Int} (hx : 0 ≤ x ∧ x < 1024) (hy : 0 ≤ y ∧ y < 1024) : 0 ≤ i_or x y ∧ i_or x y < 1024 := by
  obtain ⟨a, rfl⟩ := Int.eq_ofNat_of_zero_le hx.1
  obtain ⟨b, rfl⟩ := Int.eq_ofNat_of_zero_le hy.1
  have h : i_or (a : Int) (b : Int) = ((a ||| b : Nat) : Int) := by
    unfold i_or
    rw [Int32.ofInt_eq_ofNat, Int32.ofInt_eq_ofNat]
    have e : Int32.ofNat a ||| Int32.ofNat b = Int32.ofNat (a ||| b) := by
      apply Int32.toBitVec_inj.1
      show BitVec.ofNat 32 a ||| BitVec.ofNat 32 b = BitVec.ofNat 32 (a ||| b)
      apply BitVec.eq_of_getLsbD_eq
      intro i hi
      simp [hi]
    rw [e]
    have hlt : a ||| b < 2 ^ 10 := Nat.or_lt_two_pow (by omega) (by omega)
    exact nI_toInt (by omega)
  rw [h]
  have hlt : a ||| b < 2 ^ 10 := Nat.or_lt_two_pow (by omega) (by omega)
  omega
theorem shl_in : ∀ i : Nat, i < 10 → 0 ≤ i_shl 1 (i : Int) ∧ i_shl 1 (i : Int) < 1024 := by decide +kernel
theorem bf_in {c : Int → Prop} [DecidablePred c] : ∀ (n : Nat) (i a : Int), 0 ≤ i → i + n ≤ 10 → 0 ≤ a ∧ a < 1024 → 0 ≤ bf c n i a ∧ bf c n i a < 1024
  | 0, _, _, _, _, h => h
  | n + 1, i, a, h0, hn, ha => by
    by_cases hc : c i
    · rw [bf_y hc]
      have := shl_in i.toNat (by omega)
      rw [show ((i.toNat : Nat) : Int) = i by omega] at this
      exact bf_in n (i + 1) _ (by omega) (by omega) (or_in ha this)
    · rw [bf_n hc]
      exact bf_in n (i + 1) a (by omega) (by omega) ha
theorem fs_in (hk : MPok P) : 0 ≤ bf (fun p => pg g p 0 = 0) P.np.toNat 0 0 ∧ bf (fun p => pg g p 0 = 0) P.np.toNat 0 0 < 1024 := by
  have p0 := hk.p0
  have p1 := hk.p1
  exact bf_in _ _ _ (by omega) (by omega) (by omega)
/-- the reference's row, anew -/
theorem ZS.anew {g' : Int → Int} (h : ZS σ P g) (np : P.np ≠ 0) (h46 : ∀ x, 0 ≤ x → x < 526 → s 46 0 0 x = g' x) (h43 : ∀ x, s 43 0 0 x = σ 43 0 0 x) (h40 : s 40 0 0 11 = σ 40 0 0 11) : ZS s P g' := by
  unfold ZS
  rw [h43, h43, h43, h43, h40]
  exact ⟨h.ok, h46, h.np, h.nc, h.nh, h.key, h.mac, fun z => absurd z np, fun z => absurd z np⟩
theorem L_Z_undo {u : Int} (hu : 0 ≤ u ∧ u < 40) {F : Int → ST → Prop} : ∀ (n : Nat) (i : Int) (σ : ST), i + n = 526 → 0 ≤ i → σ 40 0 0 18 = u → (∀ s, (∀ (t : Nat) (k i x : Int), t ≠ 46 → s t k i x = σ t k i x) → (∀ x, s 46 0 0 x = if i ≤ x ∧ x < 526 then σ 48 0 0 (526 * u + x) else σ 46 0 0 x) → F u s) → wp m_Z_undo (21, [some zz, some (.inl i)], [], σ) (asI F)
  | 0, i, σ, h, h0, e, K => by
    refine T_Z_undo_21 _ _ _ _ _ ?_
    rw [e]
    refine And.intro (fun _ => K σ (fun _ _ _ _ _ => rfl) (fun x => (if_neg (by omega)).symm)) (fun q => absurd (show (526 : Int) ≤ i by omega) q)
  | n + 1, i, σ, h, h0, e, K => by
    refine T_Z_undo_21 _ _ _ _ _ ?_
    rw [e, wr_id (x := 526 * u) (by omega), wr_id (x := 526 * u + i) (by omega), wr_id (x := i + 1) (by omega)]
    refine And.intro (fun q => absurd q (by omega)) (fun _ => And.intro (by omega) (And.intro (by omega) ?_))
    refine L_Z_undo hu n (i + 1) _ (by omega) (by omega) (by rw [up_o (by decide), e]) (fun s a1 a2 => K s (fun t k i x ht => (a1 t k i x ht).trans (up_o ht)) (fun x => ?_))
    rw [a2 x, up_o (by decide), up_s]
    by_cases z : x = i
    · have c1 : ¬ (i + 1 ≤ x ∧ x < 526) := by omega
      have c2 : i ≤ x ∧ x < 526 := by omega
      rw [if_neg c1, if_pos z, if_pos c2, z]
    · by_cases y : i + 1 ≤ x ∧ x < 526
      · rw [if_pos y, if_pos (show i ≤ x ∧ x < 526 by omega)]
      · rw [if_neg y, if_neg (show ¬ (i ≤ x ∧ x < 526) by omega), if_neg z]
theorem PR_undo : PRf m_X_undo m_Z_undo [] := by
  intro σ n hI hn F K
  obtain ⟨P, g, h⟩ := hI
  have u0 := h.u.u0
  have u1 := h.u.u1
  have p0 := h.u.p0
  have p1 := h.u.p1
  have eq := h.u.eq
  refine T_X_undo _ _ _ _ ?_
  refine And.intro (fun hu => ?_) (fun hu => ?_)
  · have np : P.np ≠ 0 := fun q => by have := h.u.z q; omega
    obtain ⟨gj, c, d, e⟩ := h.u.row (σ 40 0 0 18 - 1) (by omega) (by omega)
    rw [wr_id (x := σ 0 0 0 11 - 1) (by omega)]
    refine PU.I (P_floorMod ⟨by omega, by omega⟩ (by omega) (by omega) σ) ?_
    refine T_X_pastRow _ _ _ _ ?_
    rw [up_s, if_pos rfl]
    refine PU.I (P_floorMod ⟨by omega, by omega⟩ (by omega) (by omega) _) ?_
    refine And.intro (by omega) (And.intro rfl ?_)
    rw [show (σ 0 0 0 11 - 1) % 41 % 41 = (σ 0 0 0 11 - σ 40 0 0 18 + (σ 40 0 0 18 - 1)) % 41 by omega]
    have d2 : RX (up σ 0 0 0 11 ((σ 0 0 0 11 - 1) % 41)) (3 + (σ 0 0 0 11 - σ 40 0 0 18 + (σ 40 0 0 18 - 1)) % 41) P gj := d.keepo (fun t i x a b => up_o (by omega))
    refine C_W_take (k := 0) (by omega) (fun s1 o1 r1 => ?_)
    have f1 : ∀ (t : Nat) (k i x : Int), ¬ (12 ≤ t ∧ t ≤ 29 ∧ k = 0) → ¬ (t = 0 ∧ x = 11) → s1 t k i x = σ t k i x := by
      intro t k i x h1 h2
      rw [o1 t k i x (fun z => h1 ⟨z.2.1, z.2.2, z.1⟩)]
      unfold up
      rw [if_neg (fun z => h2 ⟨z.1, z.2.2.2⟩)]
    have e12 : s1 0 0 0 12 = σ 40 0 0 18 := (f1 0 0 0 12 (by omega) (by omega)).trans eq
    have e11 : s1 0 0 0 11 = (σ 0 0 0 11 - 1) % 41 := by
      rw [o1 0 0 0 11 (fun z => by omega), up_s, if_pos rfl]
    rw [e12, wr_id (x := σ 40 0 0 18 - 1) (by omega), up_s, if_pos rfl]
    have x2 := (r1 P gj d2).keepo (σ' := up s1 0 0 0 12 (σ 40 0 0 18 - 1)) (fun t i x a b => up_o (by omega))
    have f2 : ∀ (t : Nat) (k i x : Int), ¬ (12 ≤ t ∧ t ≤ 29 ∧ k = 0) → ¬ (t = 0 ∧ (x = 11 ∨ x = 12)) → up s1 0 0 0 12 (σ 40 0 0 18 - 1) t k i x = σ t k i x := by
      intro t k i x h1 h2
      rw [← f1 t k i x h1 (by omega)]
      unfold up
      rw [if_neg (fun z => h2 ⟨z.1, Or.inr z.2.2.2⟩)]
    show wpM m_Z_undo _ _ _
    refine T_Z_undo _ _ _ _ ?_
    rw [f2 40 0 0 18 (by omega) (by omega), wr_id (x := σ 40 0 0 18 - 1) (by omega)]
    refine And.intro (fun _ => ?_) (fun q => absurd (show σ 40 0 0 18 ≠ 0 by omega) q)
    refine L_Z_undo (u := σ 40 0 0 18 - 1) (by omega) 526 0 _ (by omega) (by omega) (by rw [up_s, if_pos rfl]) (fun s2 a1 a2 => ?_)
    have f3 : ∀ (t : Nat) (k i x : Int), ¬ (12 ≤ t ∧ t ≤ 29 ∧ k = 0) → ¬ (t = 0 ∧ (x = 11 ∨ x = 12)) → t ≠ 46 → ¬ (t = 40 ∧ x = 18) → s2 t k i x = σ t k i x := by
      intro t k i x h1 h2 h3 h4
      rw [a1 t k i x h3, ← f2 t k i x h1 h2]
      unfold up
      rw [if_neg (fun z => h4 ⟨z.1, z.2.2.2⟩)]
    have a18 : s2 40 0 0 18 = σ 40 0 0 18 - 1 := by rw [a1 _ _ _ _ (by decide), up_s, if_pos rfl]
    have a12 : s2 0 0 0 12 = σ 40 0 0 18 - 1 := by rw [a1 _ _ _ _ (by decide), up_o (by decide), up_s, if_pos rfl]
    have a11 : s2 0 0 0 11 = (σ 0 0 0 11 - 1) % 41 := by rw [a1 _ _ _ _ (by decide), up_o (by decide), up_s, if_neg (by decide), e11]
    refine K _ _ ⟨P, gj, h.z.anew np (fun x x0 x1 => ?_) (fun x => f3 _ _ _ _ (by omega) (by omega) (by omega) (by omega)) (f3 _ _ _ _ (by omega) (by omega) (by omega) (by omega)), x2.keepo (fun t i x a b => ?_), e.mono (by omega) (by omega), h.m.keep (f3 _ _ _ _ (by omega) (by omega) (by omega) (by omega)) (fun x => f3 _ _ _ _ (by omega) (by omega) (by omega) (by omega)) (fun x => f3 _ _ _ _ (by omega) (by omega) (by omega) (by omega)), fun i i0 i1 => ?_, h.t.keep (f3 _ _ _ _ (by omega) (by omega) (by omega) (by omega)) (f3 _ _ _ _ (by omega) (by omega) (by omega) (by omega)) (fun x => f3 _ _ _ _ (by omega) (by omega) (by omega) (by omega)) (fun x => f3 _ _ _ _ (by omega) (by omega) (by omega) (by omega)), h.s.keep (f3 _ _ _ _ (by omega) (by omega) (by omega) (by omega)) (f3 _ _ _ _ (by omega) (by omega) (by omega) (by omega)) (fun m a b => f3 _ _ _ _ (by omega) (by omega) (by omega) (by omega)) (fun m x a b => f3 _ _ _ _ (by omega) (by omega) (by omega) (by omega)) (fun x a => f3 _ _ _ _ (by omega) (by omega) (by omega) (by omega)) (fun x a => f3 _ _ _ _ (by omega) (by omega) (by omega) (by omega)), ?_, h.i.keep (by omega) hn (f3 _ _ _ _ (by omega) (by omega) (by omega) (by omega)) (f3 _ _ _ _ (by omega) (by omega) (by omega) (by omega)) (fun x => f3 _ _ _ _ (by omega) (by omega) (by omega) (by omega)) (fun t i x a b => f3 _ _ _ _ (by omega) (by omega) (by omega) (by omega))⟩
    · rw [a2 x, if_pos ⟨x0, x1⟩, up_o (by decide), f2 48 0 0 _ (by omega) (by omega)]
      exact c x x0 x1
    · rw [a1 t 0 i x (by omega), up_o (by omega)]
    · rw [f3 10 0 0 i (by omega) (by omega) (by omega) (by omega), f3 47 0 0 i (by omega) (by omega) (by omega) (by omega)]
      exact h.r.eq i i0 i1
    · unfold UNi
      rw [a11, a12, a18]
      refine ⟨by omega, by omega, rfl, by omega, by omega, fun q => absurd q np, fun j a b => ?_⟩
      obtain ⟨gk, c', d', e'⟩ := h.u.row j (by omega) (by omega)
      refine ⟨gk, fun x x0 x1 => ?_, ?_, e'.mono (by omega) (by omega)⟩
      · rw [f3 48 0 0 _ (by omega) (by omega) (by omega) (by omega)]
        exact c' x x0 x1
      · rw [show 3 + ((σ 0 0 0 11 - 1) % 41 - (σ 40 0 0 18 - 1) + j) % 41 = 3 + (σ 0 0 0 11 - σ 40 0 0 18 + j) % 41 by omega]
        exact d'.keepo (fun t i x a b => f3 _ _ _ _ (by omega) (by omega) (by omega) (by omega))
  · show wpM m_Z_undo _ _ _
    refine T_Z_undo _ _ _ _ ?_
    exact And.intro (fun q => absurd (show σ 40 0 0 18 = 0 by omega) q) (fun _ => K _ _ ⟨P, g, h.mono (by omega) hn⟩)
end UND
