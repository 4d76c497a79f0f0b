/-! the reference reads its tape -/
def ZB (s : ST) (h : Int → Int) (L i : Int) : Prop := (HH h L) ∧ (s 40 0 0 2 = L) ∧ (∀ x, 0 ≤ x → x < L → s 41 0 0 x = h x) ∧ (s 40 0 0 3 = i) ∧ (0 ≤ i) ∧ (i ≤ L)
theorem ZB.H {s : ST} {h : Int → Int} {L i : Int} (hZ : ZB s h L i) : HH h L := hZ.1
theorem ZB.len {s : ST} {h : Int → Int} {L i : Int} (hZ : ZB s h L i) : s 40 0 0 2 = L := hZ.2.1
theorem ZB.byt {s : ST} {h : Int → Int} {L i : Int} (hZ : ZB s h L i) : ∀ x, 0 ≤ x → x < L → s 41 0 0 x = h x := hZ.2.2.1
theorem ZB.pos {s : ST} {h : Int → Int} {L i : Int} (hZ : ZB s h L i) : s 40 0 0 3 = i := hZ.2.2.2.1
theorem ZB.i0 {s : ST} {h : Int → Int} {L i : Int} (hZ : ZB s h L i) : 0 ≤ i := hZ.2.2.2.2.1
theorem ZB.i1 {s : ST} {h : Int → Int} {L i : Int} (hZ : ZB s h L i) : i ≤ L := hZ.2.2.2.2.2
abbrev Fn (σ s : ST) : Prop := ∀ (t : Nat) (k i x : Int), ¬ (t = 40 ∧ (x = 3 ∨ x = 5 ∨ x = 6 ∨ x = 7 ∨ x = 8)) → s t k i x = σ t k i x
def pt (c : Int) : Int := if c = -1 then 0 else if isLt c then 1 else if isDg c then 2 else if c = 59 then 3 else if c = 44 then 4 else 5
def en (h : Int → Int) (j : Int) : Int := if h j = -1 then j else if isLt (h j) then sk isLt h j else if isDg (h j) then sk isDg h j else j + 1
theorem pt_0 (c : Int) : pt c = 0 ↔ c = -1 := by
  unfold pt
  (repeat' split) <;> omega
theorem pt_1 (c : Int) : pt c = 1 ↔ isLt c := by
  unfold pt
  (repeat' split) <;> omega
theorem pt_2 (c : Int) : pt c = 2 ↔ isDg c := by
  unfold pt
  (repeat' split) <;> omega
theorem pt_3 (c : Int) : pt c = 3 ↔ c = 59 := by
  unfold pt
  (repeat' split) <;> omega
theorem pt_4 (c : Int) : pt c = 4 ↔ c = 44 := by
  unfold pt
  (repeat' split) <;> omega
theorem en_1 {h : Int → Int} {j : Int} (e : isLt (h j)) : en h j = sk isLt h j := by
  unfold en
  rw [if_neg (by omega), if_pos e]
theorem en_2 {h : Int → Int} {j : Int} (e : isDg (h j)) : en h j = sk isDg h j := by
  unfold en
  rw [if_neg (by omega), if_neg (by omega), if_pos e]
theorem en_3 {h : Int → Int} {j : Int} (e : h j ≠ -1) (e2 : ¬ isLt (h j)) (e3 : ¬ isDg (h j)) : en h j = j + 1 := by
  unfold en
  rw [if_neg e, if_neg e2, if_neg e3]
theorem en_0 {h : Int → Int} {j : Int} (e : h j = -1) : en h j = j := by
  unfold en
  rw [if_pos e]
def PT (s : ST) (h : Int → Int) (L j : Int) : Prop := (ZB s h L (en h j)) ∧ (s 40 0 0 5 = pt (h j)) ∧ (s 40 0 0 6 = j) ∧ (isLt (h j) → s 40 0 0 8 = pwv h j (sk isLt h j - j).toNat) ∧ (isDg (h j) → R9 (s 40 0 0 7) (nm h j)) ∧ (0 ≤ j) ∧ (j ≤ L)
theorem PT.B {s : ST} {h : Int → Int} {L j : Int} (hZ : PT s h L j) : ZB s h L (en h j) := hZ.1
theorem PT.prt {s : ST} {h : Int → Int} {L j : Int} (hZ : PT s h L j) : s 40 0 0 5 = pt (h j) := hZ.2.1
theorem PT.frm {s : ST} {h : Int → Int} {L j : Int} (hZ : PT s h L j) : s 40 0 0 6 = j := hZ.2.2.1
theorem PT.wrd {s : ST} {h : Int → Int} {L j : Int} (hZ : PT s h L j) : isLt (h j) → s 40 0 0 8 = pwv h j (sk isLt h j - j).toNat := hZ.2.2.2.1
theorem PT.num {s : ST} {h : Int → Int} {L j : Int} (hZ : PT s h L j) : isDg (h j) → R9 (s 40 0 0 7) (nm h j) := hZ.2.2.2.2.1
theorem PT.j0 {s : ST} {h : Int → Int} {L j : Int} (hZ : PT s h L j) : 0 ≤ j := hZ.2.2.2.2.2.1
theorem PT.j1 {s : ST} {h : Int → Int} {L j : Int} (hZ : PT s h L j) : j ≤ L := hZ.2.2.2.2.2.2
section ZTP
variable {σ s : ST} {h : Int → Int} {L i j a : Int}
theorem Fn_re (s : ST) : Fn s s := fun _ _ _ _ _ => rfl
theorem Fn_up {x v : Int} (hx : x = 3 ∨ x = 5 ∨ x = 6 ∨ x = 7 ∨ x = 8) (f : Fn σ s) : Fn σ (up s 40 0 0 x v) := fun t k i y hn => by
  unfold up
  rw [if_neg (by omega)]
  exact f t k i y hn
theorem ZB.mv {σ s : ST} {h : Int → Int} {L i j : Int} (B : ZB σ h L i) (f : Fn σ s) (e : s 40 0 0 3 = j) (j0 : 0 ≤ j) (j1 : j ≤ L) : ZB s h L j := ⟨B.H, (f _ _ _ _ (by omega)).trans B.len, fun x a b => (f _ _ _ _ (by omega)).trans (B.byt x a b), e, j0, j1⟩
theorem P_here (B : ZB s h L i) : PU m_Z_here [zz] s (h i) := by
  have l1 := B.H.l1
  have i0 := B.i0
  refine PU.mk fun Q hQ => T_Z_here _ _ _ _ ?_
  rw [B.len, B.pos]
  exact And.intro (fun q => hQ _ (B.H.out i q).symm) (fun q => And.intro ⟨i0, by omega⟩ (hQ _ (B.byt i i0 (by omega))))
theorem P_isLt (c : Int) : PU m_Z_isLetter [.inl c] s (b2 (isLt c)) := by
  refine PU.mk fun Q hQ => T_Z_isLetter _ _ _ ?_
  (repeat' (first | (refine And.intro ?_ ?_) | (intro hzq; simp only [b2_e0, b2_e1, Classical.not_not, ne_eq] at hzq) | (intro hzq) | exact Or.inl rfl | exact Or.inr rfl)) <;> try omega
  all_goals (first | exact hQ _ (b2_l (by omega)) | exact hQ _ (b2_h (by omega)))
theorem P_isDg (c : Int) : PU m_Z_isDigit [.inl c] s (b2 (isDg c)) := by
  refine PU.mk fun Q hQ => T_Z_isDigit _ _ _ ?_
  (repeat' (first | (refine And.intro ?_ ?_) | (intro hzq; simp only [b2_e0, b2_e1, Classical.not_not, ne_eq] at hzq) | (intro hzq) | exact Or.inl rfl | exact Or.inr rfl)) <;> try omega
  all_goals (first | exact hQ _ (b2_l (by omega)) | exact hQ _ (b2_h (by omega)))
theorem L_nxw (j0 : 0 ≤ j) {Q : Option AV → ST → Prop} : ∀ (d n : Nat) (i : Int) (s : ST) (o1 : Option AV), i + d = L → i = j + n → ZB s h L i → Fn σ s → (∀ x : Nat, x < n → isLt (h (j + x))) → s 40 0 0 8 = pwv h j n → s 40 0 0 5 = 1 → s 40 0 0 6 = j → (∀ s', Fn σ s' → ZB s' h L (sk isLt h i) → s' 40 0 0 8 = pwv h j (sk isLt h i - j).toNat → s' 40 0 0 5 = 1 → s' 40 0 0 6 = j → Q none s') → wp m_Z_next (67, [some zz, o1, some (.inl (n : Int))], [], s) Q
  | d, n, i, s, o1, hd, hi, B, f, hl, e8, e5, e6, K => by
    have l1 := B.H.l1
    have i0 := B.i0
    refine T_Z_next_67 _ _ _ _ _ _ ?_
    refine PU.I (P_here B) ?_
    refine PU.I (P_isLt _) ?_
    refine And.intro (fun z => ?_) (fun z => ?_)
    · rw [b2_e0] at z
      rw [sk_n z] at K
      exact K s f B (by rw [e8]; exact congrArg (pwv h j) (by omega)) e5 e6
    · rw [b2_e0] at z
      have z2 := Classical.not_not.1 z
      have lt := hh_lt B.H (i := i) (by omega)
      rw [sk_y B.H lt_m1 i0 z2] at K
      match d, hd with
      | 0, hd => exact absurd hd (by omega)
      | d + 1, hd =>
        have go : ∀ v, v = pwv h j (n + 1) → wp m_Z_next (106, [some zz, o1, some (.inl (n : Int))], [.inr (.inl v), .inr (.inr (40, 0, 0))], s) Q := by
          intro v hv
          refine T_Z_next_106 _ _ _ _ _ _ _ _ _ ?_
          rw [show up s 40 0 0 8 v 40 0 0 3 = i by rw [up_s, if_neg (by decide)]; exact B.pos, wr_id (x := i + 1) (by omega), wr_id (x := (n : Int) + 1) (by omega)]
          refine L_nxw j0 d (n + 1) (i + 1) _ _ (by omega) (by omega) (B.mv (Fn_up (by omega) (Fn_up (by omega) (Fn_re s))) (by rw [up_s, if_pos rfl]) (by omega) (by omega)) (Fn_up (by omega) (Fn_up (by omega) f)) (fun x hx => ?_) ?_ ?_ ?_ K
          · by_cases q : x = n
            · rw [q, ← hi]; exact z2
            · exact hl x (by omega)
          · rw [up_s, if_neg (by decide), up_s, if_pos rfl]; exact hv
          · rw [up_s, if_neg (by decide), up_s, if_neg (by decide)]; exact e5
          · rw [up_s, if_neg (by decide), up_s, if_neg (by decide)]; exact e6
        refine And.intro (fun q => go _ ?_) (fun q => ?_)
        · unfold pwv
          rw [if_neg (by omega)]
        · refine PU.I (P_here B) (go _ ?_)
          have r := pw_in (h := h) (a := j) n hl
          have mb := mB_le (n := n) (by omega)
          unfold pwv at e8 ⊢
          rw [if_pos (by omega)] at e8
          rw [if_pos (by omega), e8, wl_id (x := 32 * pw h j n) (by omega), wl_id (x := 32 * pw h j n + h i) (by omega), wl_id (x := 32 * pw h j n + h i - 96) (by omega), hi]
          rfl
theorem L_nxn (j0 : 0 ≤ j) {Q : Option AV → ST → Prop} : ∀ (d : Nat) (i a : Int) (s : ST) (o1 o2 : Option AV), i + d = L → ZB s h L i → Fn σ s → 0 ≤ s 40 0 0 7 ∧ s 40 0 0 7 ≤ 100000 → R9 (s 40 0 0 7) a → s 40 0 0 5 = 2 → s 40 0 0 6 = j → (∀ s', Fn σ s' → ZB s' h L (sk isDg h i) → R9 (s' 40 0 0 7) (nmA h i a) → s' 40 0 0 5 = 2 → s' 40 0 0 6 = j → Q none s') → wp m_Z_next (145, [some zz, o1, o2], [], s) Q
  | d, i, a, s, o1, o2, hd, B, f, h7, hr, e5, e6, K => by
    have l1 := B.H.l1
    have i0 := B.i0
    refine T_Z_next_145 _ _ _ _ _ _ ?_
    refine PU.I (P_here B) ?_
    refine PU.I (P_isDg _) ?_
    refine And.intro (fun z => ?_) (fun z => ?_)
    · rw [b2_e0] at z
      rw [sk_n z, nm_n a z] at K
      exact K s f B hr e5 e6
    · rw [b2_e0] at z
      have z2 := Classical.not_not.1 z
      have lt := hh_lt B.H (i := i) (by omega)
      rw [sk_y B.H dg_m1 i0 z2, nm_y B.H i0 a z2] at K
      match d, hd with
      | 0, hd => exact absurd hd (by omega)
      | d + 1, hd =>
        refine PU.I (P_here B) ?_
        rw [wr_id (x := 10 * s 40 0 0 7) (by omega), wr_id (x := 10 * s 40 0 0 7 + h i) (by omega), wr_id (x := 10 * s 40 0 0 7 + h i - 48) (by omega)]
        have go : ∀ v, 0 ≤ v ∧ v ≤ 100000 → R9 v (cp9 (10 * a + h i - 48)) → wp m_Z_next (145, [some zz, o1, o2], [], (up (up s 40 0 0 7 v) 40 0 0 3 (wr (((up s 40 0 0 7 v) 40 0 0 3) + 1)))) Q := by
          intro v hv hw
          rw [show up s 40 0 0 7 v 40 0 0 3 = i by rw [up_s, if_neg (by decide)]; exact B.pos, wr_id (x := i + 1) (by omega)]
          have e7 : up (up s 40 0 0 7 v) 40 0 0 3 (i + 1) 40 0 0 7 = v := by rw [up_s, if_neg (by decide), up_s, if_pos rfl]
          refine L_nxn j0 d (i + 1) _ _ _ _ (by omega) (B.mv (Fn_up (by omega) (Fn_up (by omega) (Fn_re s))) (by rw [up_s, if_pos rfl]) (by omega) (by omega)) (Fn_up (by omega) (Fn_up (by omega) f)) (by rw [e7]; exact hv) (by rw [e7]; exact hw) ?_ ?_ K
          · rw [up_s, if_neg (by decide), up_s, if_neg (by decide)]; exact e5
          · rw [up_s, if_neg (by decide), up_s, if_neg (by decide)]; exact e6
        unfold R9 at hr
        refine T_JMath_min _ _ _ _ ?_
        refine And.intro (fun q => go _ (by omega) ?_) (fun q => go _ (by omega) ?_)
        · unfold R9 cp9
          split <;> omega
        · unfold R9 cp9
          split <;> omega
theorem L_nx {Q : Option AV → ST → Prop} : ∀ (d : Nat) (i : Int) (s : ST) (o1 o2 : Option AV), i + d = L → ZB s h L i → Fn σ s → (∀ s', Fn σ s' → PT s' h L (sk isBl h i) → Q none s') → wp m_Z_next (0, [some zz, o1, o2], [], s) Q
  | d, i, s, o1, o2, hd, B, f, K => by
    have l1 := B.H.l1
    have i0 := B.i0
    have i1 := B.i1
    refine T_Z_next_0 _ _ _ _ _ _ ?_
    refine PU.I (P_here B) ?_
    rw [B.pos]
    refine And.intro (fun q => ?_) (fun q => ?_)
    · rw [sk_n (p := isBl) q] at K
      have f6 : Fn σ (up s 40 0 0 6 i) := Fn_up (by omega) f
      have B6 : ZB (up s 40 0 0 6 i) h L i := B.mv (Fn_up (by omega) (Fn_re s)) (by rw [up_s, if_neg (by decide)]; exact B.pos) i0 i1
      have e6 : up s 40 0 0 6 i 40 0 0 6 = i := by rw [up_s, if_pos rfl]
      refine PU.I (P_here B6) ?_
      refine And.intro (fun q1 => ?_) (fun q1 => ?_)
      · have lt := hh_lt B.H q1
        refine PU.I (P_isLt _) ?_
        refine And.intro (fun z => ?_) (fun z => ?_)
        · rw [b2_e0] at z
          refine PU.I (P_isDg _) ?_
          rw [B6.pos, wr_id (x := i + 1) (by omega)]
          refine And.intro (fun z2 => ?_) (fun z2 => ?_)
          · rw [b2_e0] at z2
            have fin : ∀ v, v = pt (h i) → Q none (up (up (up s 40 0 0 6 i) 40 0 0 3 (i + 1)) 40 0 0 5 v) := by
              intro v hv
              refine K _ (Fn_up (by omega) (Fn_up (by omega) f6)) ⟨?_, ?_, ?_, fun w => absurd w z, fun w => absurd w z2, i0, i1⟩
              · rw [en_3 q1 z z2]
                exact B.mv (Fn_up (by omega) (Fn_up (by omega) (Fn_up (by omega) (Fn_re s)))) (by rw [up_s, if_neg (by decide), up_s, if_pos rfl]) (by omega) (by omega)
              · rw [up_s, if_pos rfl]; exact hv
              · rw [up_s, if_neg (by decide), up_s, if_neg (by decide)]; exact e6
            refine And.intro (fun w => And.intro (fun w2 => fin _ ?_) (fun w2 => fin _ ?_)) (fun w => fin _ ?_)
            · unfold pt
              rw [if_neg q1, if_neg z, if_neg z2, if_neg w, if_neg w2]
            · unfold pt
              rw [if_neg q1, if_neg z, if_neg z2, if_neg w, if_pos (Classical.not_not.1 w2)]
            · unfold pt
              rw [if_neg q1, if_neg z, if_neg z2, if_pos (Classical.not_not.1 w)]
          · rw [b2_e0] at z2
            have z3 := Classical.not_not.1 z2
            have e7 : up (up (up s 40 0 0 6 i) 40 0 0 5 2) 40 0 0 7 0 40 0 0 7 = 0 := by rw [up_s, if_pos rfl]
            refine L_nxn (σ := σ) i0 (L - i).toNat i 0 _ _ _ (by omega) (B6.mv (Fn_up (by omega) (Fn_up (by omega) (Fn_re _))) (by rw [up_s, if_neg (by decide), up_s, if_neg (by decide)]; exact B6.pos) i0 i1) (Fn_up (by omega) (Fn_up (by omega) f6)) (by rw [e7]; omega) (by rw [e7]; exact Or.inl ⟨by omega, rfl⟩) (by rw [up_s, if_neg (by decide), up_s, if_pos rfl]) (by rw [up_s, if_neg (by decide), up_s, if_neg (by decide)]; exact e6) (fun s' f' B' r' a5 a6 => K s' f' ⟨?_, ?_, a6, fun w => absurd w z, fun _ => ?_, i0, i1⟩)
            · rw [en_2 z3]; exact B'
            · rw [a5]; exact ((pt_2 _).2 z3).symm
            · unfold nm
              rw [if_pos z3]; exact r'
        · rw [b2_e0] at z
          have z1 := Classical.not_not.1 z
          have e8 : up (up (up s 40 0 0 6 i) 40 0 0 5 1) 40 0 0 8 0 40 0 0 8 = 0 := by rw [up_s, if_pos rfl]
          refine L_nxw (σ := σ) i0 (L - i).toNat 0 i _ _ (by omega) (by omega) (B6.mv (Fn_up (by omega) (Fn_up (by omega) (Fn_re _))) (by rw [up_s, if_neg (by decide), up_s, if_neg (by decide)]; exact B6.pos) i0 i1) (Fn_up (by omega) (Fn_up (by omega) f6)) (fun x hx => absurd hx (by omega)) (by rw [e8]; rfl) (by rw [up_s, if_neg (by decide), up_s, if_pos rfl]) (by rw [up_s, if_neg (by decide), up_s, if_neg (by decide)]; exact e6) (fun s' f' B' a8 a5 a6 => K s' f' ⟨?_, ?_, a6, fun _ => a8, fun w => absurd w (by omega), i0, i1⟩)
          · rw [en_1 z1]; exact B'
          · rw [a5]; exact ((pt_1 _).2 z1).symm
      · have q2 := Classical.not_not.1 q1
        refine K _ (Fn_up (by omega) f6) ⟨?_, ?_, ?_, fun w => absurd w (by omega), fun w => absurd w (by omega), i0, i1⟩
        · rw [en_0 q2]
          exact B6.mv (Fn_up (by omega) (Fn_re _)) (by rw [up_s, if_neg (by decide)]; exact B6.pos) i0 i1
        · rw [up_s, if_pos rfl]; exact ((pt_0 _).2 q2).symm
        · rw [up_s, if_neg (by decide)]; exact e6
    · have z2 : h i = 32 := Classical.not_not.1 q
      have lt := hh_lt B.H (i := i) (by omega)
      rw [sk_y B.H bl_m1 i0 z2] at K
      rw [wr_id (x := i + 1) (by omega)]
      match d, hd with
      | 0, hd => exact absurd hd (by omega)
      | d + 1, hd => exact L_nx d (i + 1) _ _ _ (by omega) (B.mv (Fn_up (by omega) (Fn_re s)) (by rw [up_s, if_pos rfl]) (by omega) (by omega)) (Fn_up (by omega) f) K
theorem C_next (B : ZB s h L i) {F : ST → Prop} (K : ∀ s', Fn s s' → PT s' h L (sk isBl h i) → F s') : wpM m_Z_next [zz] s (asV F) := by
  have i1 := B.i1
  exact L_nx (σ := s) (L - i).toNat i s none none (by omega) B (Fn_re s) (fun s' a b => K s' a b)
/-! words of the reference -/
theorem L_sp {k : Int} (k0 : 0 ≤ k) (k1 : k < 20) {Q : Option AV → ST → Prop} (K : Q (some (.inr (.inl (sw k (wL k).toNat)))) s) : ∀ (d n : Nat) (o2 : Option AV), (n : Int) + d = wL k → wp m_Z_spelled (4, [some (.inr (.inr (70, k, 0))), some (.inr (.inl (sw k n))), o2, some (.inl (n : Int))], [], s) Q
  | d, n, o2, hd => by
    have wl := wL_in k0 k1
    refine T_Z_spelled_4 _ _ _ _ _ _ _ ?_
    rw [show ((strs.getD (Int.toNat k) []).length : Int) = wL k from rfl, show (strs.getD (Int.toNat k) []).getD (Int.toNat (n : Int)) 0 = wC k n from rfl, show (strs.length : Int) = 26 from rfl, wr_id (x := (n : Int) + 1) (by omega)]
    refine And.intro ⟨k0, by omega⟩ ?_
    match d, hd with
    | 0, hd =>
      rw [show (wL k).toNat = n by omega] at K
      exact And.intro (fun _ => K) (fun q => absurd (show wL k ≤ n by omega) q)
    | d + 1, hd =>
      have r := sw_in k0 k1 n (by omega)
      have mb := mB_le (n := n) (by omega)
      have c := wC_in k0 k1 (x := n) (by omega) (by omega)
      refine And.intro (fun q => absurd q (by omega)) (fun _ => And.intro ⟨⟨k0, by omega⟩, by omega, by omega⟩ ?_)
      rw [wl_id (x := 32 * sw k n) (by omega), wl_id (x := 32 * sw k n + wC k n) (by omega), wl_id (x := 32 * sw k n + wC k n - 96) (by omega)]
      exact L_sp k0 k1 K d (n + 1) none (by omega)
theorem C_sp {k : Int} (k0 : 0 ≤ k) (k1 : k < 20) {F : Int → ST → Prop} (K : F (sw k (wL k).toNat) s) : wpM m_Z_spelled [.inr (.inr (70, k, 0))] s (asL F) := by
  have wl := wL_in k0 k1
  refine T_Z_spelled _ _ _ _ ?_
  exact L_sp k0 k1 (Q := asL F) K (wL k).toNat 0 none (by omega)
theorem C_mWord {x : Int} (x0 : 0 ≤ x) (x1 : x < 4) {F : Int → Int → ST → Prop} (K : ∀ v, v = 0 + x → F v 0 s) : wpM m_Z_machineWord [.inl x] s (asR 70 F) := by
  refine T_Z_machineWord _ _ _ ?_
  (repeat' (first | (refine And.intro ?_ ?_) | (intro hzq; simp only [b2_e0, b2_e1, Classical.not_not, ne_eq] at hzq) | (intro hzq) | exact Or.inl rfl | exact Or.inr rfl)) <;> try omega
  all_goals exact K _ (by omega)
theorem C_zWord {x : Int} (x0 : 0 ≤ x) (x1 : x < 16) {F : Int → Int → ST → Prop} (K : ∀ v, v = 4 + x → F v 0 s) : wpM m_Z_stepWord [.inl x] s (asR 70 F) := by
  refine T_Z_stepWord _ _ _ ?_
  (repeat' (first | (refine And.intro ?_ ?_) | (intro hzq; simp only [b2_e0, b2_e1, Classical.not_not, ne_eq] at hzq) | (intro hzq) | exact Or.inl rfl | exact Or.inr rfl)) <;> try omega
  all_goals exact K _ (by omega)
theorem lc_0 (x y : Int) : l_cmp x y = 0 ↔ x = y := by
  unfold l_cmp
  (repeat' split) <;> omega
theorem L_wh (p : PT s h L j) {b lo n : Int} (hb : (b = 0 ∧ lo = 0 ∧ n = 4) ∨ (b = 1 ∧ lo = 4 ∧ n = 16)) {Q : Option AV → ST → Prop} : ∀ (d : Nat) (x : Int), x + d = n → 0 ≤ x → Q (some (.inl (ff (fun y => isW h j (sk isLt h j) (lo + y)) d x))) s → wp m_Z_wordHere (13, [some zz, some (.inl b), some (.inl n), some (.inl x)], [], s) Q
  | d, x, hd, x0, K => by
    refine T_Z_wordHere_13 _ _ _ _ _ _ _ ?_
    match d, hd, K with
    | 0, hd, K => exact And.intro (fun _ => K) (fun q => absurd (show n ≤ x by omega) q)
    | d + 1, hd, K =>
      have wl := wL_in (k := lo + x) (by omega) (by omega)
      rw [p.prt, wr_id (x := x + 1) (by omega)]
      refine And.intro (fun q => absurd q (by omega)) (fun _ => And.intro (fun q => ?_) (fun q => ?_))
      · have nl : ¬ isLt (h j) := fun z => q ((pt_1 _).2 z)
        rw [ff_no (c := fun y => isW h j (sk isLt h j) (lo + y)) (by rw [sk_n nl]; exact fun z => absurd z.1 (by omega))] at K
        exact L_wh p hb d (x + 1) (by omega) (by omega) K
      · have yl : isLt (h j) := (pt_1 _).1 (Classical.not_not.1 q)
        have go : wp m_Z_wordHere (45, [some zz, some (.inl b), some (.inl n), some (.inl x)], [.inr (.inr (70, lo + x, 0)), .inr (.inl (s 40 0 0 8))], s) Q := by
          refine T_Z_wordHere_45 _ _ _ _ _ _ _ _ _ _ ?_
          refine C_sp (by omega) (by omega) ?_
          rw [p.wrd yl, wr_id (x := x + 1) (by omega)]
          have iw := wd_pw p.B.H p.j0 p.j1 (k := lo + x) (by omega) (by omega)
          refine And.intro (fun z => ?_) (fun z => ?_)
          · rw [ff_no (c := fun y => isW h j (sk isLt h j) (lo + y)) (fun w => z ((lc_0 _ _).2 (iw.2 w)))] at K
            exact L_wh p hb d (x + 1) (by omega) (by omega) K
          · rw [ff_yes (c := fun y => isW h j (sk isLt h j) (lo + y)) (iw.1 ((lc_0 _ _).1 (Classical.not_not.1 z)))] at K
            exact K
        rcases hb with ⟨b0, l0, n4⟩ | ⟨b0, l0, n4⟩
        · subst l0
          exact And.intro (fun _ => C_mWord x0 (by omega) (fun v hv => by rw [hv]; exact go)) (fun w => absurd b0 w)
        · subst l0
          exact And.intro (fun w => absurd w (by omega)) (fun _ => C_zWord x0 (by omega) (fun v hv => by rw [hv]; exact go))
theorem P_wh0 (p : PT s h L j) : PU m_Z_wordHere [zz, .inl 0] s (wd h 0 4 j (sk isLt h j)) := by
  refine PU.mk fun Q hQ => T_Z_wordHere _ _ _ _ _ ?_
  exact And.intro (fun _ => L_wh p (Or.inl ⟨rfl, rfl, rfl⟩) 4 0 (by omega) (by omega) (hQ _ rfl)) (fun q => absurd rfl q)
theorem P_wh1 (p : PT s h L j) : PU m_Z_wordHere [zz, .inl 1] s (wd h 4 16 j (sk isLt h j)) := by
  refine PU.mk fun Q hQ => T_Z_wordHere _ _ _ _ _ ?_
  exact And.intro (fun q => absurd q (by decide)) (fun _ => L_wh p (Or.inr ⟨rfl, rfl, rfl⟩) 16 0 (by omega) (by omega) (hQ _ rfl))
theorem C_bad (e : s 40 0 0 4 = -1) (e6 : s 40 0 0 6 = j) {F : ST → Prop} (K : F (up s 40 0 0 4 j)) : wpM m_Z_bad [zz] s (asV F) := by
  refine T_Z_bad _ _ _ _ ?_
  rw [e6]
  exact And.intro (fun q => absurd e q) (fun _ => K)
theorem C_number (B : ZB s h L i) (e : s 40 0 0 4 = -1) {lo hi : Int} (hl : 0 ≤ lo) (hh : hi ≤ 999) (lh : lo ≤ hi) {F : Int → ST → Prop} (K0 : ∀ s', Fn (up s 40 0 0 4 (sk isBl h i)) s' → nm h (sk isBl h i) < lo ∨ hi < nm h (sk isBl h i) → F lo s') (K1 : ∀ s', Fn s s' → ¬ (nm h (sk isBl h i) < lo ∨ hi < nm h (sk isBl h i)) → PT s' h L (sk isBl h (sk isDg h (sk isBl h i))) → F (nm h (sk isBl h i)) s') : wpM m_Z_number [zz, .inl lo, .inl hi] s (asI F) := by
  refine T_Z_number _ _ _ _ _ _ ?_
  refine C_next B (fun s1 f1 p1 => ?_)
  have e1 : s1 40 0 0 4 = -1 := (f1 _ _ _ _ (by omega)).trans e
  have ni := nm_in h (sk isBl h i)
  have bad : Fn (up s 40 0 0 4 (sk isBl h i)) (up s1 40 0 0 4 (sk isBl h i)) := fun t k x y hn => by
    unfold up
    by_cases q : t = 40 ∧ k = 0 ∧ x = 0 ∧ y = 4
    · rw [if_pos q, if_pos q]
    · rw [if_neg q, if_neg q]; exact f1 t k x y hn
  rw [p1.prt]
  refine And.intro (fun q => ?_) (fun q => ?_)
  · refine C_bad e1 p1.frm (K0 _ bad (Or.inl ?_))
    rw [ni.2 (fun z => q ((pt_2 _).2 z))]
    omega
  · have dg : isDg (h (sk isBl h i)) := (pt_2 _).1 (Classical.not_not.1 q)
    have r9 := p1.num dg
    have b9 := ni.1 dg
    unfold R9 at r9
    have B1 := p1.B
    rw [en_2 dg] at B1
    refine PU.I (P_Z_in _ _ _ s1) ?_
    refine And.intro (fun z => ?_) (fun z => ?_)
    · have z2 : lo ≤ s1 40 0 0 7 ∧ s1 40 0 0 7 ≤ hi := by
        by_cases w : lo ≤ s1 40 0 0 7 ∧ s1 40 0 0 7 ≤ hi
        · exact w
        · exact absurd (b2_l w).symm z
      have e7 : s1 40 0 0 7 = nm h (sk isBl h i) := by omega
      refine C_next B1 (fun s2 f2 p2 => ?_)
      rw [e7] at z2 ⊢
      exact K1 s2 (fun t k x y hn => (f2 t k x y hn).trans (f1 t k x y hn)) (by omega) p2
    · have z2 : ¬ (lo ≤ s1 40 0 0 7 ∧ s1 40 0 0 7 ≤ hi) := by
        rw [Classical.not_not, b2_e0] at z
        exact z
      exact C_bad e1 p1.frm (K0 _ bad (by omega))
end ZTP
