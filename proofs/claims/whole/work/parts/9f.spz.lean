/-! the reference's words of a page, and room; what both must answer -/
def txt (g : Int → Int) (p : Int) : List Int := if pg g p 0 = 1 ∨ pg g p 0 = 2 ∨ pg g p 0 = 3 then [114, 111, 111, 109, 32, 48 + pg g p 1, 32, 112, 97, 103, 101, 32, 48 + p] else if pg g p 0 = 4 then [115, 108, 111, 116, 115, 32, 48 + p] else [102, 114, 101, 101, 32, 48 + p]
def v_spell (p i : Int) (_ : ST) (P : MP) (g : Int → Int) : Int := if ¬ (isPg P p ∧ -1 ≤ i) then -1 else if i = -1 then ((txt g p).length : Int) else if i < ((txt g p).length : Int) then (txt g p).getD i.toNat 0 else -1
theorem tx_1 (a b : Int) (j : Nat) (hj : j < 12) (h5 : j ≠ 5) : ([114, 111, 111, 109, 32, a, 32, 112, 97, 103, 101, 32, b] : List Int).getD j 0 = (strs.getD 25 []).getD j 0 := by
  rcases (by omega : j = 0 ∨ j = 1 ∨ j = 2 ∨ j = 3 ∨ j = 4 ∨ j = 6 ∨ j = 7 ∨ j = 8 ∨ j = 9 ∨ j = 10 ∨ j = 11) with rfl | rfl | rfl | rfl | rfl | rfl | rfl | rfl | rfl | rfl | rfl <;> rfl
theorem tx_2 (b : Int) (j : Nat) (hj : j < 6) : ([115, 108, 111, 116, 115, 32, b] : List Int).getD j 0 = (strs.getD 22 []).getD j 0 := by
  rcases (by omega : j = 0 ∨ j = 1 ∨ j = 2 ∨ j = 3 ∨ j = 4 ∨ j = 5) with rfl | rfl | rfl | rfl | rfl | rfl <;> rfl
theorem tx_3 (b : Int) (j : Nat) (hj : j < 5) : ([102, 114, 101, 101, 32, b] : List Int).getD j 0 = (strs.getD 23 []).getD j 0 := by
  rcases (by omega : j = 0 ∨ j = 1 ∨ j = 2 ∨ j = 3 ∨ j = 4) with rfl | rfl | rfl | rfl | rfl <;> rfl
theorem P_Z_byteAt (k i : Int) (n : Int) (hn : ((strs.getD k.toNat []).length : Int) = n) (h0 : 0 ≤ k ∧ k < (strs.length : Int)) (h1 : 1 ≤ n ∧ n ≤ 100) {σ : ST} : PU m_Z_byteAt [.inr (.inr (70, k, 0)), .inl i] σ (if 0 ≤ i ∧ i < n then (strs.getD k.toNat []).getD i.toNat 0 else -1) := by
  refine PU.mk fun Q hQ => T_Z_byteAt _ _ _ _ _ ⟨h0, ?_⟩
  rw [hn, wr_id (x := n - 1) (by omega)]
  refine PU.I (P_Z_in _ _ _ _) ?_
  refine ⟨fun hz => ?_, fun hz => ⟨⟨h0, ?_⟩, ?_⟩⟩
  · rw [b2_e0] at hz
    exact hQ _ (by rw [if_neg (by omega)])
  · rw [b2_e0, Classical.not_not] at hz
    omega
  · rw [b2_e0, Classical.not_not] at hz
    exact hQ _ (by rw [if_pos (by omega)])
section SPZ
variable {σ : ST} {P : MP} {g : Int → Int} {n : Int}
theorem Z_sp54 (h : IVg σ P g n) (p i kd x4 t0 : Int) (o5 : Option AV) (hp : isPg P p) (hk : kd = pg g p 0) (ht : ((kd = 1 ∨ kd = 2 ∨ kd = 3) ∧ x4 = 1 ∧ t0 = 13) ∨ (kd = 4 ∧ x4 = 0 ∧ t0 = 7) ∨ (kd = 0 ∧ x4 = 0 ∧ t0 = 6)) (Q : Option AV → ST → Prop) (hQ : ∀ x, x = v_spell p i σ P g → Q (some (.inl x)) σ) : wp m_Z_spell (54, [some zz, some (.inl p), some (.inl i), some (.inl kd), some (.inl x4), o5], [.inl t0], σ) Q := by
  have p1 := h.z.ok.p1
  have hp1 := hp.1
  have hp2 := hp.2
  have hv : ∀ L : List Int, txt g p = L → v_spell p i σ P g = if i < -1 then -1 else if i = -1 then (L.length : Int) else if i < (L.length : Int) then L.getD i.toNat 0 else -1 := by
    intro L hL
    unfold v_spell
    rw [hL]
    by_cases hi : i < -1
    · rw [if_pos hi, if_pos (fun q => by omega)]
    · rw [if_neg hi, if_neg (fun q => q ⟨hp, by omega⟩)]
  refine T_Z_spell_54 _ _ _ _ _ _ _ _ _ _ ?_
  rw [wr_id (x := t0 - 1) (by omega)]
  refine ⟨fun e1 => ⟨fun e2 => ⟨fun e3 => ⟨fun e4 => ?_, fun e4 => ?_⟩, fun e3 => ⟨fun e4 => ?_, fun e4 => ?_⟩⟩, fun e2 => ?_⟩, fun e1 => ?_⟩
  · have hz : kd = 4 ∧ x4 = 0 ∧ t0 = 7 := by omega
    have hL : txt g p = [115, 108, 111, 116, 115, 32, 48 + p] := by
      unfold txt
      rw [if_neg (by omega), if_pos (by omega)]
    refine PU.I (P_Z_byteAt 22 i 6 rfl (by decide) (by decide)) (hQ _ ?_)
    rw [hv _ hL]
    by_cases hi : i < -1
    · rw [if_pos hi, if_neg (by omega)]
    · rw [if_neg hi, if_neg (show ¬ i = -1 by omega)]
      show _ = if i < 7 then _ else _
      by_cases hi2 : i < 7
      · rw [if_pos hi2, if_pos (by omega)]
        exact (tx_2 _ _ (by omega)).symm
      · rw [if_neg hi2, if_neg (by omega)]
  · have hz : kd = 0 ∧ x4 = 0 ∧ t0 = 6 := by omega
    have hL : txt g p = [102, 114, 101, 101, 32, 48 + p] := by
      unfold txt
      rw [if_neg (by omega), if_neg (by omega)]
    refine PU.I (P_Z_byteAt 23 i 5 rfl (by decide) (by decide)) (hQ _ ?_)
    rw [hv _ hL]
    by_cases hi : i < -1
    · rw [if_pos hi, if_neg (by omega)]
    · rw [if_neg hi, if_neg (show ¬ i = -1 by omega)]
      show _ = if i < 6 then _ else _
      by_cases hi2 : i < 6
      · rw [if_pos hi2, if_pos (by omega)]
        exact (tx_3 _ _ (by omega)).symm
      · rw [if_neg hi2, if_neg (by omega)]
  · have hz : (kd = 1 ∨ kd = 2 ∨ kd = 3) ∧ x4 = 1 ∧ t0 = 13 := by omega
    have hL : txt g p = [114, 111, 111, 109, 32, 48 + pg g p 1, 32, 112, 97, 103, 101, 32, 48 + p] := by
      unfold txt
      rw [if_pos (by omega)]
    refine PU.I (P_Z_byteAt 25 i 12 rfl (by decide) (by decide)) (hQ _ ?_)
    rw [hv _ hL]
    by_cases hi : i < -1
    · rw [if_pos hi, if_neg (by omega)]
    · rw [if_neg hi, if_neg (show ¬ i = -1 by omega)]
      show _ = if i < 13 then _ else _
      by_cases hi2 : i < 13
      · rw [if_pos hi2, if_pos (by omega)]
        exact (tx_1 _ _ _ (by omega) (by omega)).symm
      · rw [if_neg hi2, if_neg (by omega)]
  · have hz : (kd = 1 ∨ kd = 2 ∨ kd = 3) ∧ x4 = 1 ∧ t0 = 13 := by omega
    have hL : txt g p = [114, 111, 111, 109, 32, 48 + pg g p 1, 32, 112, 97, 103, 101, 32, 48 + p] := by
      unfold txt
      rw [if_pos (by omega)]
    have h5 : i = 5 := by omega
    subst h5
    have ow := (h.w.p.ow p hp (by omega) (by omega)).1.1
    refine PU.I (P_Z_ofPage h.z (by omega) (by omega) (by omega) (by omega)) ?_
    rw [wr_id (x := 48 + pg g p 1) (by omega)]
    refine hQ _ ?_
    rw [hv _ hL]
    rfl
  · rw [wr_id (x := 48 + p) (by omega)]
    refine hQ _ ?_
    have hi : i = t0 - 1 := by omega
    rcases ht with ⟨hz, -, ht⟩ | ⟨hz, -, ht⟩ | ⟨hz, -, ht⟩
    · have hL : txt g p = [114, 111, 111, 109, 32, 48 + pg g p 1, 32, 112, 97, 103, 101, 32, 48 + p] := by
        unfold txt
        rw [if_pos (by omega)]
      rw [hv _ hL, show i = 12 by omega]
      rfl
    · have hL : txt g p = [115, 108, 111, 116, 115, 32, 48 + p] := by
        unfold txt
        rw [if_neg (by omega), if_pos (by omega)]
      rw [hv _ hL, show i = 6 by omega]
      rfl
    · have hL : txt g p = [102, 114, 101, 101, 32, 48 + p] := by
        unfold txt
        rw [if_neg (by omega), if_neg (by omega)]
      rw [hv _ hL, show i = 5 by omega]
      rfl
  · refine hQ _ ?_
    have hi : i = -1 := by omega
    subst hi
    rcases ht with ⟨hz, -, ht⟩ | ⟨hz, -, ht⟩ | ⟨hz, -, ht⟩
    · have hL : txt g p = [114, 111, 111, 109, 32, 48 + pg g p 1, 32, 112, 97, 103, 101, 32, 48 + p] := by
        unfold txt
        rw [if_pos (by omega)]
      rw [hv _ hL, ht]
      rfl
    · have hL : txt g p = [115, 108, 111, 116, 115, 32, 48 + p] := by
        unfold txt
        rw [if_neg (by omega), if_pos (by omega)]
      rw [hv _ hL, ht]
      rfl
    · have hL : txt g p = [102, 114, 101, 101, 32, 48 + p] := by
        unfold txt
        rw [if_neg (by omega), if_neg (by omega)]
      rw [hv _ hL, ht]
      rfl
theorem Z_rd_spell (h : IVg σ P g n) (p i : Int) : PU m_Z_spell [zz, .inl p, .inl i] σ (v_spell p i σ P g) := by
  have p1 := h.z.ok.p1
  refine PU.mk fun Q hQ => T_Z_spell _ _ _ _ _ _ ?_
  refine PU.I (P_Z_isPage h.z _) ?_
  refine ⟨fun hz => ?_, fun hz => ?_⟩
  · rw [ne_eq, b2_e0, Classical.not_not] at hz
    have kd := h.w.p.kd p hz
    have hz1 := hz.1
    have hz2 := hz.2
    refine PU.I (P_Z_ofPage h.z (by omega) (by omega) (by omega) (by omega)) ?_
    refine ⟨fun e1 => ?_, fun e1 => ⟨fun e2 => ?_, fun e2 => ?_⟩⟩
    · refine T_Z_spell_31 _ _ _ _ _ _ _ _ _ _ ⟨fun _ => ⟨fun q => absurd e1 q, fun _ => Z_sp54 h p i _ 0 6 _ hz rfl (by omega) Q hQ⟩, fun q => absurd rfl q⟩
    · refine T_Z_spell_31 _ _ _ _ _ _ _ _ _ _ ⟨fun _ => ⟨fun q => Z_sp54 h p i _ 0 7 _ hz rfl (by omega) Q hQ, fun q => absurd e1 q⟩, fun q => absurd rfl q⟩
    · refine T_Z_spell_31 _ _ _ _ _ _ _ _ _ _ ⟨fun q => absurd q (by decide), fun _ => Z_sp54 h p i _ 1 13 _ hz rfl (by omega) Q hQ⟩
  · rw [ne_eq, Classical.not_not, b2_e0] at hz
    refine hQ _ ?_
    unfold v_spell
    rw [if_pos (fun q => hz q.1)]
end SPZ
/-! room -/
def okRm (g : Int → Int) (r w : Int) : Prop := isRm g r ∧ 0 ≤ w ∧ w ≤ 8
def v_room (r w : Int) (P : MP) (g : Int → Int) : Int := if w = 5 then rm g r 6 else if w = 6 then bf (fun c => co g c 1 = r) P.nc.toNat 0 0 else if w = 7 then bf (fun a => rm g r (7 + a) = 1) 8 0 0 else if w = 8 then bf (fun a => rm g r (7 + a) = 2) 8 0 0 else rm g r (1 + w)
section RMZ
variable {σ : ST} {P : MP} {g : Int → Int} {n : Int}
theorem IVg.thr (h : IVg σ P g n) (t : Int) : IVg (up σ 40 0 0 0 t) P g n := by
  have tl := h.t.len
  have t0 := h.t.l0
  have t1 := h.t.l1
  have tb := h.t.byt
  have e2 : up σ 40 0 0 0 t 40 0 0 2 = σ 40 0 0 2 := by rw [up_s, if_neg (by decide)]
  refine h.keept (fun t' k i x hn => (by unfold up; rw [if_neg (by omega)])) ⟨?_, ?_, ?_, fun i a b => ?_⟩
  · rw [up_o (by decide), e2]; exact tl
  · rw [e2]; exact t0
  · rw [e2]; exact t1
  · rw [e2] at b
    rw [up_o (by decide), up_o (by decide)]
    exact tb i a b
theorem L_Z_addr (hz : ZS σ P g) {r : Int} (hr : 0 ≤ r ∧ r < 4) (w : Int) (Q : Option AV → ST → Prop) : ∀ (n : Nat) (i a : Int), i + n = 8 → 0 ≤ i → in32 a → (∀ x, x = bf (fun a => rm g r (7 + a) = w) n i a → Q (some (.inl x)) σ) → wp m_Z_addressesBy (5, [some zz, some (.inl r), some (.inl w), some (.inl a), some (.inl i)], [], σ) Q
  | 0, i, a, h, h0, ha, hQ => by
    refine T_Z_addressesBy_5 _ _ _ _ _ _ _ _ ?_
    (repeat' (first | (refine And.intro ?_ ?_) | (intro hzq; simp only [b2_e0, b2_e1, Classical.not_not, ne_eq] at hzq) | (intro hzq) | exact Or.inl rfl | exact Or.inr rfl)) <;> try omega
    exact hQ _ rfl
  | n + 1, i, a, h, h0, ha, hQ => by
    refine T_Z_addressesBy_5 _ _ _ _ _ _ _ _ ?_
    rw [i_or_0 ha, wr_id (x := 7 + i) (by omega)]
    (repeat' (first | (refine And.intro ?_ ?_) | (intro hzq; simp only [b2_e0, b2_e1, Classical.not_not, ne_eq] at hzq) | (intro hzq) | exact Or.inl rfl | exact Or.inr rfl | refine PU.I (P_Z_ofRoom hz (by omega) (by omega) (by omega) (by omega)) ?_)) <;> try omega
    all_goals (simp (disch := omega) only [wr_id]; first | exact L_Z_addr hz hr w Q n (i + 1) _ (by omega) (by omega) (i_or_32 _ _) (fun x e => hQ x (by rw [e, bf_y (by omega)])) | exact L_Z_addr hz hr w Q n (i + 1) _ (by omega) (by omega) ha (fun x e => hQ x (by rw [e, bf_n (by omega)])))
theorem P_Z_addr (hz : ZS σ P g) {r : Int} (hr : 0 ≤ r ∧ r < 4) (w : Int) : PU m_Z_addressesBy [zz, .inl r, .inl w] σ (bf (fun a => rm g r (7 + a) = w) 8 0 0) :=
  PU.mk fun Q hQ => T_Z_addressesBy _ _ _ _ _ _ (L_Z_addr hz hr w Q 8 0 0 (by omega) (by omega) in32_0 hQ)
theorem Z_room24 (h : IVg σ P g n) (r w : Int) (Q : Option AV → ST → Prop) : (okRm g r w → Q (some (.inl (v_room r w P g))) (up σ 40 0 0 0 0) → wp m_Z_room (24, [some zz, some (.inl r), some (.inl w)], [.inl 0, zz], σ) Q) ∧ (Q (some (.inl 0)) (up σ 40 0 0 0 1) → wp m_Z_room (24, [some zz, some (.inl r), some (.inl w)], [.inl 1, zz], σ) Q) := by
  refine ⟨fun ok hq => ?_, fun hq => ?_⟩
  · obtain ⟨ok1, ok2, ok3⟩ := ok
    have hz := (h.thr 0).z
    have hr := ok1.1
    have hQ : ∀ x, x = v_room r w P g → Q (some (.inl x)) (up σ 40 0 0 0 0) := fun x e => by rw [e]; exact hq
    refine T_Z_room_24 _ _ _ _ _ _ _ _ _ ?_
    rw [wr_id (x := 1 + w) (by omega), up_s, if_pos rfl]
    refine And.intro (fun _ => And.intro (fun e => ?_) (fun e1 => And.intro (fun e => ?_) (fun e2 => And.intro (fun e => ?_) (fun e3 => And.intro (fun e => ?_) (fun e4 => ?_))))) (fun q => absurd (fun z => absurd z (by decide)) q)
    · exact PU.I (P_Z_ofRoom hz hr.1 hr.2 (by omega) (by omega)) (hQ _ (by unfold v_room; rw [if_pos e]))
    · exact PU.I (P_Z_insideOf hz _) (hQ _ (by unfold v_room; rw [if_neg e1, if_pos e]))
    · exact PU.I (P_Z_addr hz hr _) (hQ _ (by unfold v_room; rw [if_neg e1, if_neg e2, if_pos e]))
    · exact PU.I (P_Z_addr hz hr _) (hQ _ (by unfold v_room; rw [if_neg e1, if_neg e2, if_neg e3, if_pos e]))
    · exact PU.I (P_Z_ofRoom hz hr.1 hr.2 (by omega) (by omega)) (hQ _ (by unfold v_room; rw [if_neg e1, if_neg e2, if_neg e3, if_neg e4]))
  · refine T_Z_room_24 _ _ _ _ _ _ _ _ _ ?_
    rw [up_s, if_pos rfl]
    exact And.intro (fun q => absurd rfl q) (fun _ => hq)
/-- the reference's room: what it says of the throw, and its answer -/
theorem Z_room_ok (h : IVg σ P g n) (r w : Int) (Q : Option AV → ST → Prop) (h1 : okRm g r w → Q (some (.inl (v_room r w P g))) (up σ 40 0 0 0 0)) (h2 : ¬ okRm g r w → Q (some (.inl 0)) (up σ 40 0 0 0 1)) : wpM m_Z_room [zz, .inl r, .inl w] σ Q := by
  refine T_Z_room _ _ _ _ _ _ ?_
  refine PU.I (P_Z_isRoom h.z _) (And.intro (fun e => ?_) (fun e => ?_))
  · rw [b2_e0] at e
    exact (Z_room24 h r w Q).2 (h2 (fun q => e q.1))
  · rw [b2_e0, Classical.not_not] at e
    refine PU.I (P_Z_in _ _ _ _) (And.intro (fun e2 => ?_) (fun e2 => ?_))
    · rw [b2_e0] at e2
      exact (Z_room24 h r w Q).2 (h2 (fun q => e2 q.2))
    · rw [b2_e0, Classical.not_not] at e2
      exact (Z_room24 h r w Q).1 ⟨e, e2⟩ (h1 ⟨e, e2⟩)
theorem X_rm2 (h : IVg σ P g n) {r : Int} (hr : isRm g r) : (if bz (σ 17 0 r 3) ≠ 0 then (2 : Int) else 1) = v_room r 2 P g := by
  have y := (h.x.1.rm r hr.1.1 hr.1.2).y hr.2
  have rf := (h.w.p.rf r hr).2.1
  unfold v_room
  rw [if_neg (show ¬ (2 : Int) = 5 by decide), if_neg (show ¬ (2 : Int) = 6 by decide), if_neg (show ¬ (2 : Int) = 7 by decide), if_neg (show ¬ (2 : Int) = 8 by decide), y.seal]
  show _ = rm g r 3
  rcases rf with e | e
  · rw [← b2_l (show ¬ rm g r 3 = 2 by omega), if_neg (by decide), e]
  · rw [← b2_h e, if_pos (by decide), e]
theorem X_rm5 (h : IVg σ P g n) {r : Int} (hr : isRm g r) : (if bz (σ 17 0 r 6) ≠ 0 then (1 : Int) else 0) = v_room r 5 P g := by
  have y := (h.x.1.rm r hr.1.1 hr.1.2).y hr.2
  have rf := (h.w.p.rf r hr).2.2
  unfold v_room
  rw [if_pos rfl, y.away]
  rcases rf with e | e
  · rw [← b2_l (show ¬ rm g r 6 = 1 by omega), if_neg (by decide), e]
  · rw [← b2_h e, if_pos (by decide), e]
theorem X_rm6 (h : IVg σ P g n) {r : Int} (hr : isRm g r) : inSince P g r 2147483647 = v_room r 6 P g := by
  have h0 := hr.1
  have c0 := h.z.ok.c0
  unfold v_room inSince
  rw [if_neg (by decide), if_pos rfl]
  refine bf_iff _ _ _ fun j a b => ⟨fun e => e.1, fun e => ⟨e, ?_⟩⟩
  have hc : isCo P j := ⟨a, by omega⟩
  have i := h.w.c.ins j hc (by omega)
  have e2 := h.w.n.epo (co g j 1) i.1.1.1 i.1.1.2
  have le := h.w.n.le
  omega
theorem X_rm78 (h : IVg σ P g n) {r : Int} (hr : isRm g r) (w : Int) (hw : w = 1 ∨ w = 2) : bf (fun a => a < rm g r 2 ∧ rm g r (7 + a) = w) 8 0 0 = v_room r (6 + w) P g := by
  have nb := h.w.n.nb r
  have h0 := hr.1
  have e : bf (fun a => a < rm g r 2 ∧ rm g r (7 + a) = w) 8 0 0 = bf (fun a => rm g r (7 + a) = w) 8 0 0 := by
    refine bf_iff _ _ _ fun j a b => ⟨fun e => e.2, fun e => ⟨?_, e⟩⟩
    have := nb j h0.1 h0.2
    omega
  rw [e]
  unfold v_room
  rcases hw with rfl | rfl
  · rw [if_neg (by decide), if_neg (by decide), if_pos (by decide)]
  · rw [if_neg (by decide), if_neg (by decide), if_neg (by decide), if_pos (by decide)]
theorem X_rm1 (h : IVg σ P g n) {r : Int} (hr : isRm g r) : σ 17 0 r 1 = v_room r 0 P g ∧ σ 17 0 r 2 = v_room r 1 P g ∧ σ 17 0 r 4 = v_room r 3 P g ∧ σ 17 0 r 5 = v_room r 4 P g := by
  have y := (h.x.1.rm r hr.1.1 hr.1.2).y hr.2
  refine ⟨y.ser, y.size, y.meas, y.epo⟩
theorem Z_thrown_ok (Q : Option AV → ST → Prop) (hQ : Q (some (.inl (σ 40 0 0 0))) σ) : wpM m_Z_thrown [zz] σ Q := T_Z_thrown _ _ _ _ hQ
end RMZ
