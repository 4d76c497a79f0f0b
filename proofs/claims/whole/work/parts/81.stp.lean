/-! a step of a script, on the component and on the reference -/
def stB (c g : Int → Int) (m i : Int) : Int := if c (6 * (12 * m + i)) = 4 ∧ isRm g (c (6 * (12 * m + i) + 1)) then rm g (c (6 * (12 * m + i) + 1)) 4 else c (6 * (12 * m + i) + 2)
def whyS (c : Int → Int) (P : MP) (g : Int → Int) (m i : Int) : Int := whyG P g (c (6 * (12 * m + i))) (c (6 * (12 * m + i) + 1)) (stB c g m i) (c (6 * (12 * m + i) + 3)) (c (6 * (12 * m + i) + 4)) (c (6 * (12 * m + i) + 5))
def doS (c : Int → Int) (P : MP) (g : Int → Int) (m i : Int) : Int → Int := doG P g (c (6 * (12 * m + i))) (c (6 * (12 * m + i) + 1)) (stB c g m i) (c (6 * (12 * m + i) + 3)) (c (6 * (12 * m + i) + 4)) (c (6 * (12 * m + i) + 5))
def ansS (c : Int → Int) (P : MP) (g : Int → Int) (m i : Int) : Int := ansG P g (c (6 * (12 * m + i))) (c (6 * (12 * m + i) + 1)) (stB c g m i) (c (6 * (12 * m + i) + 3)) (c (6 * (12 * m + i) + 4)) (c (6 * (12 * m + i) + 5))
def notS (c : Int → Int) (P : MP) (g : Int → Int) (m i : Int) : Int → Int := noteG (doS c P g m i) (c (6 * (12 * m + i))) (c (6 * (12 * m + i) + 1)) (ansS c P g m i)
section STP
variable {σ s : ST} {P : MP} {g : Int → Int} {n m i k : Int}
theorem C_A_step (H : RX σ k P g) (hg : GW P g n) (hs : SCi σ) (hm : 0 ≤ m ∧ m < σ 40 0 0 14) (hi : 0 ≤ i ∧ i < σ 45 0 0 m) {F : Int → ST → Prop} (K : ∀ s v, Off (SAc k) σ s → (whyS (σ 44 0 0) P g m i ≠ -1 → s 11 k 0 1 = whyS (σ 44 0 0) P g m i ∧ RX s k P g) → (whyS (σ 44 0 0) P g m i = -1 → s 11 k 0 1 = -1 ∧ RW s k P (doS (σ 44 0 0) P g m i) ∧ v = ansS (σ 44 0 0) P g m i) → F v s) : wpM m_Acts_carryOutStep [aa k, .inr (.inr (5, m, 0)), .inl i] σ (asI F) := by
  have t0 := S_told hs hm hi (w := 0) (by omega)
  have t1 := S_told hs hm hi (w := 1) (by omega)
  have t2 := S_told hs hm hi (w := 2) (by omega)
  have t3 := S_told hs hm hi (w := 3) (by omega)
  have t4 := S_told hs hm hi (w := 4) (by omega)
  have t5 := S_told hs hm hi (w := 5) (by omega)
  rw [Int.add_zero] at t0
  have sr := hs.srt m i hm.1 hm.2 hi.1 hi.2
  have fin : ∀ b o5, whyG P g (σ 44 0 0 (6 * (12 * m + i))) (σ 44 0 0 (6 * (12 * m + i) + 1)) b (σ 44 0 0 (6 * (12 * m + i) + 3)) (σ 44 0 0 (6 * (12 * m + i) + 4)) (σ 44 0 0 (6 * (12 * m + i) + 5)) = whyS (σ 44 0 0) P g m i → (whyS (σ 44 0 0) P g m i = -1 → b = stB (σ 44 0 0) g m i) → wp m_Acts_carryOutStep (38, [some (aa k), some (.inr (.inr (5, m, 0))), some (.inl i), some (.inl (σ 44 0 0 (6 * (12 * m + i)))), some (.inl (σ 44 0 0 (6 * (12 * m + i) + 1))), o5], [.inl b], σ) (asI F) := by
    intro b o5 hb hd
    refine T_Acts_carryOutStep_38 _ _ _ _ _ _ _ _ _ _ _ ?_
    refine PU.I t3 ?_
    refine PU.I t4 ?_
    refine PU.I t5 ?_
    refine C_A_do H hg sr.1 (by omega) (fun s v o h1 h2 => ?_)
    refine K s v o (fun q => ?_) (fun q => ?_)
    · rw [hb] at h1; exact h1 q
    · have e := h2 (hb.trans q)
      rw [hd q] at e; exact e
  refine T_Acts_carryOutStep _ _ _ _ _ _ _ ?_
  refine PU.I t0 ?_
  refine PU.I t1 ?_
  refine And.intro (fun h => ?_) (fun h => ?_)
  · refine PU.I t2 ?_
    have e : stB (σ 44 0 0) g m i = σ 44 0 0 (6 * (12 * m + i) + 2) := by
      unfold stB
      rw [if_neg (fun q => h q.1)]
    exact fin _ _ (by unfold whyS; rw [e]) (fun _ => e.symm)
  · have h4 : σ 44 0 0 (6 * (12 * m + i)) = 4 := by omega
    refine PU.I (P_W_measureOf H.1 _) ?_
    by_cases hr : isRm g (σ 44 0 0 (6 * (12 * m + i) + 1))
    · have e : stB (σ 44 0 0) g m i = rm g (σ 44 0 0 (6 * (12 * m + i) + 1)) 4 := by
        unfold stB
        rw [if_pos ⟨h4, hr⟩]
      rw [if_pos hr]
      exact fin _ _ (by unfold whyS; rw [e]) (fun _ => e.symm)
    · have e : whyS (σ 44 0 0) P g m i = 0 := by
        unfold whyS
        rw [h4, whyG_4]
        unfold whySealG
        rw [if_pos hr]
      rw [if_neg hr]
      refine fin _ _ ?_ (fun q => absurd q (by rw [e]; decide))
      rw [e, h4, whyG_4]
      unfold whySealG
      rw [if_pos hr]
/-- the reference at a step: why not, then what it does -/
theorem Z_go_why (hz : ZS s P g) (hg : GW P g n) (hs : SCi s) (hm : 0 ≤ m ∧ m < s 40 0 0 14) (hi : 0 ≤ i ∧ i < s 45 0 0 m) {x2 : Int} {o4 o5 o6 : Option AV} {Q : Option AV → ST → Prop} (K0 : whyS (s 44 0 0) P g m i ≠ -1 → Q (some (.inl i)) (up s 40 0 0 20 (whyS (s 44 0 0) P g m i)))
    (K1 : whyS (s 44 0 0) P g m i = -1 → x2 = 0 → wpM m_Z_doNow [zz, .inl (s 44 0 0 (6 * (12 * m + i))), .inl (s 44 0 0 (6 * (12 * m + i) + 1)), .inl (stB (s 44 0 0) g m i), .inl (s 44 0 0 (6 * (12 * m + i) + 3)), .inl (s 44 0 0 (6 * (12 * m + i) + 4)), .inl (s 44 0 0 (6 * (12 * m + i) + 5))] (up s 40 0 0 20 (-1)) (asI fun _ s' => ∀ o4 o5 o6, wp m_Z_goSteps (7, [some zz, some (.inl m), some (.inl x2), some (.inl (i + 1)), o4, o5, o6], [], s') Q))
    (K2 : whyS (s 44 0 0) P g m i = -1 → x2 ≠ 0 → wpM m_Z_act [zz, .inl (s 44 0 0 (6 * (12 * m + i))), .inl (s 44 0 0 (6 * (12 * m + i) + 1)), .inl (stB (s 44 0 0) g m i), .inl (s 44 0 0 (6 * (12 * m + i) + 3)), .inl (s 44 0 0 (6 * (12 * m + i) + 4)), .inl (s 44 0 0 (6 * (12 * m + i) + 5))] (up s 40 0 0 20 (-1)) (asI fun _ s' => ∀ o4 o5 o6, wp m_Z_goSteps (7, [some zz, some (.inl m), some (.inl x2), some (.inl (i + 1)), o4, o5, o6], [], s') Q)) : wp m_Z_goSteps (7, [some zz, some (.inl m), some (.inl x2), some (.inl i), o4, o5, o6], [], s) Q := by
  have c1 := hs.c1
  have ln := hs.len m hm.1 hm.2
  have t0 := Z_stepOf hs hm hi (w := 0) (by omega)
  have t1 := Z_stepOf hs hm hi (w := 1) (by omega)
  have t2 := Z_stepOf hs hm hi (w := 2) (by omega)
  have t3 := Z_stepOf hs hm hi (w := 3) (by omega)
  have t4 := Z_stepOf hs hm hi (w := 4) (by omega)
  have t5 := Z_stepOf hs hm hi (w := 5) (by omega)
  rw [Int.add_zero] at t0
  have sr := hs.srt m i hm.1 hm.2 hi.1 hi.2
  have fin : ∀ o6, wp m_Z_goSteps (67, [some zz, some (.inl m), some (.inl x2), some (.inl i), some (.inl (s 44 0 0 (6 * (12 * m + i)))), some (.inl (s 44 0 0 (6 * (12 * m + i) + 1))), o6], [.inl (stB (s 44 0 0) g m i)], s) Q := by
    intro o6
    refine T_Z_goSteps_67 _ _ _ _ _ _ _ _ _ _ _ ?_
    refine PU.I t3 ?_
    refine PU.I t4 ?_
    refine PU.I t5 ?_
    refine PU.I (P_Z_whyNot hz (hg.GR hz.ok) hg.p.kd _ _ _ _ _ _) ?_
    rw [up_s, if_pos rfl]
    refine And.intro (fun q => ?_) (fun q => K0 q)
    have hs2 : SCi (up s 40 0 0 20 (-1)) := hs.keep (up_o (by decide)) (by rw [up_s, if_neg (by decide)]) (fun _ _ _ => up_o (by decide)) (fun _ _ _ _ => up_o (by decide)) (fun _ _ => up_o (by decide)) (fun _ _ => up_o (by decide))
    have e14 : up s 40 0 0 20 (-1) 40 0 0 14 = s 40 0 0 14 := by rw [up_s, if_neg (by decide)]
    have e45 : up s 40 0 0 20 (-1) 45 0 0 m = s 45 0 0 m := up_o (by decide)
    have hm2 : 0 ≤ m ∧ m < up s 40 0 0 20 (-1) 40 0 0 14 := by rw [e14]; exact hm
    have hi2 : 0 ≤ i ∧ i < up s 40 0 0 20 (-1) 45 0 0 m := by rw [e45]; exact hi
    have e44 : ∀ x, up s 40 0 0 20 (-1) 44 0 0 x = s 44 0 0 x := fun x => up_o (by decide)
    have u3 := (Z_stepOf hs2 hm2 hi2 (w := 3) (by omega)).to (e44 _)
    have u4 := (Z_stepOf hs2 hm2 hi2 (w := 4) (by omega)).to (e44 _)
    have u5 := (Z_stepOf hs2 hm2 hi2 (w := 5) (by omega)).to (e44 _)
    have eq : whyS (s 44 0 0) P g m i = -1 := q
    rw [q]
    refine And.intro (fun h => ?_) (fun h => ?_)
    · refine PU.I u3 ?_
      refine PU.I u4 ?_
      refine PU.I u5 ?_
      refine wpM_mono ?_ (K1 eq h)
      intro r s' hr
      match r, hr with
      | some (.inl x), hr => rw [wr_id (by omega)]; exact hr _ _ _
    · refine PU.I u3 ?_
      refine PU.I u4 ?_
      refine PU.I u5 ?_
      refine wpM_mono ?_ (K2 eq h)
      intro r s' hr
      match r, hr with
      | some (.inl x), hr => rw [wr_id (by omega)]; exact hr _ _ _
  refine T_Z_goSteps_7 _ _ _ _ _ _ _ _ _ _ ?_
  refine And.intro ⟨by omega, by omega⟩ (And.intro (fun h => absurd h (by omega)) (fun _ => ?_))
  refine PU.I t0 ?_
  refine PU.I t1 ?_
  refine And.intro (fun h => ?_) (fun h => ?_)
  · refine PU.I t2 ?_
    have e : stB (s 44 0 0) g m i = s 44 0 0 (6 * (12 * m + i) + 2) := by
      unfold stB
      rw [if_neg (fun q => h q.1)]
    rw [e] at fin
    exact fin _
  · have h4 : s 44 0 0 (6 * (12 * m + i)) = 4 := by omega
    refine PU.I (P_Z_isRoom hz _) ?_
    by_cases hr : isRm g (s 44 0 0 (6 * (12 * m + i) + 1))
    · have e : stB (s 44 0 0) g m i = rm g (s 44 0 0 (6 * (12 * m + i) + 1)) 4 := by
        unfold stB
        rw [if_pos ⟨h4, hr⟩]
      refine And.intro (fun q => absurd q (by rw [← b2_h hr]; decide)) (fun _ => ?_)
      refine PU.I (P_Z_ofRoom hz hr.1.1 hr.1.2 (by omega) (by omega)) ?_
      rw [e] at fin
      exact fin _
    · have e : stB (s 44 0 0) g m i = s 44 0 0 (6 * (12 * m + i) + 2) := by
        unfold stB
        rw [if_neg (fun q => hr q.2)]
      refine And.intro (fun _ => ?_) (fun q => absurd (b2_l hr).symm q)
      refine PU.I t2 ?_
      rw [e] at fin
      exact fin _
end STP
