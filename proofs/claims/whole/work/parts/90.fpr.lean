/-! feed on both: the pair -/
theorem cb5 (x1 x2 x3 x4 x5 : Int) : cB (byG x1 x2 x3 x4 x5) 20 0 = cB (byF x1) 4 0 + (cB (byF x2) 4 0 + (cB (byF x3) 4 0 + (cB (byF x4) 4 0 + cB (byF x5) 4 0))) := by
  have a1 : cB (byG x1 x2 x3 x4 x5) 20 0 = cB (byG x1 x2 x3 x4 x5) 4 0 + cB (byG x1 x2 x3 x4 x5) 16 4 := cB_add 16 4 0
  have a2 : cB (byG x1 x2 x3 x4 x5) 16 4 = cB (byG x1 x2 x3 x4 x5) 4 4 + cB (byG x1 x2 x3 x4 x5) 12 8 := cB_add 12 4 4
  have a3 : cB (byG x1 x2 x3 x4 x5) 12 8 = cB (byG x1 x2 x3 x4 x5) 4 8 + cB (byG x1 x2 x3 x4 x5) 8 12 := cB_add 8 4 8
  have a4 : cB (byG x1 x2 x3 x4 x5) 8 12 = cB (byG x1 x2 x3 x4 x5) 4 12 + cB (byG x1 x2 x3 x4 x5) 4 16 := cB_add 4 4 12
  have b1 : cB (byG x1 x2 x3 x4 x5) 4 0 = cB (byF x1) 4 0 := cB_ext 0 4 0 (fun i a b => by rw [Int.add_zero]; exact byG_1 a (by omega))
  have b2 : cB (byG x1 x2 x3 x4 x5) 4 4 = cB (byF x2) 4 0 := cB_ext 4 4 0 (fun i a b => byG_2 a (by omega))
  have b3 : cB (byG x1 x2 x3 x4 x5) 4 8 = cB (byF x3) 4 0 := cB_ext 8 4 0 (fun i a b => byG_3 a (by omega))
  have b4 : cB (byG x1 x2 x3 x4 x5) 4 12 = cB (byF x4) 4 0 := cB_ext 12 4 0 (fun i a b => byG_4 a (by omega))
  have b5 : cB (byG x1 x2 x3 x4 x5) 4 16 = cB (byF x5) 4 0 := cB_ext 16 4 0 (fun i a b => byG_5 a (by omega))
  rw [a1, a2, a3, a4, b1, b2, b3, b4, b5]
theorem PR_feed (x1 x2 x3 x4 x5 : Int) : PRf m_X_feed m_Z_feed [.inl x1, .inl x2, .inl x3, .inl x4, .inl x5] := by
  intro σ n hI hn F K
  obtain ⟨P, g, h⟩ := hI
  have tl := h.t.len
  have t0 := h.t.l0
  have t1 := h.t.l1
  have tb := h.t.byt
  have c1 := cB_in (B := byF x1) 4 0
  have c2 := cB_in (B := byF x2) 4 0
  have c3 := cB_in (B := byF x3) 4 0
  have c4 := cB_in (B := byF x4) 4 0
  have c5 := cB_in (B := byF x5) 4 0
  have cs := cb5 x1 x2 x3 x4 x5
  refine T_X_feed _ _ _ _ _ _ _ _ _ ?_
  refine PU.I (P_bytesOf x1 σ) ?_
  refine PU.I (P_bytesOf x2 σ) ?_
  refine PU.I (P_bytesOf x3 σ) ?_
  refine PU.I (P_bytesOf x4 σ) ?_
  refine PU.I (P_bytesOf x5 σ) ?_
  rw [wr_id (x := cB (byF x1) 4 0 + cB (byF x2) 4 0) (by omega), wr_id (x := cB (byF x1) 4 0 + cB (byF x2) 4 0 + cB (byF x3) 4 0) (by omega), wr_id (x := cB (byF x1) 4 0 + cB (byF x2) 4 0 + cB (byF x3) 4 0 + cB (byF x4) 4 0) (by omega), wr_id (x := cB (byF x1) 4 0 + cB (byF x2) 4 0 + cB (byF x3) 4 0 + cB (byF x4) 4 0 + cB (byF x5) 4 0) (by omega), wr_id (by omega), tl]
  refine And.intro (fun q => ?_) (fun q => ?_)
  · have d1 := apF_2 (B := byF x1) 4 0 (σ 2 0 0, σ 40 0 0 2)
    have d2 := apF_2 (B := byF x2) 4 0 (apF (byF x1) 4 0 (σ 2 0 0, σ 40 0 0 2))
    have d3 := apF_2 (B := byF x3) 4 0 (apF (byF x2) 4 0 (apF (byF x1) 4 0 (σ 2 0 0, σ 40 0 0 2)))
    have d4 := apF_2 (B := byF x4) 4 0 (apF (byF x3) 4 0 (apF (byF x2) 4 0 (apF (byF x1) 4 0 (σ 2 0 0, σ 40 0 0 2))))
    have d0 : ((σ 2 0 0, σ 40 0 0 2) : (Int → Int) × Int).2 = σ 40 0 0 2 := rfl
    rw [d0] at d1
    refine P_append (σ := σ) (p := (σ 2 0 0, σ 40 0 0 2)) t0 (by rw [d0]; omega) ⟨tl, fun _ => rfl⟩ (fun _ _ _ _ _ => rfl) (fun s1 o1 r1 => ?_)
    refine P_append (by omega) (by omega) r1 o1 (fun s2 o2 r2 => ?_)
    refine P_append (by omega) (by omega) r2 o2 (fun s3 o3 r3 => ?_)
    refine P_append (by omega) (by omega) r3 o3 (fun s4 o4 r4 => ?_)
    refine P_append (by omega) (by omega) r4 o4 (fun s5 o5 r5 => ?_)
    rw [← ap5] at r5
    have e2 : s5 40 0 0 2 = σ 40 0 0 2 := o5 _ _ _ _ (by omega)
    have tr : TR (apF (byG x1 x2 x3 x4 x5) 20 0 (σ 2 0 0, σ 40 0 0 2)) (apF (byG x1 x2 x3 x4 x5) 20 0 (σ 41 0 0, σ 40 0 0 2)) := apF_rel (byG_in x1 x2 x3 x4 x5) 20 0 _ _ ⟨rfl, t0, fun i a b => tb i a b⟩
    have dz := apF_2 (B := byG x1 x2 x3 x4 x5) 20 0 (σ 41 0 0, σ 40 0 0 2)
    have d0z : ((σ 41 0 0, σ 40 0 0 2) : (Int → Int) × Int).2 = σ 40 0 0 2 := rfl
    rw [d0z] at dz
    show wpM m_Z_feed _ _ _
    refine T_Z_feed _ _ _ _ _ _ _ _ _ ?_
    refine L_feed1 (by rw [e2]; exact ⟨t0, t1⟩) 20 0 0 none (by omega) (by omega) (by omega) (fun z o6 => ?_) (fun z => absurd (by rw [e2]; omega) z)
    refine L_feed2 (σ := s5) 20 0 s5 (σ 41 0 0, σ 40 0 0 2) none (by omega) (by omega) t0 (by rw [d0z]; omega) ⟨e2, fun x => o5 _ _ _ _ (by omega)⟩ (fun _ _ _ _ _ => rfl) (fun s6 o6 r6 => ?_)
    have f1 : s6 1 0 0 0 = s5 1 0 0 0 := o6 _ _ _ _ (by omega)
    have ee : s5 1 0 0 0 = s6 40 0 0 2 := by rw [r5.1, r6.1]; exact tr.1
    rw [ee]
    refine K _ _ ⟨P, g, IVg.mono (h.keept (fun t k i x hn => ?_) ⟨f1.trans ee, ?_, ?_, fun i a b => ?_⟩) (by omega) (by omega)⟩
    · rw [o6 t k i x (by omega), o5 t k i x (by omega)]
    · rw [r6.1]; exact tr.2.1
    · rw [r6.1, dz]; omega
    · rw [r6.1] at b
      rw [o6 2 0 0 i (by omega), r5.2, r6.2]
      exact tr.2.2 i a b
  · show wpM m_Z_feed _ _ _
    refine T_Z_feed _ _ _ _ _ _ _ _ _ ?_
    exact L_feed1 ⟨t0, t1⟩ 20 0 0 none (by omega) (by omega) (by omega) (fun z => absurd z (by omega)) (fun _ => K (-1) σ ⟨P, g, h.mono (by omega) (by omega)⟩)
