/-! small facts of the tables -/
theorem cSS_in : cSS.all (fun z => decide (0 ≤ z.2.2.1 ∧ z.2.2.1 < (strs.length : Int))) = true := by decide +kernel
theorem cGS_in : cGS.all (fun z => Nat.beq (ek z.2.2.1) 7) = true := by decide +kernel
theorem ekc {t : Nat} (h : ek t ≠ 9) : ¬ cof t < 11 := by
  intro hc
  have h2 := cof_tags hc
  simp only [List.mem_cons, List.not_mem_nil, or_false] at h2
  rcases h2 with rfl | rfl | rfl | rfl | rfl | rfl | rfl | rfl | rfl | rfl | rfl <;> exact h (by decide)
theorem ek40 {t : Nat} (h : ek t = 0) : t ≠ 40 := by
  rintro rfl
  exact absurd h (by decide)
theorem ek41 {t : Nat} (h : ek t = 1) : t ≠ 40 := by
  rintro rfl
  exact absurd h (by decide)
theorem cNn_eq {ci : Nat} (h : ci < 11) : cNn ci = (crC.map (fun q => q.2.2)).getD ci 0 := by
  rcases (by omega : ci = 0 ∨ ci = 1 ∨ ci = 2 ∨ ci = 3 ∨ ci = 4 ∨ ci = 5 ∨ ci = 6 ∨ ci = 7 ∨ ci = 8 ∨ ci = 9 ∨ ci = 10) with rfl | rfl | rfl | rfl | rfl | rfl | rfl | rfl | rfl | rfl | rfl <;> rfl
theorem kd_40 : kd 40 8 = 2 := by decide
theorem kd0 {t b : Nat} (hc : cof t < 11) (hb : b < nfd t) (h : kd t b = 0 ∨ kd t b = 1) (q : t = 40 ∧ (b : Int) = 8) : False := by
  have hb8 : b = 8 := by omega
  rw [q.1, hb8, kd_40] at h
  rcases h with h | h <;> cases h
theorem kd3 {t b : Nat} (h0 : kd t b = 0 → False) (h1 : kd t b = 1 → False) (h2 : kd t b = 2 → False) : kd t b = 3 := by
  unfold kd at h0 h1 h2 ⊢
  split <;> first | rfl | exact absurd rfl h0 | exact absurd rfl h1 | exact absurd rfl h2 | (exfalso; simp_all)
theorem n_fitZ {x : Int} (h : x = 0 ∨ x = 1) : fits .boolean (.int (Int32.ofInt x)) = true := by
  rcases h with rfl | rfl <;> rfl
theorem stv_in {t : Nat} {j : Int} (h : ek t = 7) (h0 : 0 ≤ j) (h1 : j < al t) : in32 (stv t j) := by
  have hb : ∀ t, t ∈ [62, 63, 64, 65] → ∀ x ∈ sta t, -1000 ≤ x ∧ x ≤ 1000 := by decide
  have ht : t ∈ [62, 63, 64, 65] := by
    unfold ek at h
    split at h <;> first | decide | cases h
  unfold stv
  rw [List.getD_eq_getElem?_getD]
  cases hg : (sta t)[j.toNat]? with
  | none => exact in32_0
  | some x =>
    have := hb t ht x (List.mem_of_getElem? hg)
    exact ⟨by show _ ≤ x; omega, by show x < _; omega⟩
theorem ofs_up {ad : HD → Nat} {σ : ST} {t b : Nat} {k i x : Int} {w : Value} (hb : b < nfd t) (hw : w = oval ad (up σ t k i (b : Int) x) t k i b) : (ofs ad σ t k i).set b w = ofs ad (up σ t k i (b : Int) x) t k i := by
  apply List.ext_getElem?
  intro j
  rw [List.getElem?_set]
  unfold ofs
  simp only [List.length_map, List.length_range, List.getElem?_map]
  by_cases hj : b = j
  · subst hj
    simp [hb, hw]
  · rw [if_neg hj]
    rcases Nat.lt_or_ge j (nfd t) with h | h
    · simp only [List.getElem?_range h, Option.map_some]
      congr 1
      unfold oval gfv
      simp only [up_at, if_neg (show ¬ (j : Int) = (b : Int) by omega)]
    · rw [List.getElem?_eq_none (by simpa using h)]
      rfl
theorem RC_put {D : va_G} {dA : Nat → ClassId} {ad : HD → Nat} {σ : ST} {H : Heap} {t b : Nat} {k i : Int} (hc : cof t < 11) (hb : b < nfd t) (h : va_at D crC (ad (t, k, i), .inr (cof t, ofs ad σ t k i)) H) : RC D dA ad σ H t k i :=
  ⟨fun _ => h, fun z => absurd hc (ekc (by rw [z]; decide)), fun z => absurd hc (ekc (by rw [z]; decide)), fun z => absurd hc (ekc (by rw [z]; decide))⟩
theorem r_ldcSw {p : Program} {l : Launch} {e : Env} {R : Room} {s : State} {m : MethodId} {args : Array Value} {below : List Frame} {meth : Method} {c : Code} {H : Heap} {locs : List Loc} {cells slots : Nat} {Q : State → Prop} {cc : ByteArray} {pc : Nat} {ls : Array Slot} {rest : List Value} (hexec : p.tables.exec = Jvm.exec) (hb : c.code = cc) {own tx : String} {index q : Nat} (hown : s.vm.findClass own = some m.cls) (hZ : vk_R own index tx q s) (hdg : decode cc pc = .ok (.ldc_w index, 3))
    (k : W p l e R s m args below meth c H locs cells slots Q (F0 m (pc + 3) ls (.ref q :: rest))) : W p l e R s m args below meth c H locs cells slots Q (F0 m pc ls rest) := by
  intro T hT X
  obtain ⟨t, a1, b1⟩ := k T hT X
  exact ⟨t, X.ldcStringW hexec hown (text := tx) (a := q) hZ.1 hZ.2 (g := F0 m pc ls rest) rfl (by rw [hb]; exact hdg) t a1, b1⟩
/-! every instruction: what wp says of it the machine does -/
section STEPS
variable {D : va_G} {dA : Nat → ClassId} {ad : HD → Nat} {VW : HD → Prop} {b0 : Nat} {adK adV adT : Nat → Nat}
variable {p : Program} {l : Launch} {e : Env} {s : State} {m : MethodId} {args : Array Value} {below : List Frame} {meth : Method} {c : Code}
variable {a pc len a1 b c1 : Nat} {v : Int} {L : LV} {st : List AV} {σ : ST} {Q : Option AV → ST → Prop} {K : NX → Prop} {C : Nat → List AV → ST → (Option AV → ST → Prop) → Prop}
theorem oktail {V : HD → Prop} {v : AV} {st : List AV} (h : ∀ w ∈ v :: st, okv V w) : ∀ w ∈ st, okv V w := fun w hw => h w (List.mem_cons_of_mem _ hw)
theorem okhead {V : HD → Prop} {v : AV} {st : List AV} (h : ∀ w ∈ v :: st, okv V w) : okv V v := h v List.mem_cons_self
theorem tgt_ok {pc : Nat} {off : Int} {cc : ByteArray} (h : 0 ≤ (pc : Int) + off) : (pc : Int) + off = (tgt pc off : Int) := by
  unfold tgt
  omega
theorem s_iconst {n : Int} (hK : ∀ pc' L' st' σ', K (pc', L', st', σ') → WG D dA ad VW b0 adK adV adT p l e s m args below meth c a Q pc' L' st' σ') (hF : FX a p s m args meth c) (hS : VS D dA adK s) (hk : okI a (pc, .iconst n, len, a1, b, c1, v) = true) (hdg : decode (iB a) pc = .ok (.iconst n, len)) (hw : run1 K C Q (stepI (hlm a) (rkm a) rkm (pc, .iconst n, len, a1, b, c1, v) pc L st σ)) : WG D dA ad VW b0 adK adV adT p l e s m args below meth c a Q pc L st σ := by
  obtain ⟨hx, hb, hml, hown, hts, hr, hlk⟩ := id hF
  simp only [okI, Bool.and_eq_true] at hk
  obtain rfl : len = 1 := Nat.eq_of_beq_eq_true hk.1
  have h32 : in32 n := by
    have := hk.2
    simp only [i32, decide_eq_true_eq] at this
    exact this
  have hw : K (pc + 1, L, .inl n :: st, σ) := hw
  intro H locs ls hI
  obtain ⟨hR, hO, hC, hLH, hN, hOL, hOs, hlc⟩ := id hI
  refine lv_iconst hx hb hdg rfl ?_
  exact hK _ _ _ _ hw H locs ls ⟨hR, hO, hC, hLH, hN, hOL, okcons h32 hOs, hlc⟩
theorem s_bipush {n : Int} (hK : ∀ pc' L' st' σ', K (pc', L', st', σ') → WG D dA ad VW b0 adK adV adT p l e s m args below meth c a Q pc' L' st' σ') (hF : FX a p s m args meth c) (hS : VS D dA adK s) (hk : okI a (pc, .bipush n, len, a1, b, c1, v) = true) (hdg : decode (iB a) pc = .ok (.bipush n, len)) (hw : run1 K C Q (stepI (hlm a) (rkm a) rkm (pc, .bipush n, len, a1, b, c1, v) pc L st σ)) : WG D dA ad VW b0 adK adV adT p l e s m args below meth c a Q pc L st σ := by
  obtain ⟨hx, hb, hml, hown, hts, hr, hlk⟩ := id hF
  simp only [okI, Bool.and_eq_true] at hk
  obtain rfl : len = 2 := Nat.eq_of_beq_eq_true hk.1
  have h8 : -128 ≤ n ∧ n < 128 := by simpa only [decide_eq_true_eq] using hk.2
  have hw : K (pc + 2, L, .inl n :: st, σ) := hw
  intro H locs ls hI
  obtain ⟨hR, hO, hC, hLH, hN, hOL, hOs, hlc⟩ := id hI
  refine lv_bipush hx hb hdg (n_bip h8) ?_
  exact hK _ _ _ _ hw H locs ls ⟨hR, hO, hC, hLH, hN, hOL, okcons ⟨by omega, by omega⟩ hOs, hlc⟩
theorem s_sipush {n : Int} (hK : ∀ pc' L' st' σ', K (pc', L', st', σ') → WG D dA ad VW b0 adK adV adT p l e s m args below meth c a Q pc' L' st' σ') (hF : FX a p s m args meth c) (hS : VS D dA adK s) (hk : okI a (pc, .sipush n, len, a1, b, c1, v) = true) (hdg : decode (iB a) pc = .ok (.sipush n, len)) (hw : run1 K C Q (stepI (hlm a) (rkm a) rkm (pc, .sipush n, len, a1, b, c1, v) pc L st σ)) : WG D dA ad VW b0 adK adV adT p l e s m args below meth c a Q pc L st σ := by
  obtain ⟨hx, hb, hml, hown, hts, hr, hlk⟩ := id hF
  simp only [okI, Bool.and_eq_true] at hk
  obtain rfl : len = 3 := Nat.eq_of_beq_eq_true hk.1
  have h8 : -32768 ≤ n ∧ n < 32768 := by simpa only [decide_eq_true_eq] using hk.2
  have hw : K (pc + 3, L, .inl n :: st, σ) := hw
  intro H locs ls hI
  obtain ⟨hR, hO, hC, hLH, hN, hOL, hOs, hlc⟩ := id hI
  refine lv_sipush hx hb hdg (n_sip h8) ?_
  exact hK _ _ _ _ hw H locs ls ⟨hR, hO, hC, hLH, hN, hOL, okcons ⟨by omega, by omega⟩ hOs, hlc⟩
theorem s_lconst {n : Fin 2} (hK : ∀ pc' L' st' σ', K (pc', L', st', σ') → WG D dA ad VW b0 adK adV adT p l e s m args below meth c a Q pc' L' st' σ') (hF : FX a p s m args meth c) (hS : VS D dA adK s) (hk : okI a (pc, .lconst n, len, a1, b, c1, v) = true) (hdg : decode (iB a) pc = .ok (.lconst n, len)) (hw : run1 K C Q (stepI (hlm a) (rkm a) rkm (pc, .lconst n, len, a1, b, c1, v) pc L st σ)) : WG D dA ad VW b0 adK adV adT p l e s m args below meth c a Q pc L st σ := by
  obtain ⟨hx, hb, hml, hown, hts, hr, hlk⟩ := id hF
  obtain rfl : len = 1 := Nat.eq_of_beq_eq_true hk
  have hw : K (pc + 1, L, .inr (.inl (n.val : Int)) :: st, σ) := hw
  intro H locs ls hI
  obtain ⟨hR, hO, hC, hLH, hN, hOL, hOs, hlc⟩ := id hI
  refine lv_lconst hx hb hdg (v := Int64.ofInt (n.val : Int)) (by rcases n with ⟨_ | _ | z, hz⟩ <;> first | rfl | omega) ?_
  exact hK _ _ _ _ hw H locs ls ⟨hR, hO, hC, hLH, hN, hOL, okcons (show in64 (n.val : Int) from ⟨by omega, by have := n.isLt; omega⟩) hOs, hlc⟩
theorem s_ldc {ix : Nat} (hK : ∀ pc' L' st' σ', K (pc', L', st', σ') → WG D dA ad VW b0 adK adV adT p l e s m args below meth c a Q pc' L' st' σ') (hF : FX a p s m args meth c) (hS : VS D dA adK s) (hE : EV ad VW b0 adK adT) (hk : okI a (pc, .ldc ix, len, a1, b, c1, v) = true) (hdg : decode (iB a) pc = .ok (.ldc ix, len)) (hw : run1 K C Q (stepI (hlm a) (rkm a) rkm (pc, .ldc ix, len, a1, b, c1, v) pc L st σ)) : WG D dA ad VW b0 adK adV adT p l e s m args below meth c a Q pc L st σ := by
  obtain ⟨hx, hb, hml, hown, hts, hr, hlk⟩ := id hF
  simp only [okI, Bool.and_eq_true] at hk
  obtain rfl : len = 2 := Nat.eq_of_beq_eq_true hk.1
  have hks := okKS_
  simp only [okKS1, Bool.and_eq_true] at hks
  rcases a1 with _ | a1
  · have hk2 := hk.2
    simp only [Bool.and_eq_true] at hk2
    have h32 : in32 v := by
      have := hk2.1
      simp only [i32, decide_eq_true_eq] at this
      exact this
    obtain ⟨z, hz, hz2⟩ := List.any_eq_true.mp hk2.2
    simp only [Bool.and_eq_true, decide_eq_true_eq] at hz2
    obtain ⟨g1, g2, g3⟩ := hz2
    have g1 := Nat.eq_of_beq_eq_true g1
    have g2 := Nat.eq_of_beq_eq_true g2
    have hc := hts _ (tb_at (List.all_eq_true.mp hks.1 z hz))
    rw [g1, g2, g3] at hc
    have hw : K (pc + 2, L, .inl v :: st, σ) := hw
    intro H locs ls hI
    obtain ⟨hR, hO, hC, hLH, hN, hOL, hOs, hlc⟩ := id hI
    refine lv_ldc hx hb hown hc hdg ?_
    exact hK _ _ _ _ hw H locs ls ⟨hR, hO, hC, hLH, hN, hOL, okcons h32 hOs, hlc⟩
  · have hk2 := hk.2
    obtain ⟨z, hz, hz2⟩ := List.any_eq_true.mp hk2
    simp only [Bool.and_eq_true, decide_eq_true_eq] at hz2
    obtain ⟨g1, g2, g3⟩ := hz2
    have g1 := Nat.eq_of_beq_eq_true g1
    have g2 := Nat.eq_of_beq_eq_true g2
    have hv : 0 ≤ v ∧ v < (strs.length : Int) := by
      have := List.all_eq_true.mp cSS_in z hz
      simp only [decide_eq_true_eq] at this
      rw [← g3]
      exact this
    have hz5 := hS.2.2.2.2.1 z hz
    rw [g1, g2, g3] at hz5
    have hw : K (pc + 2, L, .inr (.inr (70, v, 0)) :: st, σ) := hw
    intro H locs ls hI
    obtain ⟨hR, hO, hC, hLH, hN, hOL, hOs, hlc⟩ := id hI
    refine va_ldcS hx hb hown hz5 hdg ?_
    rw [← hE.2.2.2.2.1 v 0]
    exact hK _ _ _ _ hw H locs ls ⟨hR, hO, hC, hLH, hN, hOL, okcons (Or.inr (Or.inl ⟨rfl, hv⟩)) hOs, hlc⟩
theorem s_ldc_w {ix : Nat} (hK : ∀ pc' L' st' σ', K (pc', L', st', σ') → WG D dA ad VW b0 adK adV adT p l e s m args below meth c a Q pc' L' st' σ') (hF : FX a p s m args meth c) (hS : VS D dA adK s) (hE : EV ad VW b0 adK adT) (hk : okI a (pc, .ldc_w ix, len, a1, b, c1, v) = true) (hdg : decode (iB a) pc = .ok (.ldc_w ix, len)) (hw : run1 K C Q (stepI (hlm a) (rkm a) rkm (pc, .ldc_w ix, len, a1, b, c1, v) pc L st σ)) : WG D dA ad VW b0 adK adV adT p l e s m args below meth c a Q pc L st σ := by
  obtain ⟨hx, hb, hml, hown, hts, hr, hlk⟩ := id hF
  simp only [okI, Bool.and_eq_true] at hk
  obtain rfl : len = 3 := Nat.eq_of_beq_eq_true hk.1
  have hks := okKS_
  simp only [okKS1, Bool.and_eq_true] at hks
  rcases a1 with _ | a1
  · have hk2 := hk.2
    simp only [Bool.and_eq_true] at hk2
    have h32 : in32 v := by
      have := hk2.1
      simp only [i32, decide_eq_true_eq] at this
      exact this
    obtain ⟨z, hz, hz2⟩ := List.any_eq_true.mp hk2.2
    simp only [Bool.and_eq_true, decide_eq_true_eq] at hz2
    obtain ⟨g1, g2, g3⟩ := hz2
    have g1 := Nat.eq_of_beq_eq_true g1
    have g2 := Nat.eq_of_beq_eq_true g2
    have hc := hts _ (tb_at (List.all_eq_true.mp hks.1 z hz))
    rw [g1, g2, g3] at hc
    have hw : K (pc + 3, L, .inl v :: st, σ) := hw
    intro H locs ls hI
    obtain ⟨hR, hO, hC, hLH, hN, hOL, hOs, hlc⟩ := id hI
    refine lv_ldcw hx hb hown hc hdg ?_
    exact hK _ _ _ _ hw H locs ls ⟨hR, hO, hC, hLH, hN, hOL, okcons h32 hOs, hlc⟩
  · have hk2 := hk.2
    obtain ⟨z, hz, hz2⟩ := List.any_eq_true.mp hk2
    simp only [Bool.and_eq_true, decide_eq_true_eq] at hz2
    obtain ⟨g1, g2, g3⟩ := hz2
    have g1 := Nat.eq_of_beq_eq_true g1
    have g2 := Nat.eq_of_beq_eq_true g2
    have hv : 0 ≤ v ∧ v < (strs.length : Int) := by
      have := List.all_eq_true.mp cSS_in z hz
      simp only [decide_eq_true_eq] at this
      rw [← g3]
      exact this
    have hz5 := hS.2.2.2.2.1 z hz
    rw [g1, g2, g3] at hz5
    have hw : K (pc + 3, L, .inr (.inr (70, v, 0)) :: st, σ) := hw
    intro H locs ls hI
    obtain ⟨hR, hO, hC, hLH, hN, hOL, hOs, hlc⟩ := id hI
    refine r_ldcSw hx hb hown hz5 hdg ?_
    rw [← hE.2.2.2.2.1 v 0]
    exact hK _ _ _ _ hw H locs ls ⟨hR, hO, hC, hLH, hN, hOL, okcons (Or.inr (Or.inl ⟨rfl, hv⟩)) hOs, hlc⟩
theorem s_ldc2_w {ix : Nat} (hK : ∀ pc' L' st' σ', K (pc', L', st', σ') → WG D dA ad VW b0 adK adV adT p l e s m args below meth c a Q pc' L' st' σ') (hF : FX a p s m args meth c) (hS : VS D dA adK s) (hk : okI a (pc, .ldc2_w ix, len, a1, b, c1, v) = true) (hdg : decode (iB a) pc = .ok (.ldc2_w ix, len)) (hw : run1 K C Q (stepI (hlm a) (rkm a) rkm (pc, .ldc2_w ix, len, a1, b, c1, v) pc L st σ)) : WG D dA ad VW b0 adK adV adT p l e s m args below meth c a Q pc L st σ := by
  obtain ⟨hx, hb, hml, hown, hts, hr, hlk⟩ := id hF
  simp only [okI, Bool.and_eq_true] at hk
  obtain rfl : len = 3 := Nat.eq_of_beq_eq_true hk.1
  have hks := okKS_
  simp only [okKS1, Bool.and_eq_true] at hks
  have hk2 := hk.2
  have h32 : in32 v := by
    have := hk2.1
    simp only [i32, decide_eq_true_eq] at this
    exact this
  obtain ⟨z, hz, hz2⟩ := List.any_eq_true.mp hk2.2
  simp only [Bool.and_eq_true, decide_eq_true_eq] at hz2
  obtain ⟨g1, g2, g3⟩ := hz2
  have g1 := Nat.eq_of_beq_eq_true g1
  have g2 := Nat.eq_of_beq_eq_true g2
  have hc := hts _ (tb_at (List.all_eq_true.mp hks.2.1 z hz))
  rw [g1, g2, g3] at hc
  have hw : K (pc + 3, L, .inr (.inl v) :: st, σ) := hw
  intro H locs ls hI
  obtain ⟨hR, hO, hC, hLH, hN, hOL, hOs, hlc⟩ := id hI
  refine lv_ldc2 hx hb hown hc hdg ?_
  exact hK _ _ _ _ hw H locs ls ⟨hR, hO, hC, hLH, hN, hOL, okcons (show in64 v from ⟨by have := h32.1; omega, by have := h32.2; omega⟩) hOs, hlc⟩
theorem s_iload {i : Nat} (hK : ∀ pc' L' st' σ', K (pc', L', st', σ') → WG D dA ad VW b0 adK adV adT p l e s m args below meth c a Q pc' L' st' σ') (hF : FX a p s m args meth c) (hS : VS D dA adK s) (hk : okI a (pc, .iload i, len, a1, b, c1, v) = true) (hdg : decode (iB a) pc = .ok (.iload i, len)) (hw : run1 K C Q (stepI (hlm a) (rkm a) rkm (pc, .iload i, len, a1, b, c1, v) pc L st σ)) : WG D dA ad VW b0 adK adV adT p l e s m args below meth c a Q pc L st σ := by
  obtain ⟨hx, hb, hml, hown, hts, hr, hlk⟩ := id hF
  obtain rfl : len = 2 := Nat.eq_of_beq_eq_true hk
  replace hw : run1 K C Q (match L.getD i none with
    | some (.inl x) => nx (pc + 2) L (.inl x :: st) σ
    | _ => none) := hw
  rcases hg : L.getD i none with _ | x | x | x <;> rw [hg] at hw <;> first | exact False.elim hw | skip
  have hw : K (pc + 2, L, .inl x :: st, σ) := hw
  intro H locs ls hI
  obtain ⟨hR, hO, hC, hLH, hN, hOL, hOs, hlc⟩ := id hI
  refine lv_iload hx hb hdg ((hLH.2.2 _ _ hg).2) ?_
  exact hK _ _ _ _ hw H locs ls ⟨hR, hO, hC, hLH, hN, hOL, okcons (hOL _ _ hg) hOs, hlc⟩
theorem s_iload_n {i : Fin 4} (hK : ∀ pc' L' st' σ', K (pc', L', st', σ') → WG D dA ad VW b0 adK adV adT p l e s m args below meth c a Q pc' L' st' σ') (hF : FX a p s m args meth c) (hS : VS D dA adK s) (hk : okI a (pc, .iload_n i, len, a1, b, c1, v) = true) (hdg : decode (iB a) pc = .ok (.iload_n i, len)) (hw : run1 K C Q (stepI (hlm a) (rkm a) rkm (pc, .iload_n i, len, a1, b, c1, v) pc L st σ)) : WG D dA ad VW b0 adK adV adT p l e s m args below meth c a Q pc L st σ := by
  obtain ⟨hx, hb, hml, hown, hts, hr, hlk⟩ := id hF
  obtain rfl : len = 1 := Nat.eq_of_beq_eq_true hk
  replace hw : run1 K C Q (match L.getD i.val none with
    | some (.inl x) => nx (pc + 1) L (.inl x :: st) σ
    | _ => none) := hw
  rcases hg : L.getD i.val none with _ | x | x | x <;> rw [hg] at hw <;> first | exact False.elim hw | skip
  have hw : K (pc + 1, L, .inl x :: st, σ) := hw
  intro H locs ls hI
  obtain ⟨hR, hO, hC, hLH, hN, hOL, hOs, hlc⟩ := id hI
  refine lv_iload_n hx hb hdg rfl ((hLH.2.2 _ _ hg).2) ?_
  exact hK _ _ _ _ hw H locs ls ⟨hR, hO, hC, hLH, hN, hOL, okcons (hOL _ _ hg) hOs, hlc⟩
theorem s_lload_n {i : Fin 4} (hK : ∀ pc' L' st' σ', K (pc', L', st', σ') → WG D dA ad VW b0 adK adV adT p l e s m args below meth c a Q pc' L' st' σ') (hF : FX a p s m args meth c) (hS : VS D dA adK s) (hk : okI a (pc, .lload_n i, len, a1, b, c1, v) = true) (hdg : decode (iB a) pc = .ok (.lload_n i, len)) (hw : run1 K C Q (stepI (hlm a) (rkm a) rkm (pc, .lload_n i, len, a1, b, c1, v) pc L st σ)) : WG D dA ad VW b0 adK adV adT p l e s m args below meth c a Q pc L st σ := by
  obtain ⟨hx, hb, hml, hown, hts, hr, hlk⟩ := id hF
  obtain rfl : len = 1 := Nat.eq_of_beq_eq_true hk
  replace hw : run1 K C Q (match L.getD i.val none with
    | some (.inr (.inl x)) => nx (pc + 1) L (.inr (.inl x) :: st) σ
    | _ => none) := hw
  rcases hg : L.getD i.val none with _ | x | x | x <;> rw [hg] at hw <;> first | exact False.elim hw | skip
  have hw : K (pc + 1, L, .inr (.inl x) :: st, σ) := hw
  intro H locs ls hI
  obtain ⟨hR, hO, hC, hLH, hN, hOL, hOs, hlc⟩ := id hI
  refine lv_lload_n hx hb hdg rfl ((hLH.2.2 _ _ hg).2) ?_
  exact hK _ _ _ _ hw H locs ls ⟨hR, hO, hC, hLH, hN, hOL, okcons (hOL _ _ hg) hOs, hlc⟩
theorem s_aload {i : Nat} (hK : ∀ pc' L' st' σ', K (pc', L', st', σ') → WG D dA ad VW b0 adK adV adT p l e s m args below meth c a Q pc' L' st' σ') (hF : FX a p s m args meth c) (hS : VS D dA adK s) (hk : okI a (pc, .aload i, len, a1, b, c1, v) = true) (hdg : decode (iB a) pc = .ok (.aload i, len)) (hw : run1 K C Q (stepI (hlm a) (rkm a) rkm (pc, .aload i, len, a1, b, c1, v) pc L st σ)) : WG D dA ad VW b0 adK adV adT p l e s m args below meth c a Q pc L st σ := by
  obtain ⟨hx, hb, hml, hown, hts, hr, hlk⟩ := id hF
  obtain rfl : len = 2 := Nat.eq_of_beq_eq_true hk
  replace hw : run1 K C Q (match L.getD i none with
    | some (.inr (.inr x)) => nx (pc + 2) L (.inr (.inr x) :: st) σ
    | _ => none) := hw
  rcases hg : L.getD i none with _ | x | x | x <;> rw [hg] at hw <;> first | exact False.elim hw | skip
  have hw : K (pc + 2, L, .inr (.inr x) :: st, σ) := hw
  intro H locs ls hI
  obtain ⟨hR, hO, hC, hLH, hN, hOL, hOs, hlc⟩ := id hI
  refine lv_aload hx hb hdg ((hLH.2.2 _ _ hg).2) ?_
  exact hK _ _ _ _ hw H locs ls ⟨hR, hO, hC, hLH, hN, hOL, okcons (hOL _ _ hg) hOs, hlc⟩
theorem s_aload_n {i : Fin 4} (hK : ∀ pc' L' st' σ', K (pc', L', st', σ') → WG D dA ad VW b0 adK adV adT p l e s m args below meth c a Q pc' L' st' σ') (hF : FX a p s m args meth c) (hS : VS D dA adK s) (hk : okI a (pc, .aload_n i, len, a1, b, c1, v) = true) (hdg : decode (iB a) pc = .ok (.aload_n i, len)) (hw : run1 K C Q (stepI (hlm a) (rkm a) rkm (pc, .aload_n i, len, a1, b, c1, v) pc L st σ)) : WG D dA ad VW b0 adK adV adT p l e s m args below meth c a Q pc L st σ := by
  obtain ⟨hx, hb, hml, hown, hts, hr, hlk⟩ := id hF
  obtain rfl : len = 1 := Nat.eq_of_beq_eq_true hk
  replace hw : run1 K C Q (match L.getD i.val none with
    | some (.inr (.inr x)) => nx (pc + 1) L (.inr (.inr x) :: st) σ
    | _ => none) := hw
  rcases hg : L.getD i.val none with _ | x | x | x <;> rw [hg] at hw <;> first | exact False.elim hw | skip
  have hw : K (pc + 1, L, .inr (.inr x) :: st, σ) := hw
  intro H locs ls hI
  obtain ⟨hR, hO, hC, hLH, hN, hOL, hOs, hlc⟩ := id hI
  refine lv_aload_n hx hb hdg rfl ((hLH.2.2 _ _ hg).2) ?_
  exact hK _ _ _ _ hw H locs ls ⟨hR, hO, hC, hLH, hN, hOL, okcons (hOL _ _ hg) hOs, hlc⟩
theorem s_istore {i : Nat} (hK : ∀ pc' L' st' σ', K (pc', L', st', σ') → WG D dA ad VW b0 adK adV adT p l e s m args below meth c a Q pc' L' st' σ') (hF : FX a p s m args meth c) (hS : VS D dA adK s) (hk : okI a (pc, .istore i, len, a1, b, c1, v) = true) (hdg : decode (iB a) pc = .ok (.istore i, len)) (hw : run1 K C Q (stepI (hlm a) (rkm a) rkm (pc, .istore i, len, a1, b, c1, v) pc L st σ)) : WG D dA ad VW b0 adK adV adT p l e s m args below meth c a Q pc L st σ := by
  rcases st with _ | ⟨x | x | x, r⟩ <;> first | exact False.elim hw | skip
  obtain ⟨hx, hb, hml, hown, hts, hr, hlk⟩ := id hF
  simp only [okI, Bool.and_eq_true] at hk
  obtain rfl : len = 2 := Nat.eq_of_beq_eq_true hk.1
  have hlt : i < mxl a := by
    have := hk.2
    simpa only [Nat.blt_eq] using this
  have hw : K (pc + 2, st1 (hlm a) L i (.inl x), r, σ) := hw
  intro H locs ls hI
  obtain ⟨hR, hO, hC, hLH, hN, hOL, hOs, hlc⟩ := id hI
  refine lv_istore hx hb hdg (LH_has hLH) hlt rfl fun ls' hl' => ?_
  exact hK _ _ _ _ hw H locs ls' ⟨hR, hO, hC, has_LH (v := .inl x) hN hlt (fun j w hj => (hLH.2.2 j w hj).1) hl', fun hh j w hj => (st1_get hj).elim (fun q => by rw [q]; rfl) (hN hh j w), fun j w hj => (st1_get hj).elim (fun q => by rw [q]; exact okhead hOs) (hOL j w), oktail hOs, hlc⟩
theorem s_istore_n {i : Fin 4} (hK : ∀ pc' L' st' σ', K (pc', L', st', σ') → WG D dA ad VW b0 adK adV adT p l e s m args below meth c a Q pc' L' st' σ') (hF : FX a p s m args meth c) (hS : VS D dA adK s) (hk : okI a (pc, .istore_n i, len, a1, b, c1, v) = true) (hdg : decode (iB a) pc = .ok (.istore_n i, len)) (hw : run1 K C Q (stepI (hlm a) (rkm a) rkm (pc, .istore_n i, len, a1, b, c1, v) pc L st σ)) : WG D dA ad VW b0 adK adV adT p l e s m args below meth c a Q pc L st σ := by
  rcases st with _ | ⟨x | x | x, r⟩ <;> first | exact False.elim hw | skip
  obtain ⟨hx, hb, hml, hown, hts, hr, hlk⟩ := id hF
  simp only [okI, Bool.and_eq_true] at hk
  obtain rfl : len = 1 := Nat.eq_of_beq_eq_true hk.1
  have hlt : i.val < mxl a := by
    have := hk.2
    simpa only [Nat.blt_eq] using this
  have hw : K (pc + 1, st1 (hlm a) L i.val (.inl x), r, σ) := hw
  intro H locs ls hI
  obtain ⟨hR, hO, hC, hLH, hN, hOL, hOs, hlc⟩ := id hI
  refine lv_istore_n hx hb hdg rfl (LH_has hLH) hlt rfl fun ls' hl' => ?_
  exact hK _ _ _ _ hw H locs ls' ⟨hR, hO, hC, has_LH (v := .inl x) hN hlt (fun j w hj => (hLH.2.2 j w hj).1) hl', fun hh j w hj => (st1_get hj).elim (fun q => by rw [q]; rfl) (hN hh j w), fun j w hj => (st1_get hj).elim (fun q => by rw [q]; exact okhead hOs) (hOL j w), oktail hOs, hlc⟩
theorem s_astore {i : Nat} (hK : ∀ pc' L' st' σ', K (pc', L', st', σ') → WG D dA ad VW b0 adK adV adT p l e s m args below meth c a Q pc' L' st' σ') (hF : FX a p s m args meth c) (hS : VS D dA adK s) (hk : okI a (pc, .astore i, len, a1, b, c1, v) = true) (hdg : decode (iB a) pc = .ok (.astore i, len)) (hw : run1 K C Q (stepI (hlm a) (rkm a) rkm (pc, .astore i, len, a1, b, c1, v) pc L st σ)) : WG D dA ad VW b0 adK adV adT p l e s m args below meth c a Q pc L st σ := by
  rcases st with _ | ⟨x | x | x, r⟩ <;> first | exact False.elim hw | skip
  obtain ⟨hx, hb, hml, hown, hts, hr, hlk⟩ := id hF
  simp only [okI, Bool.and_eq_true] at hk
  obtain rfl : len = 2 := Nat.eq_of_beq_eq_true hk.1
  have hlt : i < mxl a := by
    have := hk.2
    simpa only [Nat.blt_eq] using this
  have hw : K (pc + 2, st1 (hlm a) L i (.inr (.inr x)), r, σ) := hw
  intro H locs ls hI
  obtain ⟨hR, hO, hC, hLH, hN, hOL, hOs, hlc⟩ := id hI
  refine lv_astore hx hb hdg (LH_has hLH) hlt rfl fun ls' hl' => ?_
  exact hK _ _ _ _ hw H locs ls' ⟨hR, hO, hC, has_LH (v := .inr (.inr x)) hN hlt (fun j w hj => (hLH.2.2 j w hj).1) hl', fun hh j w hj => (st1_get hj).elim (fun q => by rw [q]; rfl) (hN hh j w), fun j w hj => (st1_get hj).elim (fun q => by rw [q]; exact okhead hOs) (hOL j w), oktail hOs, hlc⟩
theorem s_astore_n {i : Fin 4} (hK : ∀ pc' L' st' σ', K (pc', L', st', σ') → WG D dA ad VW b0 adK adV adT p l e s m args below meth c a Q pc' L' st' σ') (hF : FX a p s m args meth c) (hS : VS D dA adK s) (hk : okI a (pc, .astore_n i, len, a1, b, c1, v) = true) (hdg : decode (iB a) pc = .ok (.astore_n i, len)) (hw : run1 K C Q (stepI (hlm a) (rkm a) rkm (pc, .astore_n i, len, a1, b, c1, v) pc L st σ)) : WG D dA ad VW b0 adK adV adT p l e s m args below meth c a Q pc L st σ := by
  rcases st with _ | ⟨x | x | x, r⟩ <;> first | exact False.elim hw | skip
  obtain ⟨hx, hb, hml, hown, hts, hr, hlk⟩ := id hF
  simp only [okI, Bool.and_eq_true] at hk
  obtain rfl : len = 1 := Nat.eq_of_beq_eq_true hk.1
  have hlt : i.val < mxl a := by
    have := hk.2
    simpa only [Nat.blt_eq] using this
  have hw : K (pc + 1, st1 (hlm a) L i.val (.inr (.inr x)), r, σ) := hw
  intro H locs ls hI
  obtain ⟨hR, hO, hC, hLH, hN, hOL, hOs, hlc⟩ := id hI
  refine lv_astore_n hx hb hdg rfl (LH_has hLH) hlt rfl fun ls' hl' => ?_
  exact hK _ _ _ _ hw H locs ls' ⟨hR, hO, hC, has_LH (v := .inr (.inr x)) hN hlt (fun j w hj => (hLH.2.2 j w hj).1) hl', fun hh j w hj => (st1_get hj).elim (fun q => by rw [q]; rfl) (hN hh j w), fun j w hj => (st1_get hj).elim (fun q => by rw [q]; exact okhead hOs) (hOL j w), oktail hOs, hlc⟩
theorem s_lstore_n {i : Fin 4} (hK : ∀ pc' L' st' σ', K (pc', L', st', σ') → WG D dA ad VW b0 adK adV adT p l e s m args below meth c a Q pc' L' st' σ') (hF : FX a p s m args meth c) (hS : VS D dA adK s) (hk : okI a (pc, .lstore_n i, len, a1, b, c1, v) = true) (hdg : decode (iB a) pc = .ok (.lstore_n i, len)) (hw : run1 K C Q (stepI (hlm a) (rkm a) rkm (pc, .lstore_n i, len, a1, b, c1, v) pc L st σ)) : WG D dA ad VW b0 adK adV adT p l e s m args below meth c a Q pc L st σ := by
  rcases st with _ | ⟨x | x | x, r⟩ <;> first | exact False.elim hw | skip
  obtain ⟨hx, hb, hml, hown, hts, hr, hlk⟩ := id hF
  simp only [okI, Bool.and_eq_true] at hk
  obtain rfl : len = 1 := Nat.eq_of_beq_eq_true hk.1
  have hlt : i.val + 1 < mxl a := by
    have := hk.2
    simpa only [Nat.blt_eq] using this
  replace hw : run1 K C Q (bif hlm a then nx (pc + 1) (st2 L i.val (.inr (.inl x))) r σ else none) := hw
  rcases hh : hlm a with _ | _ <;> rw [hh] at hw <;> first | exact False.elim hw | skip
  have hw : K (pc + 1, st2 L i.val (.inr (.inl x)), r, σ) := hw
  intro H locs ls hI
  obtain ⟨hR, hO, hC, hLH, hN, hOL, hOs, hlc⟩ := id hI
  refine lv_lstore_n hx hb hdg rfl (LH_has hLH) hlt rfl fun ls' hl' => ?_
  exact hK _ _ _ _ hw H locs ls' ⟨hR, hO, hC, has_LH2 (v := .inr (.inl x)) hlt (fun j w hj => (hLH.2.2 j w hj).1) hl', fun hf => by (rw [hh] at hf; cases hf), fun j w hj => (st2_get hj).elim (fun q => by rw [q]; exact okhead hOs) (hOL j w), oktail hOs, hlc⟩
theorem s_iinc {i : Nat} {n : Int} (hK : ∀ pc' L' st' σ', K (pc', L', st', σ') → WG D dA ad VW b0 adK adV adT p l e s m args below meth c a Q pc' L' st' σ') (hF : FX a p s m args meth c) (hS : VS D dA adK s) (hk : okI a (pc, .iinc i n, len, a1, b, c1, v) = true) (hdg : decode (iB a) pc = .ok (.iinc i n, len)) (hw : run1 K C Q (stepI (hlm a) (rkm a) rkm (pc, .iinc i n, len, a1, b, c1, v) pc L st σ)) : WG D dA ad VW b0 adK adV adT p l e s m args below meth c a Q pc L st σ := by
  obtain ⟨hx, hb, hml, hown, hts, hr, hlk⟩ := id hF
  simp only [okI, Bool.and_eq_true] at hk
  obtain rfl : len = 3 := Nat.eq_of_beq_eq_true hk.1
  have hlt : i < mxl a := by
    have := hk.2.1
    simpa only [Nat.blt_eq] using this
  replace hw : run1 K C Q (match L.getD i none with
    | some (.inl x) => nx (pc + 3) (st1 (hlm a) L i (.inl (wr (x + n)))) st σ
    | _ => none) := hw
  rcases hg : L.getD i none with _ | x | x | x <;> rw [hg] at hw <;> first | exact False.elim hw | skip
  have hw : K (pc + 3, st1 (hlm a) L i (.inl (wr (x + n))), st, σ) := hw
  intro H locs ls hI
  obtain ⟨hR, hO, hC, hLH, hN, hOL, hOs, hlc⟩ := id hI
  obtain ⟨k, hk1⟩ := List.getElem?_of_mem (lvs_mem (ad := ad) (n := mxl a) hlt hg)
  refine lv_iinc (v := Int32.ofInt (wr (x + n))) hx hb hdg (LH_has hLH) (k := k) hk1 (by rw [n_ofwr, Int32.ofInt_add]) hlt rfl fun ls' hl' => ?_
  exact hK _ _ _ _ hw H locs ls' ⟨hR, hO, hC, has_LH (v := .inl (wr (x + n))) hN hlt (fun j w hj => (hLH.2.2 j w hj).1) hl', fun hh j w hj => (st1_get hj).elim (fun q => by rw [q]; rfl) (hN hh j w), fun j w hj => (st1_get hj).elim (fun q => by rw [q]; exact n_wr _) (hOL j w), hOs, hlc⟩
theorem s_iadd (hK : ∀ pc' L' st' σ', K (pc', L', st', σ') → WG D dA ad VW b0 adK adV adT p l e s m args below meth c a Q pc' L' st' σ') (hF : FX a p s m args meth c) (hS : VS D dA adK s) (hk : okI a (pc, .iadd, len, a1, b, c1, v) = true) (hdg : decode (iB a) pc = .ok (.iadd, len)) (hw : run1 K C Q (stepI (hlm a) (rkm a) rkm (pc, .iadd, len, a1, b, c1, v) pc L st σ)) : WG D dA ad VW b0 adK adV adT p l e s m args below meth c a Q pc L st σ := by
  rcases st with _ | ⟨y | y | y, _ | ⟨x | x | x, r⟩⟩ <;> first | exact False.elim hw | skip
  obtain ⟨hx, hb, hml, hown, hts, hr, hlk⟩ := id hF
  obtain rfl : len = 1 := Nat.eq_of_beq_eq_true hk
  have hw : K (pc + 1, L, .inl (wr (x + y)) :: r, σ) := hw
  intro H locs ls hI
  obtain ⟨hR, hO, hC, hLH, hN, hOL, hOs, hlc⟩ := id hI
  refine lv_iadd hx hb hdg ?_
  rw [← Int32.ofInt_add, ← n_ofwr]
  exact hK _ _ _ _ hw H locs ls ⟨hR, hO, hC, hLH, hN, hOL, okcons (n_wr _) (oktail (oktail hOs)), hlc⟩
theorem s_isub (hK : ∀ pc' L' st' σ', K (pc', L', st', σ') → WG D dA ad VW b0 adK adV adT p l e s m args below meth c a Q pc' L' st' σ') (hF : FX a p s m args meth c) (hS : VS D dA adK s) (hk : okI a (pc, .isub, len, a1, b, c1, v) = true) (hdg : decode (iB a) pc = .ok (.isub, len)) (hw : run1 K C Q (stepI (hlm a) (rkm a) rkm (pc, .isub, len, a1, b, c1, v) pc L st σ)) : WG D dA ad VW b0 adK adV adT p l e s m args below meth c a Q pc L st σ := by
  rcases st with _ | ⟨y | y | y, _ | ⟨x | x | x, r⟩⟩ <;> first | exact False.elim hw | skip
  obtain ⟨hx, hb, hml, hown, hts, hr, hlk⟩ := id hF
  obtain rfl : len = 1 := Nat.eq_of_beq_eq_true hk
  have hw : K (pc + 1, L, .inl (wr (x - y)) :: r, σ) := hw
  intro H locs ls hI
  obtain ⟨hR, hO, hC, hLH, hN, hOL, hOs, hlc⟩ := id hI
  refine lv_isub hx hb hdg ?_
  rw [← Int32.ofInt_sub, ← n_ofwr]
  exact hK _ _ _ _ hw H locs ls ⟨hR, hO, hC, hLH, hN, hOL, okcons (n_wr _) (oktail (oktail hOs)), hlc⟩
theorem s_imul (hK : ∀ pc' L' st' σ', K (pc', L', st', σ') → WG D dA ad VW b0 adK adV adT p l e s m args below meth c a Q pc' L' st' σ') (hF : FX a p s m args meth c) (hS : VS D dA adK s) (hk : okI a (pc, .imul, len, a1, b, c1, v) = true) (hdg : decode (iB a) pc = .ok (.imul, len)) (hw : run1 K C Q (stepI (hlm a) (rkm a) rkm (pc, .imul, len, a1, b, c1, v) pc L st σ)) : WG D dA ad VW b0 adK adV adT p l e s m args below meth c a Q pc L st σ := by
  rcases st with _ | ⟨y | y | y, _ | ⟨x | x | x, r⟩⟩ <;> first | exact False.elim hw | skip
  obtain ⟨hx, hb, hml, hown, hts, hr, hlk⟩ := id hF
  obtain rfl : len = 1 := Nat.eq_of_beq_eq_true hk
  have hw : K (pc + 1, L, .inl (wr (x * y)) :: r, σ) := hw
  intro H locs ls hI
  obtain ⟨hR, hO, hC, hLH, hN, hOL, hOs, hlc⟩ := id hI
  refine lv_imul hx hb hdg ?_
  rw [← Int32.ofInt_mul, ← n_ofwr]
  exact hK _ _ _ _ hw H locs ls ⟨hR, hO, hC, hLH, hN, hOL, okcons (n_wr _) (oktail (oktail hOs)), hlc⟩
theorem s_iand (hK : ∀ pc' L' st' σ', K (pc', L', st', σ') → WG D dA ad VW b0 adK adV adT p l e s m args below meth c a Q pc' L' st' σ') (hF : FX a p s m args meth c) (hS : VS D dA adK s) (hk : okI a (pc, .iand, len, a1, b, c1, v) = true) (hdg : decode (iB a) pc = .ok (.iand, len)) (hw : run1 K C Q (stepI (hlm a) (rkm a) rkm (pc, .iand, len, a1, b, c1, v) pc L st σ)) : WG D dA ad VW b0 adK adV adT p l e s m args below meth c a Q pc L st σ := by
  rcases st with _ | ⟨y | y | y, _ | ⟨x | x | x, r⟩⟩ <;> first | exact False.elim hw | skip
  obtain ⟨hx, hb, hml, hown, hts, hr, hlk⟩ := id hF
  obtain rfl : len = 1 := Nat.eq_of_beq_eq_true hk
  have hw : K (pc + 1, L, .inl (i_and x y) :: r, σ) := hw
  intro H locs ls hI
  obtain ⟨hR, hO, hC, hLH, hN, hOL, hOs, hlc⟩ := id hI
  refine lv_iand hx hb hdg ?_
  rw [← n_back (Int32.ofInt x &&& Int32.ofInt y)]
  exact hK _ _ _ _ hw H locs ls ⟨hR, hO, hC, hLH, hN, hOL, okcons (n_of _) (oktail (oktail hOs)), hlc⟩
theorem s_ior (hK : ∀ pc' L' st' σ', K (pc', L', st', σ') → WG D dA ad VW b0 adK adV adT p l e s m args below meth c a Q pc' L' st' σ') (hF : FX a p s m args meth c) (hS : VS D dA adK s) (hk : okI a (pc, .ior, len, a1, b, c1, v) = true) (hdg : decode (iB a) pc = .ok (.ior, len)) (hw : run1 K C Q (stepI (hlm a) (rkm a) rkm (pc, .ior, len, a1, b, c1, v) pc L st σ)) : WG D dA ad VW b0 adK adV adT p l e s m args below meth c a Q pc L st σ := by
  rcases st with _ | ⟨y | y | y, _ | ⟨x | x | x, r⟩⟩ <;> first | exact False.elim hw | skip
  obtain ⟨hx, hb, hml, hown, hts, hr, hlk⟩ := id hF
  obtain rfl : len = 1 := Nat.eq_of_beq_eq_true hk
  have hw : K (pc + 1, L, .inl (i_or x y) :: r, σ) := hw
  intro H locs ls hI
  obtain ⟨hR, hO, hC, hLH, hN, hOL, hOs, hlc⟩ := id hI
  refine lv_ior hx hb hdg ?_
  rw [← n_back (Int32.ofInt x ||| Int32.ofInt y)]
  exact hK _ _ _ _ hw H locs ls ⟨hR, hO, hC, hLH, hN, hOL, okcons (n_of _) (oktail (oktail hOs)), hlc⟩
theorem s_ixor (hK : ∀ pc' L' st' σ', K (pc', L', st', σ') → WG D dA ad VW b0 adK adV adT p l e s m args below meth c a Q pc' L' st' σ') (hF : FX a p s m args meth c) (hS : VS D dA adK s) (hk : okI a (pc, .ixor, len, a1, b, c1, v) = true) (hdg : decode (iB a) pc = .ok (.ixor, len)) (hw : run1 K C Q (stepI (hlm a) (rkm a) rkm (pc, .ixor, len, a1, b, c1, v) pc L st σ)) : WG D dA ad VW b0 adK adV adT p l e s m args below meth c a Q pc L st σ := by
  rcases st with _ | ⟨y | y | y, _ | ⟨x | x | x, r⟩⟩ <;> first | exact False.elim hw | skip
  obtain ⟨hx, hb, hml, hown, hts, hr, hlk⟩ := id hF
  obtain rfl : len = 1 := Nat.eq_of_beq_eq_true hk
  have hw : K (pc + 1, L, .inl (i_xor x y) :: r, σ) := hw
  intro H locs ls hI
  obtain ⟨hR, hO, hC, hLH, hN, hOL, hOs, hlc⟩ := id hI
  refine lv_ixor hx hb hdg ?_
  rw [← n_back (Int32.ofInt x ^^^ Int32.ofInt y)]
  exact hK _ _ _ _ hw H locs ls ⟨hR, hO, hC, hLH, hN, hOL, okcons (n_of _) (oktail (oktail hOs)), hlc⟩
theorem s_ishl (hK : ∀ pc' L' st' σ', K (pc', L', st', σ') → WG D dA ad VW b0 adK adV adT p l e s m args below meth c a Q pc' L' st' σ') (hF : FX a p s m args meth c) (hS : VS D dA adK s) (hk : okI a (pc, .ishl, len, a1, b, c1, v) = true) (hdg : decode (iB a) pc = .ok (.ishl, len)) (hw : run1 K C Q (stepI (hlm a) (rkm a) rkm (pc, .ishl, len, a1, b, c1, v) pc L st σ)) : WG D dA ad VW b0 adK adV adT p l e s m args below meth c a Q pc L st σ := by
  rcases st with _ | ⟨y | y | y, _ | ⟨x | x | x, r⟩⟩ <;> first | exact False.elim hw | skip
  obtain ⟨hx, hb, hml, hown, hts, hr, hlk⟩ := id hF
  obtain rfl : len = 1 := Nat.eq_of_beq_eq_true hk
  have hw : K (pc + 1, L, .inl (i_shl x y) :: r, σ) := hw
  intro H locs ls hI
  obtain ⟨hR, hO, hC, hLH, hN, hOL, hOs, hlc⟩ := id hI
  refine lv_ishl hx hb hdg ?_
  rw [← n_back (Int32.ofInt x <<< (Int32.ofInt y &&& 31))]
  exact hK _ _ _ _ hw H locs ls ⟨hR, hO, hC, hLH, hN, hOL, okcons (n_of _) (oktail (oktail hOs)), hlc⟩
theorem s_ishr (hK : ∀ pc' L' st' σ', K (pc', L', st', σ') → WG D dA ad VW b0 adK adV adT p l e s m args below meth c a Q pc' L' st' σ') (hF : FX a p s m args meth c) (hS : VS D dA adK s) (hk : okI a (pc, .ishr, len, a1, b, c1, v) = true) (hdg : decode (iB a) pc = .ok (.ishr, len)) (hw : run1 K C Q (stepI (hlm a) (rkm a) rkm (pc, .ishr, len, a1, b, c1, v) pc L st σ)) : WG D dA ad VW b0 adK adV adT p l e s m args below meth c a Q pc L st σ := by
  rcases st with _ | ⟨y | y | y, _ | ⟨x | x | x, r⟩⟩ <;> first | exact False.elim hw | skip
  obtain ⟨hx, hb, hml, hown, hts, hr, hlk⟩ := id hF
  obtain rfl : len = 1 := Nat.eq_of_beq_eq_true hk
  have hw : K (pc + 1, L, .inl (i_shr x y) :: r, σ) := hw
  intro H locs ls hI
  obtain ⟨hR, hO, hC, hLH, hN, hOL, hOs, hlc⟩ := id hI
  refine lv_ishr hx hb hdg ?_
  rw [← n_back (Int32.ofInt x >>> (Int32.ofInt y &&& 31))]
  exact hK _ _ _ _ hw H locs ls ⟨hR, hO, hC, hLH, hN, hOL, okcons (n_of _) (oktail (oktail hOs)), hlc⟩
theorem s_iushr (hK : ∀ pc' L' st' σ', K (pc', L', st', σ') → WG D dA ad VW b0 adK adV adT p l e s m args below meth c a Q pc' L' st' σ') (hF : FX a p s m args meth c) (hS : VS D dA adK s) (hk : okI a (pc, .iushr, len, a1, b, c1, v) = true) (hdg : decode (iB a) pc = .ok (.iushr, len)) (hw : run1 K C Q (stepI (hlm a) (rkm a) rkm (pc, .iushr, len, a1, b, c1, v) pc L st σ)) : WG D dA ad VW b0 adK adV adT p l e s m args below meth c a Q pc L st σ := by
  rcases st with _ | ⟨y | y | y, _ | ⟨x | x | x, r⟩⟩ <;> first | exact False.elim hw | skip
  obtain ⟨hx, hb, hml, hown, hts, hr, hlk⟩ := id hF
  obtain rfl : len = 1 := Nat.eq_of_beq_eq_true hk
  have hw : K (pc + 1, L, .inl (i_ush x y) :: r, σ) := hw
  intro H locs ls hI
  obtain ⟨hR, hO, hC, hLH, hN, hOL, hOs, hlc⟩ := id hI
  refine lv_iushr hx hb hdg (v := Int32.ofInt (i_ush x y)) (by unfold i_ush; rw [n_back]) ?_
  exact hK _ _ _ _ hw H locs ls ⟨hR, hO, hC, hLH, hN, hOL, okcons (n_of _) (oktail (oktail hOs)), hlc⟩
theorem s_irem (hK : ∀ pc' L' st' σ', K (pc', L', st', σ') → WG D dA ad VW b0 adK adV adT p l e s m args below meth c a Q pc' L' st' σ') (hF : FX a p s m args meth c) (hS : VS D dA adK s) (hk : okI a (pc, .irem, len, a1, b, c1, v) = true) (hdg : decode (iB a) pc = .ok (.irem, len)) (hw : run1 K C Q (stepI (hlm a) (rkm a) rkm (pc, .irem, len, a1, b, c1, v) pc L st σ)) : WG D dA ad VW b0 adK adV adT p l e s m args below meth c a Q pc L st σ := by
  rcases st with _ | ⟨y | y | y, _ | ⟨x | x | x, r⟩⟩ <;> first | exact False.elim hw | skip
  obtain ⟨hx, hb, hml, hown, hts, hr, hlk⟩ := id hF
  obtain rfl : len = 1 := Nat.eq_of_beq_eq_true hk
  have hw : y ≠ 0 ∧ K (pc + 1, L, .inl (i_rem x y) :: r, σ) := hw
  intro H locs ls hI
  obtain ⟨hR, hO, hC, hLH, hN, hOL, hOs, hlc⟩ := id hI
  have hy : in32 y := okhead hOs
  refine lv_irem hx hb hdg (fun z => hw.1 ((n_eq hy in32_0).mp z)) ?_
  rw [← n_back (Int32.ofInt x - Int32.ofInt x / Int32.ofInt y * Int32.ofInt y)]
  exact hK _ _ _ _ hw.2 H locs ls ⟨hR, hO, hC, hLH, hN, hOL, okcons (n_of _) (oktail (oktail hOs)), hlc⟩
theorem s_ladd (hK : ∀ pc' L' st' σ', K (pc', L', st', σ') → WG D dA ad VW b0 adK adV adT p l e s m args below meth c a Q pc' L' st' σ') (hF : FX a p s m args meth c) (hS : VS D dA adK s) (hk : okI a (pc, .ladd, len, a1, b, c1, v) = true) (hdg : decode (iB a) pc = .ok (.ladd, len)) (hw : run1 K C Q (stepI (hlm a) (rkm a) rkm (pc, .ladd, len, a1, b, c1, v) pc L st σ)) : WG D dA ad VW b0 adK adV adT p l e s m args below meth c a Q pc L st σ := by
  rcases st with _ | ⟨y | y | y, _ | ⟨x | x | x, r⟩⟩ <;> first | exact False.elim hw | skip
  obtain ⟨hx, hb, hml, hown, hts, hr, hlk⟩ := id hF
  obtain rfl : len = 1 := Nat.eq_of_beq_eq_true hk
  have hw : K (pc + 1, L, .inr (.inl (wl (x + y))) :: r, σ) := hw
  intro H locs ls hI
  obtain ⟨hR, hO, hC, hLH, hN, hOL, hOs, hlc⟩ := id hI
  refine lv_ladd hx hb hdg ?_
  rw [← Int64.ofInt_add, ← n_ofwl]
  exact hK _ _ _ _ hw H locs ls ⟨hR, hO, hC, hLH, hN, hOL, okcons (n_wl _) (oktail (oktail hOs)), hlc⟩
theorem s_lsub (hK : ∀ pc' L' st' σ', K (pc', L', st', σ') → WG D dA ad VW b0 adK adV adT p l e s m args below meth c a Q pc' L' st' σ') (hF : FX a p s m args meth c) (hS : VS D dA adK s) (hk : okI a (pc, .lsub, len, a1, b, c1, v) = true) (hdg : decode (iB a) pc = .ok (.lsub, len)) (hw : run1 K C Q (stepI (hlm a) (rkm a) rkm (pc, .lsub, len, a1, b, c1, v) pc L st σ)) : WG D dA ad VW b0 adK adV adT p l e s m args below meth c a Q pc L st σ := by
  rcases st with _ | ⟨y | y | y, _ | ⟨x | x | x, r⟩⟩ <;> first | exact False.elim hw | skip
  obtain ⟨hx, hb, hml, hown, hts, hr, hlk⟩ := id hF
  obtain rfl : len = 1 := Nat.eq_of_beq_eq_true hk
  have hw : K (pc + 1, L, .inr (.inl (wl (x - y))) :: r, σ) := hw
  intro H locs ls hI
  obtain ⟨hR, hO, hC, hLH, hN, hOL, hOs, hlc⟩ := id hI
  refine lv_lsub hx hb hdg ?_
  rw [← Int64.ofInt_sub, ← n_ofwl]
  exact hK _ _ _ _ hw H locs ls ⟨hR, hO, hC, hLH, hN, hOL, okcons (n_wl _) (oktail (oktail hOs)), hlc⟩
theorem s_lmul (hK : ∀ pc' L' st' σ', K (pc', L', st', σ') → WG D dA ad VW b0 adK adV adT p l e s m args below meth c a Q pc' L' st' σ') (hF : FX a p s m args meth c) (hS : VS D dA adK s) (hk : okI a (pc, .lmul, len, a1, b, c1, v) = true) (hdg : decode (iB a) pc = .ok (.lmul, len)) (hw : run1 K C Q (stepI (hlm a) (rkm a) rkm (pc, .lmul, len, a1, b, c1, v) pc L st σ)) : WG D dA ad VW b0 adK adV adT p l e s m args below meth c a Q pc L st σ := by
  rcases st with _ | ⟨y | y | y, _ | ⟨x | x | x, r⟩⟩ <;> first | exact False.elim hw | skip
  obtain ⟨hx, hb, hml, hown, hts, hr, hlk⟩ := id hF
  obtain rfl : len = 1 := Nat.eq_of_beq_eq_true hk
  have hw : K (pc + 1, L, .inr (.inl (wl (x * y))) :: r, σ) := hw
  intro H locs ls hI
  obtain ⟨hR, hO, hC, hLH, hN, hOL, hOs, hlc⟩ := id hI
  refine lv_lmul hx hb hdg ?_
  rw [← Int64.ofInt_mul, ← n_ofwl]
  exact hK _ _ _ _ hw H locs ls ⟨hR, hO, hC, hLH, hN, hOL, okcons (n_wl _) (oktail (oktail hOs)), hlc⟩
theorem s_lcmp (hK : ∀ pc' L' st' σ', K (pc', L', st', σ') → WG D dA ad VW b0 adK adV adT p l e s m args below meth c a Q pc' L' st' σ') (hF : FX a p s m args meth c) (hS : VS D dA adK s) (hk : okI a (pc, .lcmp, len, a1, b, c1, v) = true) (hdg : decode (iB a) pc = .ok (.lcmp, len)) (hw : run1 K C Q (stepI (hlm a) (rkm a) rkm (pc, .lcmp, len, a1, b, c1, v) pc L st σ)) : WG D dA ad VW b0 adK adV adT p l e s m args below meth c a Q pc L st σ := by
  rcases st with _ | ⟨y | y | y, _ | ⟨x | x | x, r⟩⟩ <;> first | exact False.elim hw | skip
  obtain ⟨hx, hb, hml, hown, hts, hr, hlk⟩ := id hF
  obtain rfl : len = 1 := Nat.eq_of_beq_eq_true hk
  have hw : K (pc + 1, L, .inl (l_cmp x y) :: r, σ) := hw
  intro H locs ls hI
  obtain ⟨hR, hO, hC, hLH, hN, hOL, hOs, hlc⟩ := id hI
  refine W.lcmp hx hb hdg ?_
  rw [n_cmp (okhead (oktail hOs)) (okhead hOs)]
  exact hK _ _ _ _ hw H locs ls ⟨hR, hO, hC, hLH, hN, hOL, okcons (n_cmp_in _ _) (oktail (oktail hOs)), hlc⟩
theorem s_i2l (hK : ∀ pc' L' st' σ', K (pc', L', st', σ') → WG D dA ad VW b0 adK adV adT p l e s m args below meth c a Q pc' L' st' σ') (hF : FX a p s m args meth c) (hS : VS D dA adK s) (hk : okI a (pc, .i2l, len, a1, b, c1, v) = true) (hdg : decode (iB a) pc = .ok (.i2l, len)) (hw : run1 K C Q (stepI (hlm a) (rkm a) rkm (pc, .i2l, len, a1, b, c1, v) pc L st σ)) : WG D dA ad VW b0 adK adV adT p l e s m args below meth c a Q pc L st σ := by
  rcases st with _ | ⟨x | x | x, r⟩ <;> first | exact False.elim hw | skip
  obtain ⟨hx, hb, hml, hown, hts, hr, hlk⟩ := id hF
  obtain rfl : len = 1 := Nat.eq_of_beq_eq_true hk
  have hw : K (pc + 1, L, .inr (.inl x) :: r, σ) := hw
  intro H locs ls hI
  obtain ⟨hR, hO, hC, hLH, hN, hOL, hOs, hlc⟩ := id hI
  have h32 : in32 x := okhead hOs
  refine lv_i2l hx hb hdg (n_i2l h32) ?_
  exact hK _ _ _ _ hw H locs ls ⟨hR, hO, hC, hLH, hN, hOL, okcons (show in64 x from ⟨by have := h32.1; omega, by have := h32.2; omega⟩) (oktail hOs), hlc⟩
theorem s_dup (hK : ∀ pc' L' st' σ', K (pc', L', st', σ') → WG D dA ad VW b0 adK adV adT p l e s m args below meth c a Q pc' L' st' σ') (hF : FX a p s m args meth c) (hS : VS D dA adK s) (hk : okI a (pc, .dup, len, a1, b, c1, v) = true) (hdg : decode (iB a) pc = .ok (.dup, len)) (hw : run1 K C Q (stepI (hlm a) (rkm a) rkm (pc, .dup, len, a1, b, c1, v) pc L st σ)) : WG D dA ad VW b0 adK adV adT p l e s m args below meth c a Q pc L st σ := by
  rcases st with _ | ⟨x | x | x, r⟩ <;> first | exact False.elim hw | skip
  · obtain ⟨hx, hb, hml, hown, hts, hr, hlk⟩ := id hF
    obtain rfl : len = 1 := Nat.eq_of_beq_eq_true hk
    have hw : K (pc + 1, L, .inl x :: .inl x :: r, σ) := hw
    intro H locs ls hI
    obtain ⟨hR, hO, hC, hLH, hN, hOL, hOs, hlc⟩ := id hI
    refine lv_dup hx hb hdg rfl ?_
    exact hK _ _ _ _ hw H locs ls ⟨hR, hO, hC, hLH, hN, hOL, okcons (okhead hOs) hOs, hlc⟩
  · obtain ⟨hx, hb, hml, hown, hts, hr, hlk⟩ := id hF
    obtain rfl : len = 1 := Nat.eq_of_beq_eq_true hk
    have hw : K (pc + 1, L, .inr (.inr x) :: .inr (.inr x) :: r, σ) := hw
    intro H locs ls hI
    obtain ⟨hR, hO, hC, hLH, hN, hOL, hOs, hlc⟩ := id hI
    refine lv_dup hx hb hdg rfl ?_
    exact hK _ _ _ _ hw H locs ls ⟨hR, hO, hC, hLH, hN, hOL, okcons (okhead hOs) hOs, hlc⟩
theorem s_dup2 (hK : ∀ pc' L' st' σ', K (pc', L', st', σ') → WG D dA ad VW b0 adK adV adT p l e s m args below meth c a Q pc' L' st' σ') (hF : FX a p s m args meth c) (hS : VS D dA adK s) (hk : okI a (pc, .dup2, len, a1, b, c1, v) = true) (hdg : decode (iB a) pc = .ok (.dup2, len)) (hw : run1 K C Q (stepI (hlm a) (rkm a) rkm (pc, .dup2, len, a1, b, c1, v) pc L st σ)) : WG D dA ad VW b0 adK adV adT p l e s m args below meth c a Q pc L st σ := by
  rcases st with _ | ⟨y | y | y, _ | ⟨x | x | x, r⟩⟩ <;> first | exact False.elim hw | skip
  obtain ⟨hx, hb, hml, hown, hts, hr, hlk⟩ := id hF
  obtain rfl : len = 1 := Nat.eq_of_beq_eq_true hk
  have hw : K (pc + 1, L, .inl y :: .inr (.inr x) :: .inl y :: .inr (.inr x) :: r, σ) := hw
  intro H locs ls hI
  obtain ⟨hR, hO, hC, hLH, hN, hOL, hOs, hlc⟩ := id hI
  refine lv_dup2_11 hx hb hdg rfl rfl ?_
  exact hK _ _ _ _ hw H locs ls ⟨hR, hO, hC, hLH, hN, hOL, okcons (okhead hOs) (okcons (okhead (oktail hOs)) hOs), hlc⟩
theorem s_dup_x1 (hK : ∀ pc' L' st' σ', K (pc', L', st', σ') → WG D dA ad VW b0 adK adV adT p l e s m args below meth c a Q pc' L' st' σ') (hF : FX a p s m args meth c) (hS : VS D dA adK s) (hk : okI a (pc, .dup_x1, len, a1, b, c1, v) = true) (hdg : decode (iB a) pc = .ok (.dup_x1, len)) (hw : run1 K C Q (stepI (hlm a) (rkm a) rkm (pc, .dup_x1, len, a1, b, c1, v) pc L st σ)) : WG D dA ad VW b0 adK adV adT p l e s m args below meth c a Q pc L st σ := by
  rcases st with _ | ⟨y | y | y, _ | ⟨x | x | x, r⟩⟩ <;> first | exact False.elim hw | skip
  obtain ⟨hx, hb, hml, hown, hts, hr, hlk⟩ := id hF
  obtain rfl : len = 1 := Nat.eq_of_beq_eq_true hk
  have hw : K (pc + 1, L, .inl y :: .inr (.inr x) :: .inl y :: r, σ) := hw
  intro H locs ls hI
  obtain ⟨hR, hO, hC, hLH, hN, hOL, hOs, hlc⟩ := id hI
  refine lv_dup_x1 hx hb hdg rfl rfl ?_
  exact hK _ _ _ _ hw H locs ls ⟨hR, hO, hC, hLH, hN, hOL, okcons (okhead hOs) (okcons (okhead (oktail hOs)) (okcons (okhead hOs) (oktail (oktail hOs)))), hlc⟩
theorem s_pop (hK : ∀ pc' L' st' σ', K (pc', L', st', σ') → WG D dA ad VW b0 adK adV adT p l e s m args below meth c a Q pc' L' st' σ') (hF : FX a p s m args meth c) (hS : VS D dA adK s) (hk : okI a (pc, .pop, len, a1, b, c1, v) = true) (hdg : decode (iB a) pc = .ok (.pop, len)) (hw : run1 K C Q (stepI (hlm a) (rkm a) rkm (pc, .pop, len, a1, b, c1, v) pc L st σ)) : WG D dA ad VW b0 adK adV adT p l e s m args below meth c a Q pc L st σ := by
  rcases st with _ | ⟨x | x | x, r⟩ <;> first | exact False.elim hw | skip
  obtain ⟨hx, hb, hml, hown, hts, hr, hlk⟩ := id hF
  obtain rfl : len = 1 := Nat.eq_of_beq_eq_true hk
  have hw : K (pc + 1, L, r, σ) := hw
  intro H locs ls hI
  obtain ⟨hR, hO, hC, hLH, hN, hOL, hOs, hlc⟩ := id hI
  refine lv_pop hx hb hdg rfl ?_
  exact hK _ _ _ _ hw H locs ls ⟨hR, hO, hC, hLH, hN, hOL, oktail hOs, hlc⟩
theorem s_goto {off : Int} (hK : ∀ pc' L' st' σ', K (pc', L', st', σ') → WG D dA ad VW b0 adK adV adT p l e s m args below meth c a Q pc' L' st' σ') (hF : FX a p s m args meth c) (hS : VS D dA adK s) (hj : (pc : Int) + off = (tgt pc off : Int)) (hk : okI a (pc, .goto off, len, a1, b, c1, v) = true) (hdg : decode (iB a) pc = .ok (.goto off, len)) (hw : run1 K C Q (stepI (hlm a) (rkm a) rkm (pc, .goto off, len, a1, b, c1, v) pc L st σ)) : WG D dA ad VW b0 adK adV adT p l e s m args below meth c a Q pc L st σ := by
  obtain ⟨hx, hb, hml, hown, hts, hr, hlk⟩ := id hF
  obtain rfl : len = 3 := Nat.eq_of_beq_eq_true hk
  have hw : K (tgt pc off, L, st, σ) := hw
  intro H locs ls hI
  obtain ⟨hR, hO, hC, hLH, hN, hOL, hOs, hlc⟩ := id hI
  refine lv_goto hx hb hdg hj ?_
  exact hK _ _ _ _ hw H locs ls ⟨hR, hO, hC, hLH, hN, hOL, hOs, hlc⟩
theorem s_ifCond {o : Jvm.ClassFile.Cond} {off : Int} (hK : ∀ pc' L' st' σ', K (pc', L', st', σ') → WG D dA ad VW b0 adK adV adT p l e s m args below meth c a Q pc' L' st' σ') (hF : FX a p s m args meth c) (hS : VS D dA adK s) (hj : (pc : Int) + off = (tgt pc off : Int)) (hk : okI a (pc, .ifCond o off, len, a1, b, c1, v) = true) (hdg : decode (iB a) pc = .ok (.ifCond o off, len)) (hw : run1 K C Q (stepI (hlm a) (rkm a) rkm (pc, .ifCond o off, len, a1, b, c1, v) pc L st σ)) : WG D dA ad VW b0 adK adV adT p l e s m args below meth c a Q pc L st σ := by
  rcases st with _ | ⟨x | x | x, r⟩ <;> first | exact False.elim hw | skip
  obtain ⟨hx, hb, hml, hown, hts, hr, hlk⟩ := id hF
  obtain rfl : len = 3 := Nat.eq_of_beq_eq_true hk
  have hw : (cnd o x 0 → K (tgt pc off, L, r, σ)) ∧ (¬ cnd o x 0 → K (pc + 3, L, r, σ)) := hw
  intro H locs ls hI
  obtain ⟨hR, hO, hC, hLH, hN, hOL, hOs, hlc⟩ := id hI
  have h32 : in32 x := okhead hOs
  have A : cnd o x 0 → _ := fun z => hK _ _ _ _ (hw.1 z) H locs ls ⟨hR, hO, hC, hLH, hN, hOL, oktail hOs, hlc⟩
  have B : ¬ cnd o x 0 → _ := fun z => hK _ _ _ _ (hw.2 z) H locs ls ⟨hR, hO, hC, hLH, hN, hOL, oktail hOs, hlc⟩
  cases o
  · exact lv_if_eq hx hb hdg hj (fun z => A ((n_eq h32 in32_0).mp z)) (fun z => B fun q => z ((n_eq h32 in32_0).mpr q))
  · exact lv_if_ne hx hb hdg hj (fun z => A fun q => z ((n_eq h32 in32_0).mpr q)) (fun z => B fun q => q ((n_eq h32 in32_0).mp z))
  · exact lv_if_lt hx hb hdg hj (fun z => A ((n_lt h32 in32_0).mp z)) (fun z => B fun q => z ((n_lt h32 in32_0).mpr q))
  · exact lv_if_ge hx hb hdg hj (fun z => A ((n_le in32_0 h32).mp z)) (fun z => B fun q => z ((n_le in32_0 h32).mpr q))
  · exact lv_if_gt hx hb hdg hj (fun z => A ((n_lt in32_0 h32).mp z)) (fun z => B fun q => z ((n_lt in32_0 h32).mpr q))
  · exact lv_if_le hx hb hdg hj (fun z => A ((n_le h32 in32_0).mp z)) (fun z => B fun q => z ((n_le h32 in32_0).mpr q))
theorem s_if_icmp {o : Jvm.ClassFile.Cond} {off : Int} (hK : ∀ pc' L' st' σ', K (pc', L', st', σ') → WG D dA ad VW b0 adK adV adT p l e s m args below meth c a Q pc' L' st' σ') (hF : FX a p s m args meth c) (hS : VS D dA adK s) (hj : (pc : Int) + off = (tgt pc off : Int)) (hk : okI a (pc, .if_icmp o off, len, a1, b, c1, v) = true) (hdg : decode (iB a) pc = .ok (.if_icmp o off, len)) (hw : run1 K C Q (stepI (hlm a) (rkm a) rkm (pc, .if_icmp o off, len, a1, b, c1, v) pc L st σ)) : WG D dA ad VW b0 adK adV adT p l e s m args below meth c a Q pc L st σ := by
  rcases st with _ | ⟨y | y | y, _ | ⟨x | x | x, r⟩⟩ <;> first | exact False.elim hw | skip
  obtain ⟨hx, hb, hml, hown, hts, hr, hlk⟩ := id hF
  obtain rfl : len = 3 := Nat.eq_of_beq_eq_true hk
  have hw : (cnd o x y → K (tgt pc off, L, r, σ)) ∧ (¬ cnd o x y → K (pc + 3, L, r, σ)) := hw
  intro H locs ls hI
  obtain ⟨hR, hO, hC, hLH, hN, hOL, hOs, hlc⟩ := id hI
  have h32 : in32 x := okhead (oktail hOs)
  have h32y : in32 y := okhead hOs
  have A : cnd o x y → _ := fun z => hK _ _ _ _ (hw.1 z) H locs ls ⟨hR, hO, hC, hLH, hN, hOL, oktail (oktail hOs), hlc⟩
  have B : ¬ cnd o x y → _ := fun z => hK _ _ _ _ (hw.2 z) H locs ls ⟨hR, hO, hC, hLH, hN, hOL, oktail (oktail hOs), hlc⟩
  cases o
  · exact lv_icmp_eq hx hb hdg hj (fun z => A ((n_eq h32 h32y).mp z)) (fun z => B fun q => z ((n_eq h32 h32y).mpr q))
  · exact lv_icmp_ne hx hb hdg hj (fun z => A fun q => z ((n_eq h32 h32y).mpr q)) (fun z => B fun q => q ((n_eq h32 h32y).mp z))
  · exact lv_icmp_lt hx hb hdg hj (fun z => A ((n_lt h32 h32y).mp z)) (fun z => B fun q => z ((n_lt h32 h32y).mpr q))
  · exact lv_icmp_ge hx hb hdg hj (fun z => A ((n_le h32y h32).mp z)) (fun z => B fun q => z ((n_le h32y h32).mpr q))
  · exact lv_icmp_gt hx hb hdg hj (fun z => A ((n_lt h32y h32).mp z)) (fun z => B fun q => z ((n_lt h32y h32).mpr q))
  · exact lv_icmp_le hx hb hdg hj (fun z => A ((n_le h32 h32y).mp z)) (fun z => B fun q => z ((n_le h32 h32y).mpr q))
theorem swc_at {pc : Nat} {x : Int} {d : Nat} {K : Nat → Prop} : ∀ (offs : List Int) (lo : Int), swP x d K (swc pc lo offs) → (x < lo ∨ lo + offs.length ≤ x → K d) ∧ ∀ (j : Nat) (off : Int), offs[j]? = some off → x = lo + j → K (tgt pc off)
  | [], lo, h => ⟨fun _ => h, fun j off hj => by simp at hj⟩
  | o :: r, lo, h => by
    obtain ⟨h1, h2⟩ := h
    refine ⟨fun hx => ?_, fun j off hj hx => ?_⟩
    · have hne : x ≠ lo := by
        rcases hx with hx | hx
        · omega
        · simp only [List.length_cons] at hx; omega
      refine (swc_at r (lo + 1) (h2 hne)).1 ?_
      rcases hx with hx | hx
      · exact Or.inl (by omega)
      · refine Or.inr ?_
        simp only [List.length_cons] at hx
        omega
    · rcases j with _ | j
      · simp only [List.getElem?_cons_zero] at hj
        cases hj
        exact h1 (by omega)
      · simp only [List.getElem?_cons_succ] at hj
        exact (swc_at r (lo + 1) (h2 (by omega))).2 j off hj (by omega)
theorem s_tableswitch {d lo hi : Int} {offs : Array Int} (hK : ∀ pc' L' st' σ', K (pc', L', st', σ') → WG D dA ad VW b0 adK adV adT p l e s m args below meth c a Q pc' L' st' σ') (hF : FX a p s m args meth c) (hS : VS D dA adK s) (hj : ∀ z, z = d ∨ z ∈ offs → (pc : Int) + z = (tgt pc z : Int)) (hk : okI a (pc, .tableswitch d lo hi offs, len, a1, b, c1, v) = true) (hdg : decode (iB a) pc = .ok (.tableswitch d lo hi offs, len)) (hw : run1 K C Q (stepI (hlm a) (rkm a) rkm (pc, .tableswitch d lo hi offs, len, a1, b, c1, v) pc L st σ)) : WG D dA ad VW b0 adK adV adT p l e s m args below meth c a Q pc L st σ := by
  rcases st with _ | ⟨x | x | x, r⟩ <;> first | exact False.elim hw | skip
  obtain ⟨hx, hb, hml, hown, hts, hr, hlk⟩ := id hF
  simp only [okI, decide_eq_true_eq] at hk
  have hw : swP x (tgt pc d) (fun q => K (q, L, r, σ)) (swc pc lo offs.toList) := hw
  obtain ⟨w1, w2⟩ := swc_at _ _ hw
  intro H locs ls hI
  obtain ⟨hR, hO, hC, hLH, hN, hOL, hOs, hlc⟩ := id hI
  have h32 : in32 x := okhead hOs
  have hlen : (offs.toList.length : Int) = (offs.size : Int) := by simp
  by_cases hin : x < lo ∨ hi < x
  · refine lv_tableOut hx hb hdg (by rw [n_toInt h32]; exact hin) (hj d (Or.inl rfl)) ?_
    exact hK _ _ _ _ (w1 (by rcases hin with h | h; exact Or.inl h; exact Or.inr (by omega))) H locs ls ⟨hR, hO, hC, hLH, hN, hOL, oktail hOs, hlc⟩
  · have hsz : (x - lo).toNat < offs.size := by omega
    have ho : offs[(x - lo).toNat]? = some offs[(x - lo).toNat] := Array.getElem?_eq_getElem hsz
    refine lv_tableIn (off := offs[(x - lo).toNat]) hx hb hdg (by rw [n_toInt h32]; omega) (by rw [n_toInt h32]; omega) (by rw [n_toInt h32]; exact ho) (hj _ (Or.inr (Array.getElem_mem hsz))) ?_
    exact hK _ _ _ _ (w2 (x - lo).toNat _ (by rw [Array.getElem?_toList]; exact ho) (by omega)) H locs ls ⟨hR, hO, hC, hLH, hN, hOL, oktail hOs, hlc⟩
theorem s_getstatic {ix : Nat} (hK : ∀ pc' L' st' σ', K (pc', L', st', σ') → WG D dA ad VW b0 adK adV adT p l e s m args below meth c a Q pc' L' st' σ') (hF : FX a p s m args meth c) (hS : VS D dA adK s) (hE : EV ad VW b0 adK adT) (hk : okI a (pc, .getstatic ix, len, a1, b, c1, v) = true) (hdg : decode (iB a) pc = .ok (.getstatic ix, len)) (hw : run1 K C Q (stepI (hlm a) (rkm a) rkm (pc, .getstatic ix, len, a1, b, c1, v) pc L st σ)) : WG D dA ad VW b0 adK adV adT p l e s m args below meth c a Q pc L st σ := by
  obtain ⟨hx, hb, hml, hown, hts, hr, hlk⟩ := id hF
  simp only [okI, Bool.and_eq_true] at hk
  obtain rfl : len = 3 := Nat.eq_of_beq_eq_true hk.1
  obtain ⟨z, hz, hz2⟩ := List.any_eq_true.mp hk.2
  simp only [Bool.and_eq_true] at hz2
  obtain ⟨g1, g2, g3⟩ := hz2
  have g1 := Nat.eq_of_beq_eq_true g1
  have g2 := Nat.eq_of_beq_eq_true g2
  have g3 := Nat.eq_of_beq_eq_true g3
  have h7 := hS.2.2.2.2.2.1 z hz
  have he : ek a1 = 7 := by
    have := List.all_eq_true.mp cGS_in z hz
    rw [g3] at this
    exact Nat.eq_of_beq_eq_true this
  rw [g1, g2, g3] at h7
  have hw : K (pc + 3, L, .inr (.inr (a1, 0, 0)) :: st, σ) := hw
  intro H locs ls hI
  obtain ⟨hR, hO, hC, hLH, hN, hOL, hOs, hlc⟩ := id hI
  obtain ⟨cf, kf, fi, f, q, cell, z1, z2, z3, z4, z5, z6, z7, z8⟩ := (hO.2.1 a1 he).1
  refine va_WgetsN hx hb hown (va_Nw.use rfl h7) z1 z2 z3 z4 z5 (fun y => by rw [y] at z6; cases z6) z7 rfl hdg ?_
  rw [← hE.2.2.2.2.2 a1 0 0 he]
  exact hK _ _ _ _ hw H locs ls ⟨hR, hO, hC, hLH, hN, hOL, okcons (Or.inr (Or.inr he)) hOs, hlc⟩
theorem s_getfield {ix : Nat} (hK : ∀ pc' L' st' σ', K (pc', L', st', σ') → WG D dA ad VW b0 adK adV adT p l e s m args below meth c a Q pc' L' st' σ') (hF : FX a p s m args meth c) (hS : VS D dA adK s) (hE : EV ad VW b0 adK adT) (hk : okI a (pc, .getfield ix, len, a1, b, c1, v) = true) (hdg : decode (iB a) pc = .ok (.getfield ix, len)) (hw : run1 K C Q (stepI (hlm a) (rkm a) rkm (pc, .getfield ix, len, a1, b, c1, v) pc L st σ)) : WG D dA ad VW b0 adK adV adT p l e s m args below meth c a Q pc L st σ := by
  rcases st with _ | ⟨x | x | ⟨t, k, i⟩, r⟩ <;> first | exact False.elim hw | skip
  obtain ⟨hx, hb, hml, hown, hts, hr, hlk⟩ := id hF
  simp only [okI, Bool.and_eq_true] at hk
  obtain ⟨hlen, hbc, hany⟩ := hk
  obtain rfl : len = 3 := Nat.eq_of_beq_eq_true hlen
  obtain rfl : b = c1 := Nat.eq_of_beq_eq_true hbc
  obtain ⟨z, hz, hz2⟩ := List.any_eq_true.mp hany
  simp only [Bool.and_eq_true] at hz2
  obtain ⟨g1, g2, g3, g4⟩ := hz2
  have g1 := Nat.eq_of_beq_eq_true g1
  have g2 := Nat.eq_of_beq_eq_true g2
  have g3 := Nat.eq_of_beq_eq_true g3
  have g4 := Nat.eq_of_beq_eq_true g4
  have hl := hts _ (tb_at (List.all_eq_true.mp okFS_ z hz))
  have hn2 := List.all_eq_true.mp okFS2_ z hz
  simp only [Bool.and_eq_true, Nat.blt_eq] at hn2
  rw [g1, g2, g3, g4] at hl
  rw [g3, g4] at hn2
  replace hw : run1 K C Q (bif Nat.beq (cof t) a1 then nx (pc + 3) L (gfv σ t k i b (b : Int) :: r) σ else none) := hw
  rcases hh : Nat.beq (cof t) a1 with _ | _ <;> rw [hh] at hw <;> first | exact False.elim hw | skip
  obtain rfl : cof t = a1 := Nat.eq_of_beq_eq_true hh
  have hw : K (pc + 3, L, gfv σ t k i b (b : Int) :: r, σ) := hw
  intro H locs ls hI
  obtain ⟨hR, hO, hC, hLH, hN, hOL, hOs, hlc⟩ := id hI
  have hV := V_obj (okhead hOs) hn2.1
  have hbn : b < nfd t := by rw [t_n hn2.1, cNn_eq hn2.1]; exact hn2.2
  refine r_get hx hb hts hown hS hR hV hn2.1 hbn hl hdg ?_
  refine hK _ _ _ _ hw H locs ls ⟨hR, hO, hC, hLH, hN, hOL, okcons ?_ (oktail hOs), hlc⟩
  unfold gfv
  split
  · rename_i h0
    exact Cn_in hC (fun q => kd0 hn2.1 hbn (Or.inl h0) q)
  · exact in32_01 (n_bz _)
  · rename_i h0
    obtain ⟨-, -, rfl, rfl⟩ := t_2 hn2.1 hbn h0
    exact Cn_64 hC
  · rename_i h0 h1 h2
    exact Or.inl (hE.2.2.1 t k i b hV (kd3 h0 h1 h2))
theorem s_putfield {ix : Nat} (hK : ∀ pc' L' st' σ', K (pc', L', st', σ') → WG D dA ad VW b0 adK adV adT p l e s m args below meth c a Q pc' L' st' σ') (hF : FX a p s m args meth c) (hS : VS D dA adK s) (hE : EV ad VW b0 adK adT) (hk : okI a (pc, .putfield ix, len, a1, b, c1, v) = true) (hdg : decode (iB a) pc = .ok (.putfield ix, len)) (hw : run1 K C Q (stepI (hlm a) (rkm a) rkm (pc, .putfield ix, len, a1, b, c1, v) pc L st σ)) : WG D dA ad VW b0 adK adV adT p l e s m args below meth c a Q pc L st σ := by
  rcases st with _ | ⟨x | x | x, _ | ⟨y | y | ⟨t, k, i⟩, r⟩⟩ <;> first | exact False.elim hw | skip
  · obtain ⟨hx, hb, hml, hown, hts, hr, hlk⟩ := id hF
    simp only [okI, Bool.and_eq_true] at hk
    obtain ⟨hlen, hbc, hany⟩ := hk
    obtain rfl : len = 3 := Nat.eq_of_beq_eq_true hlen
    obtain rfl : b = c1 := Nat.eq_of_beq_eq_true hbc
    obtain ⟨z, hz, hz2⟩ := List.any_eq_true.mp hany
    simp only [Bool.and_eq_true] at hz2
    obtain ⟨g1, g2, g3, g4⟩ := hz2
    have g1 := Nat.eq_of_beq_eq_true g1
    have g2 := Nat.eq_of_beq_eq_true g2
    have g3 := Nat.eq_of_beq_eq_true g3
    have g4 := Nat.eq_of_beq_eq_true g4
    have hl := hts _ (tb_at (List.all_eq_true.mp okFS_ z hz))
    have hn2 := List.all_eq_true.mp okFS2_ z hz
    simp only [Bool.and_eq_true, Nat.blt_eq] at hn2
    rw [g1, g2, g3, g4] at hl
    rw [g3, g4] at hn2
    replace hw : run1 K C Q (bif Nat.beq (cof t) a1 then (match kd t b with
        | 0 => nx (pc + 3) L r (up σ t k i (b : Int) x)
        | 1 => nxg (x = 0 ∨ x = 1) (pc + 3) L r (up σ t k i (b : Int) x)
        | _ => none) else none) := hw
    rcases hh : Nat.beq (cof t) a1 with _ | _ <;> rw [hh] at hw <;> first | exact False.elim hw | skip
    obtain rfl : cof t = a1 := Nat.eq_of_beq_eq_true hh
    have hbn : b < nfd t := by rw [t_n hn2.1, cNn_eq hn2.1]; exact hn2.2
    rcases hkd : kd t b with _ | _ | _ | kk <;> rw [hkd] at hw <;> first | exact False.elim hw | skip
    · have hw : K (pc + 3, L, r, up σ t k i (b : Int) x) := hw
      intro H locs ls hI
      obtain ⟨hR, hO, hC, hLH, hN, hOL, hOs, hlc⟩ := id hI
      have h32 : in32 x := okhead hOs
      have hV := V_obj (okhead (oktail hOs)) hn2.1
      obtain ⟨ty, hfin⟩ := t_0 hn2.1 hbn hkd
      refine r_put hx hb hts hown hS hR hV hn2.1 hbn hl hfin (by rw [ty]; rfl) (by rw [ty]; rfl) hdg fun H1 z hz e1 e2 => ?_
      refine hK _ _ _ _ hw H1 (locs ++ [z]) ls ⟨Rel_set hE hR hV e2 (fun t' k' i' s' hn => up_ne hn) (RC_put hn2.1 hbn (by rw [ofs_up hbn (by show _ = conc ad (gfv _ t k i b b); unfold gfv; rw [hkd, up_at, if_pos rfl]; rfl)] at e1; exact e1)), RO_put hE hV e2 hO, Cn_up hC (by rw [if_neg (fun q => kd0 hn2.1 hbn (Or.inl hkd) q)]; exact h32), hLH, hN, hOL, oktail (oktail hOs), ?_⟩
      intro q hq
      rcases List.mem_append.mp hq with h | h
      · exact hlc q h
      · rw [List.mem_singleton.mp h, hz]; exact hE.2.1 _ hV
    · have hw : (x = 0 ∨ x = 1) ∧ K (pc + 3, L, r, up σ t k i (b : Int) x) := hw
      intro H locs ls hI
      obtain ⟨hR, hO, hC, hLH, hN, hOL, hOs, hlc⟩ := id hI
      have h32 : in32 x := okhead hOs
      have hV := V_obj (okhead (oktail hOs)) hn2.1
      obtain ⟨ty, hfin⟩ := t_1 hn2.1 hbn hkd
      refine r_put hx hb hts hown hS hR hV hn2.1 hbn hl hfin (by rw [ty]; exact n_nar hw.1) (by rw [ty]; exact n_fitZ hw.1) hdg fun H1 z hz e1 e2 => ?_
      refine hK _ _ _ _ hw.2 H1 (locs ++ [z]) ls ⟨Rel_set hE hR hV e2 (fun t' k' i' s' hn => up_ne hn) (RC_put hn2.1 hbn (by rw [ofs_up hbn (by show _ = conc ad (gfv _ t k i b b); unfold gfv; rw [hkd, up_at, if_pos rfl, bz_01 hw.1]; rfl)] at e1; exact e1)), RO_put hE hV e2 hO, Cn_up hC (by rw [if_neg (fun q => kd0 hn2.1 hbn (Or.inr hkd) q)]; exact h32), hLH, hN, hOL, oktail (oktail hOs), ?_⟩
      intro q hq
      rcases List.mem_append.mp hq with h | h
      · exact hlc q h
      · rw [List.mem_singleton.mp h, hz]; exact hE.2.1 _ hV
  · obtain ⟨hx, hb, hml, hown, hts, hr, hlk⟩ := id hF
    simp only [okI, Bool.and_eq_true] at hk
    obtain ⟨hlen, hbc, hany⟩ := hk
    obtain rfl : len = 3 := Nat.eq_of_beq_eq_true hlen
    obtain rfl : b = c1 := Nat.eq_of_beq_eq_true hbc
    obtain ⟨z, hz, hz2⟩ := List.any_eq_true.mp hany
    simp only [Bool.and_eq_true] at hz2
    obtain ⟨g1, g2, g3, g4⟩ := hz2
    have g1 := Nat.eq_of_beq_eq_true g1
    have g2 := Nat.eq_of_beq_eq_true g2
    have g3 := Nat.eq_of_beq_eq_true g3
    have g4 := Nat.eq_of_beq_eq_true g4
    have hl := hts _ (tb_at (List.all_eq_true.mp okFS_ z hz))
    have hn2 := List.all_eq_true.mp okFS2_ z hz
    simp only [Bool.and_eq_true, Nat.blt_eq] at hn2
    rw [g1, g2, g3, g4] at hl
    rw [g3, g4] at hn2
    replace hw : run1 K C Q (bif Nat.beq (cof t) a1 then (match kd t b with
        | 2 => nx (pc + 3) L r (up σ t k i (b : Int) x)
        | _ => none) else none) := hw
    rcases hh : Nat.beq (cof t) a1 with _ | _ <;> rw [hh] at hw <;> first | exact False.elim hw | skip
    obtain rfl : cof t = a1 := Nat.eq_of_beq_eq_true hh
    have hbn : b < nfd t := by rw [t_n hn2.1, cNn_eq hn2.1]; exact hn2.2
    rcases hkd : kd t b with _ | _ | _ | kk <;> rw [hkd] at hw <;> first | exact False.elim hw | skip
    · have hw : K (pc + 3, L, r, up σ t k i (b : Int) x) := hw
      intro H locs ls hI
      obtain ⟨hR, hO, hC, hLH, hN, hOL, hOs, hlc⟩ := id hI
      have h64 : in64 x := okhead hOs
      have hV := V_obj (okhead (oktail hOs)) hn2.1
      obtain ⟨ty, hfin, e40, e8⟩ := t_2 hn2.1 hbn hkd
      refine r_put hx hb hts hown hS hR hV hn2.1 hbn hl hfin (by rw [ty]; rfl) (by rw [ty]; rfl) hdg fun H1 z hz e1 e2 => ?_
      refine hK _ _ _ _ hw H1 (locs ++ [z]) ls ⟨Rel_set hE hR hV e2 (fun t' k' i' s' hn => up_ne hn) (RC_put hn2.1 hbn (by rw [ofs_up hbn (by show _ = conc ad (gfv _ t k i b b); unfold gfv; rw [hkd, up_at, if_pos rfl]; rfl)] at e1; exact e1)), RO_put hE hV e2 hO, Cn_up hC (by rw [if_pos ⟨e40, by rw [e8]; rfl⟩]; exact h64), hLH, hN, hOL, oktail (oktail hOs), ?_⟩
      intro q hq
      rcases List.mem_append.mp hq with h | h
      · exact hlc q h
      · rw [List.mem_singleton.mp h, hz]; exact hE.2.1 _ hV
theorem s_iaload (hK : ∀ pc' L' st' σ', K (pc', L', st', σ') → WG D dA ad VW b0 adK adV adT p l e s m args below meth c a Q pc' L' st' σ') (hF : FX a p s m args meth c) (hS : VS D dA adK s) (hE : EV ad VW b0 adK adT) (hk : okI a (pc, .iaload, len, a1, b, c1, v) = true) (hdg : decode (iB a) pc = .ok (.iaload, len)) (hw : run1 K C Q (stepI (hlm a) (rkm a) rkm (pc, .iaload, len, a1, b, c1, v) pc L st σ)) : WG D dA ad VW b0 adK adV adT p l e s m args below meth c a Q pc L st σ := by
  rcases st with _ | ⟨j | j | j, _ | ⟨y | y | ⟨t, k, i⟩, r⟩⟩ <;> first | exact False.elim hw | skip
  obtain ⟨hx, hb, hml, hown, hts, hr, hlk⟩ := id hF
  obtain rfl : len = 1 := Nat.eq_of_beq_eq_true hk
  replace hw : run1 K C Q (match ek t with
    | 0 => nxg (0 ≤ j ∧ j < al t) (pc + 1) L (.inl (σ t k i j) :: r) σ
    | 7 => nxg (0 ≤ j ∧ j < al t) (pc + 1) L (.inl (stv t j) :: r) σ
    | _ => none) := hw
  by_cases h0 : ek t = 0
  · rw [h0] at hw
    have hw : (0 ≤ j ∧ j < al t) ∧ K (pc + 1, L, .inl (σ t k i j) :: r, σ) := hw
    intro H locs ls hI
    obtain ⟨hR, hO, hC, hLH, hN, hOL, hOs, hlc⟩ := id hI
    have hV := V_arr (okhead (oktail hOs)) (by rw [h0]; exact ⟨by decide, by decide⟩)
    refine r_iald hx hb hS hR hV h0 hw.1.1 hw.1.2 hdg ?_
    exact hK _ _ _ _ hw.2 H locs ls ⟨hR, hO, hC, hLH, hN, hOL, okcons (Cn_in hC (fun q => ek40 h0 q.1)) (oktail (oktail hOs)), hlc⟩
  · by_cases h7 : ek t = 7
    · rw [h7] at hw
      have hw : (0 ≤ j ∧ j < al t) ∧ K (pc + 1, L, .inl (stv t j) :: r, σ) := hw
      intro H locs ls hI
      obtain ⟨hR, hO, hC, hLH, hN, hOL, hOs, hlc⟩ := id hI
      show W p l e (RMx a) s m args below meth c H locs 0 0 _ (F0 m pc ls (.int (Int32.ofInt j) :: .ref (ad (t, k, i)) :: r.map (conc ad)))
      rw [hE.2.2.2.2.2 t k i h7]
      refine r_sald hx hb hO h7 hw.1.1 hw.1.2 hdg ?_
      exact hK _ _ _ _ hw.2 H locs ls ⟨hR, hO, hC, hLH, hN, hOL, okcons (stv_in h7 hw.1.1 hw.1.2) (oktail (oktail hOs)), hlc⟩
    · exfalso
      split at hw
      · exact h0 (by assumption)
      · exact h7 (by assumption)
      · exact hw
theorem s_baload (hK : ∀ pc' L' st' σ', K (pc', L', st', σ') → WG D dA ad VW b0 adK adV adT p l e s m args below meth c a Q pc' L' st' σ') (hF : FX a p s m args meth c) (hS : VS D dA adK s) (hE : EV ad VW b0 adK adT) (hk : okI a (pc, .baload, len, a1, b, c1, v) = true) (hdg : decode (iB a) pc = .ok (.baload, len)) (hw : run1 K C Q (stepI (hlm a) (rkm a) rkm (pc, .baload, len, a1, b, c1, v) pc L st σ)) : WG D dA ad VW b0 adK adV adT p l e s m args below meth c a Q pc L st σ := by
  rcases st with _ | ⟨j | j | j, _ | ⟨y | y | ⟨t, k, i⟩, r⟩⟩ <;> first | exact False.elim hw | skip
  obtain ⟨hx, hb, hml, hown, hts, hr, hlk⟩ := id hF
  obtain rfl : len = 1 := Nat.eq_of_beq_eq_true hk
  replace hw : run1 K C Q (match ek t with
    | 1 => nxg (0 ≤ j ∧ j < al t) (pc + 1) L (.inl (bz (σ t k i j)) :: r) σ
    | _ => none) := hw
  by_cases h0 : ek t = 1
  · rw [h0] at hw
    have hw : (0 ≤ j ∧ j < al t) ∧ K (pc + 1, L, .inl (bz (σ t k i j)) :: r, σ) := hw
    intro H locs ls hI
    obtain ⟨hR, hO, hC, hLH, hN, hOL, hOs, hlc⟩ := id hI
    have hV := V_arr (okhead (oktail hOs)) (by rw [h0]; exact ⟨by decide, by decide⟩)
    refine r_bald hx hb hS hR hV h0 hw.1.1 hw.1.2 hdg ?_
    exact hK _ _ _ _ hw.2 H locs ls ⟨hR, hO, hC, hLH, hN, hOL, okcons (in32_01 (n_bz _)) (oktail (oktail hOs)), hlc⟩
  · exfalso
    split at hw
    · exact h0 (by assumption)
    · exact hw
theorem s_aaload (hK : ∀ pc' L' st' σ', K (pc', L', st', σ') → WG D dA ad VW b0 adK adV adT p l e s m args below meth c a Q pc' L' st' σ') (hF : FX a p s m args meth c) (hS : VS D dA adK s) (hE : EV ad VW b0 adK adT) (hk : okI a (pc, .aaload, len, a1, b, c1, v) = true) (hdg : decode (iB a) pc = .ok (.aaload, len)) (hw : run1 K C Q (stepI (hlm a) (rkm a) rkm (pc, .aaload, len, a1, b, c1, v) pc L st σ)) : WG D dA ad VW b0 adK adV adT p l e s m args below meth c a Q pc L st σ := by
  rcases st with _ | ⟨j | j | j, _ | ⟨y | y | ⟨t, k, i⟩, r⟩⟩ <;> first | exact False.elim hw | skip
  obtain ⟨hx, hb, hml, hown, hts, hr, hlk⟩ := id hF
  obtain rfl : len = 1 := Nat.eq_of_beq_eq_true hk
  replace hw : run1 K C Q (match ek t with
    | 3 => nxg (0 ≤ j ∧ j < al t) (pc + 1) L (.inr (.inr (cha t k j)) :: r) σ
    | _ => none) := hw
  by_cases h0 : ek t = 3
  · rw [h0] at hw
    have hw : (0 ≤ j ∧ j < al t) ∧ K (pc + 1, L, .inr (.inr (cha t k j)) :: r, σ) := hw
    intro H locs ls hI
    obtain ⟨hR, hO, hC, hLH, hN, hOL, hOs, hlc⟩ := id hI
    have hV := V_arr (okhead (oktail hOs)) (by rw [h0]; exact ⟨by decide, by decide⟩)
    refine r_aald hx hb hS hR hV h0 hw.1.1 hw.1.2 hdg ?_
    exact hK _ _ _ _ hw.2 H locs ls ⟨hR, hO, hC, hLH, hN, hOL, okcons (Or.inl (hE.2.2.2.1 t k i j hV h0 hw.1.1 hw.1.2)) (oktail (oktail hOs)), hlc⟩
  · exfalso
    split at hw
    · exact h0 (by assumption)
    · exact hw
theorem s_iastore (hK : ∀ pc' L' st' σ', K (pc', L', st', σ') → WG D dA ad VW b0 adK adV adT p l e s m args below meth c a Q pc' L' st' σ') (hF : FX a p s m args meth c) (hS : VS D dA adK s) (hE : EV ad VW b0 adK adT) (hk : okI a (pc, .iastore, len, a1, b, c1, v) = true) (hdg : decode (iB a) pc = .ok (.iastore, len)) (hw : run1 K C Q (stepI (hlm a) (rkm a) rkm (pc, .iastore, len, a1, b, c1, v) pc L st σ)) : WG D dA ad VW b0 adK adV adT p l e s m args below meth c a Q pc L st σ := by
  rcases st with _ | ⟨x | x | x, _ | ⟨j | j | j, _ | ⟨y | y | ⟨t, k, i⟩, r⟩⟩⟩ <;> first | exact False.elim hw | skip
  obtain ⟨hx, hb, hml, hown, hts, hr, hlk⟩ := id hF
  obtain rfl : len = 1 := Nat.eq_of_beq_eq_true hk
  replace hw : run1 K C Q (match ek t with
    | 0 => nxg (0 ≤ j ∧ j < al t) (pc + 1) L r (up σ t k i j x)
    | _ => none) := hw
  by_cases h0 : ek t = 0
  · rw [h0] at hw
    have hw : (0 ≤ j ∧ j < al t) ∧ K (pc + 1, L, r, up σ t k i j x) := hw
    intro H locs ls hI
    obtain ⟨hR, hO, hC, hLH, hN, hOL, hOs, hlc⟩ := id hI
    have h32 : in32 x := okhead hOs
    have hV := V_arr (okhead (oktail (oktail hOs))) (by rw [h0]; exact ⟨by decide, by decide⟩)
    refine r_iast hx hb hE hS hR hO hV h0 (ekc (by rw [h0]; decide)) hw.1.1 hw.1.2 hdg fun H1 z hz g1 g2 => ?_
    refine hK _ _ _ _ hw.2 H1 (locs ++ [z]) ls ⟨g1, g2, Cn_up hC (by rw [if_neg (fun q => ek40 h0 q.1)]; exact h32), hLH, hN, hOL, oktail (oktail (oktail hOs)), ?_⟩
    intro q hq
    rcases List.mem_append.mp hq with h | h
    · exact hlc q h
    · rw [List.mem_singleton.mp h]; exact hz
  · exfalso
    split at hw
    · exact h0 (by assumption)
    · exact hw
theorem s_bastore (hK : ∀ pc' L' st' σ', K (pc', L', st', σ') → WG D dA ad VW b0 adK adV adT p l e s m args below meth c a Q pc' L' st' σ') (hF : FX a p s m args meth c) (hS : VS D dA adK s) (hE : EV ad VW b0 adK adT) (hk : okI a (pc, .bastore, len, a1, b, c1, v) = true) (hdg : decode (iB a) pc = .ok (.bastore, len)) (hw : run1 K C Q (stepI (hlm a) (rkm a) rkm (pc, .bastore, len, a1, b, c1, v) pc L st σ)) : WG D dA ad VW b0 adK adV adT p l e s m args below meth c a Q pc L st σ := by
  rcases st with _ | ⟨x | x | x, _ | ⟨j | j | j, _ | ⟨y | y | ⟨t, k, i⟩, r⟩⟩⟩ <;> first | exact False.elim hw | skip
  obtain ⟨hx, hb, hml, hown, hts, hr, hlk⟩ := id hF
  obtain rfl : len = 1 := Nat.eq_of_beq_eq_true hk
  replace hw : run1 K C Q (match ek t with
    | 1 => nxg ((0 ≤ j ∧ j < al t) ∧ (x = 0 ∨ x = 1)) (pc + 1) L r (up σ t k i j x)
    | _ => none) := hw
  by_cases h0 : ek t = 1
  · rw [h0] at hw
    have hw : ((0 ≤ j ∧ j < al t) ∧ (x = 0 ∨ x = 1)) ∧ K (pc + 1, L, r, up σ t k i j x) := hw
    intro H locs ls hI
    obtain ⟨hR, hO, hC, hLH, hN, hOL, hOs, hlc⟩ := id hI
    have h32 : in32 x := okhead hOs
    have hV := V_arr (okhead (oktail (oktail hOs))) (by rw [h0]; exact ⟨by decide, by decide⟩)
    refine r_bast hx hb hE hS hR hO hV h0 (ekc (by rw [h0]; decide)) hw.1.1.1 hw.1.1.2 hw.1.2 hdg fun H1 z hz g1 g2 => ?_
    refine hK _ _ _ _ hw.2 H1 (locs ++ [z]) ls ⟨g1, g2, Cn_up hC (by rw [if_neg (fun q => ek41 h0 q.1)]; exact h32), hLH, hN, hOL, oktail (oktail (oktail hOs)), ?_⟩
    intro q hq
    rcases List.mem_append.mp hq with h | h
    · exact hlc q h
    · rw [List.mem_singleton.mp h]; exact hz
  · exfalso
    split at hw
    · exact h0 (by assumption)
    · exact hw
theorem s_ireturn (hK : ∀ pc' L' st' σ', K (pc', L', st', σ') → WG D dA ad VW b0 adK adV adT p l e s m args below meth c a Q pc' L' st' σ') (hF : FX a p s m args meth c) (hS : VS D dA adK s) (ha : a < 334) (hk : okI a (pc, .ireturn, len, a1, b, c1, v) = true) (hdg : decode (iB a) pc = .ok (.ireturn, len)) (hw : run1 K C Q (stepI (hlm a) (rkm a) rkm (pc, .ireturn, len, a1, b, c1, v) pc L st σ)) : WG D dA ad VW b0 adK adV adT p l e s m args below meth c a Q pc L st σ := by
  rcases st with _ | ⟨x | x | x, _ | ⟨y, r⟩⟩ <;> first | exact False.elim hw | skip
  obtain ⟨hx, hb, hml, hown, hts, hr, hlk⟩ := id hF
  obtain rfl : len = 1 := Nat.eq_of_beq_eq_true hk
  have hM := okM_lt a ha
  simp only [okM, Bool.and_eq_true] at hM
  have hrk := hM.2.1
  replace hw : run1 K C Q (match rkm a with
      | 0 => some (none, .inr (.inr (.inr (.inr (some (.inl x), σ)))))
      | 1 => some (some (x = 0 ∨ x = 1), .inr (.inr (.inr (.inr (some (.inl x), σ)))))
      | _ => none) := hw
  rcases hh : rkm a with _ | _ | z <;> rw [hh] at hw hrk <;> first | exact False.elim hw | skip
  · have hw : Q (some (.inl x)) σ := hw
    have hi : iR a = some .int := by
      rcases hi : iR a with _ | ty
      · rw [hi] at hrk; cases hrk
      · rw [hi] at hrk; cases ty <;> first | rfl | (exact absurd hrk (by simp [okR]))
    intro H locs ls hI
    obtain ⟨hR, hO, hC, hLH, hN, hOL, hOs, hlc⟩ := id hI
    exact W.iret hx hb (hr.trans hi) (fun t ht hW => ⟨some (.inl x), σ, rfl, hw, by rw [ht]; exact hR, by rw [ht]; exact hO.moved hW.alike, hC, fun v hv => by cases hv; exact okhead hOs⟩) hlc hdg
  · have hw : (x = 0 ∨ x = 1) ∧ Q (some (.inl x)) σ := hw
    have hi : iR a = some .boolean := by
      rcases hi : iR a with _ | ty
      · rw [hi] at hrk; cases hrk
      · rw [hi] at hrk; cases ty <;> first | rfl | (exact absurd hrk (by simp [okR]))
    intro H locs ls hI
    obtain ⟨hR, hO, hC, hLH, hN, hOL, hOs, hlc⟩ := id hI
    exact W.zret hx hb (hr.trans hi) (n_nar hw.1) (fun t ht hW => ⟨some (.inl x), σ, rfl, hw.2, by rw [ht]; exact hR, by rw [ht]; exact hO.moved hW.alike, hC, fun v hv => by cases hv; exact okhead hOs⟩) hlc hdg
theorem s_lreturn (hK : ∀ pc' L' st' σ', K (pc', L', st', σ') → WG D dA ad VW b0 adK adV adT p l e s m args below meth c a Q pc' L' st' σ') (hF : FX a p s m args meth c) (hS : VS D dA adK s) (ha : a < 334) (hk : okI a (pc, .lreturn, len, a1, b, c1, v) = true) (hdg : decode (iB a) pc = .ok (.lreturn, len)) (hw : run1 K C Q (stepI (hlm a) (rkm a) rkm (pc, .lreturn, len, a1, b, c1, v) pc L st σ)) : WG D dA ad VW b0 adK adV adT p l e s m args below meth c a Q pc L st σ := by
  rcases st with _ | ⟨x | x | x, _ | ⟨y, r⟩⟩ <;> first | exact False.elim hw | skip
  obtain ⟨hx, hb, hml, hown, hts, hr, hlk⟩ := id hF
  obtain rfl : len = 1 := Nat.eq_of_beq_eq_true hk
  have hM := okM_lt a ha
  simp only [okM, Bool.and_eq_true] at hM
  have hrk := hM.2.1
  replace hw : run1 K C Q (match rkm a with
      | 2 => some (none, .inr (.inr (.inr (.inr (some (.inr (.inl x)), σ)))))
      | _ => none) := hw
  by_cases hh : rkm a = 2
  · rw [hh] at hw hrk
    have hw : Q (some (.inr (.inl x))) σ := hw
    have hi : iR a = some .long := by
      rcases hi : iR a with _ | ty
      · rw [hi] at hrk; cases hrk
      · rw [hi] at hrk; cases ty <;> first | rfl | (exact absurd hrk (by simp [okR]))
    intro H locs ls hI
    obtain ⟨hR, hO, hC, hLH, hN, hOL, hOs, hlc⟩ := id hI
    exact W.lret hx hb (hr.trans hi) (fun t ht hW => ⟨some (.inr (.inl x)), σ, rfl, hw, by rw [ht]; exact hR, by rw [ht]; exact hO.moved hW.alike, hC, fun v hv => by cases hv; exact okhead hOs⟩) hlc hdg
  · exfalso
    split at hw
    · exact hh (by assumption)
    · exact hw
theorem s_areturn (hK : ∀ pc' L' st' σ', K (pc', L', st', σ') → WG D dA ad VW b0 adK adV adT p l e s m args below meth c a Q pc' L' st' σ') (hF : FX a p s m args meth c) (hS : VS D dA adK s) (ha : a < 334) (hk : okI a (pc, .areturn, len, a1, b, c1, v) = true) (hdg : decode (iB a) pc = .ok (.areturn, len)) (hw : run1 K C Q (stepI (hlm a) (rkm a) rkm (pc, .areturn, len, a1, b, c1, v) pc L st σ)) : WG D dA ad VW b0 adK adV adT p l e s m args below meth c a Q pc L st σ := by
  rcases st with _ | ⟨x | x | x, _ | ⟨y, r⟩⟩ <;> first | exact False.elim hw | skip
  obtain ⟨hx, hb, hml, hown, hts, hr, hlk⟩ := id hF
  obtain rfl : len = 1 := Nat.eq_of_beq_eq_true hk
  have hM := okM_lt a ha
  simp only [okM, Bool.and_eq_true] at hM
  have hrk := hM.2.1
  replace hw : run1 K C Q (match rkm a with
      | 3 => some (none, .inr (.inr (.inr (.inr (some (.inr (.inr x)), σ)))))
      | _ => none) := hw
  by_cases hh : rkm a = 3
  · rw [hh] at hw hrk
    have hw : Q (some (.inr (.inr x))) σ := hw
    have hi : ∃ n, iR a = some (.object n) := by
      rcases hi : iR a with _ | ty
      · rw [hi] at hrk; cases hrk
      · rw [hi] at hrk; cases ty <;> first | exact ⟨_, rfl⟩ | (exact absurd hrk (by simp [okR]))
    obtain ⟨n, hi⟩ := hi
    intro H locs ls hI
    obtain ⟨hR, hO, hC, hLH, hN, hOL, hOs, hlc⟩ := id hI
    exact W.aret hx hb (hr.trans hi) (Or.inl ⟨n, rfl⟩) (Or.inr ⟨_, rfl⟩) (fun t ht hW => ⟨some (.inr (.inr x)), σ, rfl, hw, by rw [ht]; exact hR, by rw [ht]; exact hO.moved hW.alike, hC, fun v hv => by cases hv; exact okhead hOs⟩) hlc hdg
  · exfalso
    split at hw
    · exact hh (by assumption)
    · exact hw
theorem s_return_ (hK : ∀ pc' L' st' σ', K (pc', L', st', σ') → WG D dA ad VW b0 adK adV adT p l e s m args below meth c a Q pc' L' st' σ') (hF : FX a p s m args meth c) (hS : VS D dA adK s) (ha : a < 334) (hk : okI a (pc, .return_, len, a1, b, c1, v) = true) (hdg : decode (iB a) pc = .ok (.return_, len)) (hw : run1 K C Q (stepI (hlm a) (rkm a) rkm (pc, .return_, len, a1, b, c1, v) pc L st σ)) : WG D dA ad VW b0 adK adV adT p l e s m args below meth c a Q pc L st σ := by
  rcases st with _ | ⟨x | x | x, r⟩ <;> first | exact False.elim hw | skip
  obtain ⟨hx, hb, hml, hown, hts, hr, hlk⟩ := id hF
  obtain rfl : len = 1 := Nat.eq_of_beq_eq_true hk
  have hM := okM_lt a ha
  simp only [okM, Bool.and_eq_true] at hM
  have hrk := hM.2.1
  replace hw : run1 K C Q (match rkm a with
      | 4 => some (none, .inr (.inr (.inr (.inr (none, σ)))))
      | _ => none) := hw
  by_cases hh : rkm a = 4
  · rw [hh] at hw hrk
    have hw : Q none σ := hw
    have hi : iR a = none := by
      rcases hi : iR a with _ | ty
      · rfl
      · rw [hi] at hrk; exact absurd hrk (by simp [okR])
    intro H locs ls hI
    obtain ⟨hR, hO, hC, hLH, hN, hOL, hOs, hlc⟩ := id hI
    exact W.vret hx hb (hr.trans hi) (fun t ht hW => ⟨none, σ, rfl, hw, by rw [ht]; exact hR, by rw [ht]; exact hO.moved hW.alike, hC, fun v hv => by cases hv⟩) hlc hdg
  · exfalso
    split at hw
    · exact hh (by assumption)
    · exact hw
end STEPS
