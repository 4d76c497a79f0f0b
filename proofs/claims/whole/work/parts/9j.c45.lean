/-! the law's case of spell -/
section SP45
variable {D : va_G} {dA : Nat → ClassId} {DB : va_G} {dB : ClassId} {b0 : Nat} {adK adV adT : Nat → Nat} {adD : Nat}
variable {p : Program} {l : Launch} {e : Env} {R : Room} {s : State} {m : MethodId} {b : Nat} {args : Array Value} {below : List Frame} {meth : Method} {c : Code} {H : Heap} {locs : List Loc} {cells slots : Nat} {Q : State → Prop}
variable {L : Nat} {xs : Nat → Int32} {dL : ClassId} {pc : Nat} {ls : Array Slot} {rest : List Value}
theorem WD_at {H : Heap} (hW : WD b0 adK adV adT adD s s.heap) (hold : ∀ (q : Nat) (c : Cell), s.heap[q]? = some c → H[q]? = some c) : WD b0 adK adV adT adD s H := hW.kept fun a c hc _ => hold a c hc
theorem FR_old {H H1 : Heap} (hb0 : s.heap.size = b0) (hold : ∀ (q : Nat) (c : Cell), s.heap[q]? = some c → H[q]? = some c) (h : FR b0 H H1) : ∀ (q : Nat) (c : Cell), s.heap[q]? = some c → H1[q]? = some c := old_kept hold hb0 h
theorem sp_run {σ : ST} {st0 : List Value} {x : Int} {a0 : Array Value} (hr : va_Run p l e R s m args below meth c H locs cells slots 2 20 (F0 m pc ls st0) rest (QXS D dA b0 adK adV adT σ x a0) (fun q => A0 b0 q ∨ H.size ≤ q))
    (kk : ∀ (H1 : Heap) (L1 : List Loc), Rel D dA (adr b0 adK adT) VW0 σ H1 → FR b0 H H1 → (∀ q ∈ L1, A0 b0 q.base ∨ H.size ≤ q.base) → W p l e R s m args below meth c H1 (locs ++ L1) (cells + 2) (slots + 20) Q (F0 m (pc + 3) ls (.int (Int32.ofInt x) :: rest))) : W p l e R s m args below meth c H locs cells slots Q (F0 m pc ls st0) := by
  intro T hT X
  obtain ⟨v, st₀, t, T', L1, h0, X', hL, e1, e2, ⟨hv, hR1, hfr⟩, st⟩ := hr T hT X
  have hv' : v = some (.int (Int32.ofInt x)) := by injection hv
  subst hv'
  obtain ⟨t2, a1, b1⟩ := kk T'.heap L1 (by rw [e1]; exact hR1) (by rw [e1, ← h0]; exact hfr) hL T' rfl X'
  exact ⟨t2, st t2 a1, b1⟩
theorem l_spell45 (hF : LF p s m b meth c) (hS : VS D dA adK s) (hK : KD DB dB adK s) (hW : WD b0 adK adV adT adD s s.heap) (hb0 : s.heap.size = b0) (hbl : b < b0) (hL : L ≤ 3072) (hR1 : R.frames = 13 ∧ R.locals = 496) : LCase D dA b0 adK adV adT p l e R s m b below meth c Q L xs dL 1832 := by
  intro σ nn H i ls cells slots hI hn hi hls hf kk
  obtain ⟨hR, hO, hC, hV, hX1, ⟨f, hout⟩, hold⟩ := hI
  obtain ⟨P, g, hIV⟩ := id hV
  obtain ⟨g0, g1, g2, g3, g4, g5⟩ := hls.g
  obtain ⟨hx, hb, hml, hown, hts⟩ := id hF
  have hsz : b0 + 2762 ≤ H.size := by
    have := (Array.getElem?_eq_some_iff.mp hout).1
    omega
  have hWH : WD b0 adK adV adT adD s H := WD_at hW hold
  refine lv_aload_n hx hb (lD_of (ins := .aload_n 1) (len := 1) (by decide +kernel)) rfl g2 (l_args (hx := hx) (hb := hb) (ad := adr b0 adK adT) hX1 hL g1 g5 2 1 1833 _ (by omega) (by decide +kernel) ?_)
  have hr1 := va_runV (p := p) (l := l) (e := e) (R := R) (s := s) (m := m) (args := #[Value.ref b]) (below := below) (meth := meth) (c := c) (H := H) (locs := []) (cells := cells) (slots := slots) (g := F0 m 1845 ls (((argA xs i 1 2).map (conc (adr b0 adK adT))).reverse ++ [.ref b0])) (own := "ClosedRoomsLaw") (C := "ClosedRooms") (index := 211) (y := yX_spell) (b := adr b0 adK adT (0, 0, 0)) (n := 2) (As := [.int (Int32.ofInt (xs (i + 1)).toInt), .int (Int32.ofInt (xs (i + 2)).toInt)]) (rest := [])
    ⟨hx, hb, hml, hown, hts⟩ (m_X_spell (D := D) (dA := dA) (DB := DB) (dB := dB) (adV := adV) (adD := adD) l hIV (i32_in (xs (i + 1))) (i32_in (xs (i + 2))) hsz)
    ⟨callB_of 2 hts (gw_code (tb_at (h := 5178) (by decide +kernel))) rfl rfl rfl (hts _ (tb_at (h := 1001) (by decide +kernel))) (hts _ (tb_at (h := 5175) (by decide +kernel))) (by decide +kernel) ⟨(by show 5 + 1 ≤ R.frames; omega), (by show 8 + (5 + 11) + 200 ≤ R.locals; omega)⟩, hts _ (tb_at (h := 5176) (by decide +kernel)), hts _ (tb_at (h := 5177) (by decide +kernel))⟩
    ⟨PR0_blind, recv hS hR vw_X (by decide), fun U hU hW' => PR0_at hS hK hR hWH hC rfl U hU hW'⟩ rfl rfl g0 (by rw [ad_X]; rfl) (by show 2 * 0 + _ ≤ 8; decide) (by decide +kernel : decode code 1845 = .ok (.invokevirtual 211, 3)) ⟨by omega, by omega⟩
  refine sp_run hr1 fun H1 L1 hRel1 hfr hL1 => ?_
  refine va_forget (fun q h => by rw [hb0]; exact (hL1 q h).elim (fun z => z.1) (fun z => by omega)) ?_
  have hX2 := X_kept hX1 hbl hfr
  have hO1 : RO b0 adK adV adT s H1 := RB_RO (hfr.WD hWH).1
  refine lv_aload_n hx hb (lD_of (ins := .aload_n 2) (len := 1) (by decide +kernel : lD 1848 (.aload_n 2) 1 = true)) rfl g3 (l_args (hx := hx) (hb := hb) (ad := adr b0 adK adT) hX2 hL g1 g5 2 1 1849 _ (by omega) (by decide +kernel) ?_)
  rw [show (Value.ref (b0 + 2749) :: [Value.int (Int32.ofInt (v_spell (xs (i + 1)).toInt (xs (i + 2)).toInt σ P g))] : List Value) = Value.ref (adr b0 adK adT (40, 0, 0)) :: [.int (Int32.ofInt (v_spell (xs (i + 1)).toInt (xs (i + 2)).toInt σ P g))] by rw [ad_Z]]
  refine l_call (l := l) (adV := adV) (a := m_Z_spell) (ix := 214) (h := 10001) (n := 2) (cl := 10) hF hS hRel1 hO1 hC vw_Z rfl (by decide) (by decide +kernel) (argA_len xs i 2 1) (argA_cats xs i 2 1) (argA_ok xs i 2 1) (Z_rd_spell hIV (xs (i + 1)).toInt (xs (i + 2)).toInt (fun r' s' => r' = some (.inl (v_spell (xs (i + 1)).toInt (xs (i + 2)).toInt σ P g)) ∧ s' = σ) ⟨rfl, rfl⟩) hR1 (by show 1 ≤ 8; decide) g0 ⟨by omega, by omega⟩ (fun q h => by cases h) (lD_of (ins := .invokevirtual 214) (len := 3) (by decide +kernel : lD 1861 (.invokevirtual 214) 3 = true)) fun r2 σ2 H2 locs2 hq2 hR2 hO2 hC2 ho2 hfr2 hl2 => ?_
  obtain ⟨rfl, rfl⟩ := hq2
  refine va_forget (fun q h => by rw [hb0]; exact (hl2 q h).1) ?_
  refine lv_icmp_eq (tgt := 2056) hx hb (lD_of (ins := .if_icmp .eq 192) (len := 3) (by decide +kernel : lD 1864 (.if_icmp .eq 192) 3 = true)) (by decide) (fun _ => ?_) (fun q => absurd rfl q)
  exact W.widen (by omega) (by omega) (kk σ2 H2 ls ⟨hR2, hO2, hC2, hV.mono (by omega) (by omega), X_kept hX2 hbl hfr2, ⟨f, out_kept (out_kept hout hfr) hfr2⟩, old_kept (old_kept hold hb0 hfr) hb0 hfr2⟩ hls)
end SP45
