/-! the law's run: both objects made, the loop, its end -/
section RUN
variable {D : va_G} {dA : Nat → ClassId} {p : Program} {l : Launch} {e : Env} {R : Room} {s : State} {m : MethodId} {args : Array Value} {below : List Frame} {meth : Method} {c : Code} {H : Heap} {locs : List Loc} {cells slots : Nat} {Q : State → Prop}
variable {pc : Nat} {ls : Array Slot} {rest : List Value}
theorem c_run {q0 z mc ms ci : Nat} {r : CS} {a0 : Array Value} {st0 : List Value} (hr : va_Run p l e R s m args below meth c H locs cells slots mc ms (F0 m pc ls st0) rest (KQ D dA q0 z ci r a0) (KA q0 z))
    (kk : ∀ (H1 : Heap) (L1 : List Loc), HN D dA q0 z ci r H1 → (∀ q : Nat, q < z → q ≠ q0 → H1[q]? = H[q]?) → (∀ q ∈ L1, KA q0 z q.base) → W p l e R s m args below meth c H1 (locs ++ L1) (cells + mc) (slots + ms) Q (F0 m (pc + 3) ls rest)) : W p l e R s m args below meth c H locs cells slots Q (F0 m pc ls st0) := by
  intro T hT X
  obtain ⟨v, st₀, t, T', L1, h0, X', hL, e1, e2, ⟨hv, hn, hfr⟩, st⟩ := hr T hT X
  have hv' : v = none := by injection hv
  subst hv'
  obtain ⟨t2, a1, b1⟩ := kk T'.heap L1 (by rw [e1]; exact hn) (by rw [e1, ← h0]; exact hfr) hL T' rfl X'
  exact ⟨t2, st t2 a1, b1⟩
end RUN
/-- from the entry, for every script of at most 3072 ints, the law comes to its end with true -/
theorem whole_start {p : Program} {e : Env} {s : State} {m : MethodId} {below : List Frame} {meth : Method} {c : Code} (l : Launch) (hflags : l.flags = flags0) {b L : Nat} {xs : Nat → Int32} (hL : L ≤ 3072) (C0 : lw_At p s m meth c b L xs) : W p l e room_1 s m #[Value.ref b] below meth c s.heap [] 0 0 (lw_Z below #[Value.ref b] s) (entryFrame m ([Value.ref b] : List Value).toArray 7) := by
  obtain ⟨hx, hb, hr, hml, hown, hT, hX, hbl, hlocks, hgv⟩ := id C0
  have hts : ∀ x ∈ TB, x.before #[Value.ref b] s = true := fun x hx => hT x (List.mem_filter.mp hx).1
  have hN : narrow_1.before #[Value.ref b] s = true := by
    rw [Cond.before_and, Bool.and_eq_true] at hgv
    exact hgv.2
  have hlt : l.stackTraces = false := by
    unfold Launch.stackTraces
    rw [hflags]
    decide
  obtain ⟨adK, adV, adT, adD, hWD, hE⟩ := W_beg hT hN
  obtain ⟨D, dA, hS, hV⟩ := V_beg hT hN hE
  obtain ⟨DB, dB, hK⟩ := K_beg hT hE
  obtain ⟨b0, hb0⟩ : ∃ z, s.heap.size = z := ⟨_, rfl⟩
  rw [hb0] at hWD hbl
  have hown' : s.vm.findClass "ClosedRoomsLaw" = some m.cls := hown
  have hF : LF p s m b meth c := ⟨hx, hb, hml, hown', hts⟩
  obtain ⟨rX, cX, mX⟩ := con_X
  obtain ⟨rZ, cZ, mZ⟩ := con_Z
  have hl := lv_entry ([.ref b]) (n := 7) (Nat.le_of_ble_eq_true rfl)
  rw [lg_entry_eq]
  generalize (lg_sl ([.ref b]) ++ List.replicate (7 - (lg_sl ([.ref b])).length) Slot.unset).toArray = ls at hl ⊢
  have hl : lv_has ls 7 [(0, .ref b)] := hl
  show W p l e room_1 s m #[Value.ref b] below meth c s.heap [] 0 0 (lw_Z below #[Value.ref b] s) (F0 m 0 ls [])
  have hKX := hS.1 0 _ (crC_at (by decide))
  have hKZ := hS.1 10 _ (crC_at (by decide))
  refine W.newcK (n := 14) hx hb hown' (hts _ (tb_at (h := 1028) (by decide +kernel))) (hts _ (tb_at (h := 1029) (by decide +kernel))) (hts _ (tb_at (h := 1001) (by decide +kernel))) rfl (by decide +kernel : decode code 0 = .ok (.new 8, 3)) (by decide) (by decide) hKX.2.1 hb0 fun H1 kC hkC e1 z1 o1 => ?_
  have hat : va_at D crC (b0, .inr (0, (dfs 0).map (cvo b0 (b0 + 1)))) H1 := ⟨_, crC_at (show 0 < 11 by decide), (u_born (cTy 0) hts (c_in (by decide)) hKX hkC e1 (fun k hk => (c_ty (by decide) hk).1)).to fun j hj => dfs_val (by decide) hj⟩
  have hHN : HN D dA b0 (b0 + 1) 0 (dfs 0, []) H1 := ⟨hat, Nat.lt_succ_self _, z1, fun i c hc => by simp at hc⟩
  refine lv_dup hx hb (by decide +kernel : decode code 3 = .ok (.dup, 1)) rfl ?_
  have hr1 := va_runI (p := p) (l := l) (e := e) (R := room_1) (s := s) (m := m) (args := #[Value.ref b]) (below := below) (meth := meth) (c := c) (H := H1) (locs := []) (cells := 0 + 1) (slots := 0 + 14) (g := F0 m 4 ls [.ref b0, .ref b0]) (own := "ClosedRoomsLaw") (index := 15) (y := kY 10) (b := b0) (n := 0) (As := []) (rest := [.ref b0])
    ⟨hx, hb, hml, hown', hts⟩ (mX D dA l b0 (b0 + 1)) ⟨callB_of 0 hts (gw_k (n := 10) (by omega) (by omega)) rfl rfl rfl (hts _ (tb_at (h := 1001) (by decide +kernel))) (hts _ (tb_at (h := 1030) (by decide +kernel))) (by decide +kernel) ⟨Nat.le_of_ble_eq_true rfl, Nat.le_of_ble_eq_true rfl⟩, rfl, hts _ (tb_at (h := 1031) (by decide +kernel))⟩
    ⟨CM_blind, fun U hU hW => ⟨rfl, hV.warm hW, by rw [hU]; exact hHN⟩⟩ rfl rfl hl.1 rfl (lv_room (Nat.le_of_ble_eq_true rfl)) (by decide +kernel : decode code 4 = .ok (.invokespecial 15, 3)) ⟨Nat.le_of_ble_eq_true rfl, Nat.le_of_ble_eq_true rfl⟩
  refine c_run hr1 fun H2 L1 hX2 f2 hL1 => ?_
  have g2 : H2.size = b0 + 2749 := by
    have h1 := hX2.2.2.1
    have h2 := cX.2.2
    omega
  refine va_forget (fun q h => by
    rw [hb0]
    rcases hL1 q h with h | h
    · rw [h]; exact Nat.le_refl _
    · exact Nat.le_trans (Nat.le_succ _) h) ?_
  refine lv_astore_n hx hb (by decide +kernel : decode code 7 = .ok (.astore_n 1, 1)) rfl hl (by omega) rfl fun ls hl => ?_
  replace hl : lv_has ls 7 [(1, .ref b0), (0, .ref b)] := hl
  refine W.newcK (n := 24) hx hb hown' (hts _ (tb_at (h := 7028) (by decide +kernel))) (hts _ (tb_at (h := 7029) (by decide +kernel))) (hts _ (tb_at (h := 1011) (by decide +kernel))) rfl (by decide +kernel : decode code 8 = .ok (.new 16, 3)) (Nat.le_of_ble_eq_true rfl) (Nat.le_of_ble_eq_true rfl) hKZ.2.1 g2 fun H3 kC3 hkC3 e3 z3 o3 => ?_
  have hat3 : va_at D crC (b0 + 2749, .inr (10, (dfs 10).map (cvo (b0 + 2749) (b0 + 2750)))) H3 := ⟨_, crC_at (show 10 < 11 by decide), (u_born (cTy 10) hts (c_in (by decide)) hKZ hkC3 e3 (fun k hk => (c_ty (by decide) hk).1)).to fun j hj => dfs_val (by decide) hj⟩
  have hHN3 : HN D dA (b0 + 2749) (b0 + 2750) 10 (dfs 10, []) H3 := ⟨hat3, Nat.lt_succ_self _, z3, fun i c hc => by simp at hc⟩
  refine lv_dup hx hb (by decide +kernel : decode code 11 = .ok (.dup, 1)) rfl ?_
  have hr2 := va_runI (p := p) (l := l) (e := e) (R := room_1) (s := s) (m := m) (args := #[Value.ref b]) (below := below) (meth := meth) (c := c) (H := H3) (locs := []) (cells := 0 + 1 + 2748 + 1) (slots := 0 + 14 + 27206 + 24) (g := F0 m 12 ls [.ref (b0 + 2749), .ref (b0 + 2749)]) (own := "ClosedRoomsLaw") (index := 18) (y := kY 11) (b := b0 + 2749) (n := 0) (As := []) (rest := [.ref (b0 + 2749)])
    ⟨hx, hb, hml, hown', hts⟩ (mZ D dA l (b0 + 2749) (b0 + 2750)) ⟨callB_of 0 hts (gw_k (n := 11) (by omega) (by omega)) rfl rfl rfl (hts _ (tb_at (h := 1011) (by decide +kernel))) (hts _ (tb_at (h := 7030) (by decide +kernel))) (by decide +kernel) ⟨Nat.le_of_ble_eq_true rfl, Nat.le_of_ble_eq_true rfl⟩, rfl, hts _ (tb_at (h := 7031) (by decide +kernel))⟩
    ⟨CM_blind, fun U hU hW => ⟨rfl, hV.warm hW, by rw [hU]; exact hHN3⟩⟩ rfl rfl hl.1 rfl (lv_room (Nat.le_of_ble_eq_true rfl)) (by decide +kernel : decode code 12 = .ok (.invokespecial 18, 3)) ⟨Nat.le_of_ble_eq_true rfl, Nat.le_of_ble_eq_true rfl⟩
  refine c_run hr2 fun H4 L2 hX4 f4 hL2 => ?_
  have g4 : H4.size = b0 + 2761 := by
    have h1 := hX4.2.2.1
    have h2 := cZ.2.2
    omega
  refine va_forget (fun q h => by
    rw [hb0]
    rcases hL2 q h with h | h
    · rw [h]; exact Nat.le_add_right _ _
    · exact Nat.le_trans (Nat.le_add_right _ _) h) ?_
  refine lv_astore_n hx hb (by decide +kernel : decode code 15 = .ok (.astore_n 2, 1)) rfl hl (by omega) rfl fun ls hl => ?_
  replace hl : lv_has ls 7 [(2, .ref (b0 + 2749)), (1, .ref b0), (0, .ref b)] := hl
  refine lv_iconst (v := 1) hx hb (by decide +kernel : decode code 16 = .ok (.iconst 1, 1)) (by decide) ?_
  refine va_newaK (atype := .long) (N := 1) hx hb (hts _ (tb_at (h := 10074) (by decide +kernel))) rfl (by decide +kernel : decode code 17 = .ok (.newarray .long, 2)) rfl (by decide) (by decide) (by decide) (Nat.le_of_ble_eq_true rfl) (Nat.le_of_ble_eq_true rfl) g4 fun H5 dL e5 z5 o5 hAL _ => ?_
  refine lv_astore_n hx hb (by decide +kernel : decode code 19 = .ok (.astore_n 3, 1)) rfl hl (by omega) rfl fun ls hl => ?_
  replace hl : lv_has ls 7 [(3, .ref (b0 + 2761)), (2, .ref (b0 + 2749)), (1, .ref b0), (0, .ref b)] := hl
  refine lv_iconst (v := 0) hx hb (by decide +kernel : decode code 20 = .ok (.iconst 0, 1)) (by decide) ?_
  refine lv_istore hx hb (by decide +kernel : decode code 21 = .ok (.istore 4, 2)) hl (by omega) rfl fun ls hl => ?_
  replace hl : lv_has ls 7 [(4, .int 0), (3, .ref (b0 + 2761)), (2, .ref (b0 + 2749)), (1, .ref b0), (0, .ref b)] := hl
  have kX : ∀ q : Nat, q < b0 + 2749 → H5[q]? = H2[q]? := fun q hq => by
    rw [o5 q (by omega), f4 q (by omega) (by omega), o3 q hq]
  have kZ : ∀ q : Nat, q < b0 + 2761 → H5[q]? = H4[q]? := fun q hq => o5 q hq
  have hold : ∀ (q : Nat) (c : Cell), s.heap[q]? = some c → H5[q]? = some c := fun q c hq => by
    have h1 := (Array.getElem?_eq_some_iff.mp hq).1
    have h2 : q < b0 := by omega
    rw [kX q (by omega), f2 q (by omega) (by omega), o1 q h2]
    exact hq
  have nX := cX.2.2
  have nZ := cZ.2.2
  have hRel : Rel D dA (adr b0 adK adT) VW0 σ0 H5 := by
    refine Rel0 cX cZ (hX2.1.kept (kX b0 (by omega))) (fun i c hc => ?_) (hX4.1.kept (kZ (b0 + 2749) (by omega))) (fun i c hc => ?_)
    · have hi := (List.getElem?_eq_some_iff.mp hc).1
      exact (hX2.2.2.2 i c hc).kept (kX _ (by omega))
    · have hi := (List.getElem?_eq_some_iff.mp hc).1
      exact (hX4.2.2.2 i c hc).kept (kZ _ (by omega))
  have hWD5 : WD b0 adK adV adT adD s H5 := WD_at hWD hold
  have hX5 : va_X b L xs s H5 := by
    obtain ⟨scr, c1, c2⟩ := hX
    exact ⟨scr, hold _ _ c1, c2⟩
  have hLI : LI D dA b0 adK adV adT b L xs dL s σ0 0 H5 := ⟨hRel, RB_RO hWD5.1, σ0_Cn, INV0, hX5, ⟨_, e5⟩, hold⟩
  refine l_loop hF hS hb0 hbl hL ⟨rfl, rfl⟩ (l_room7 hlt hF hS hK hWD hAL hb0 hbl hL ⟨rfl, rfl⟩) (l_spell45 hF hS hK hWD hb0 hbl hL ⟨rfl, rfl⟩) (fun _ _ _ _ _ _ h1 h2 => ?_) (L + 6) σ0 0 H5 0 ls _ _ (by omega) (by omega) hLI (LLs_of hl.1 hl.2.1 (lv_at hl 4 rfl) (lv_at hl 3 rfl) (lv_at hl 2 rfl) (lv_at hl 1 rfl) (lv_at hl 0 rfl)) (by omega) (by show _ ≤ 601024; omega) (by show _ ≤ 7293034; omega)
  refine W.widen h1 h2 ?_
  refine lv_iconst (v := 1) hx hb (by decide +kernel : decode code 2062 = .ok (.iconst 1, 1)) (by decide) ?_
  exact lw_ret hx hb hr hlocks (by decide +kernel : decode code 2063 = .ok (.ireturn, 1))
