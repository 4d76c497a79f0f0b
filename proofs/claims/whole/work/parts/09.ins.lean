/-! the instructions that touch the heap, and the calls -/
section INS
variable {D : va_G} {dA : Nat → ClassId} {ad : HD → Nat} {VW : HD → Prop} {b0 : Nat} {adK adV adT : Nat → Nat}
variable {p : Program} {l : Launch} {e : Env} {R : Room} {s : State} {m : MethodId} {args : Array Value} {below : List Frame} {meth : Method} {c : Code} {H : Heap} {locs : List Loc} {cells slots : Nat} {Q : State → Prop}
variable {cc : ByteArray} {pc : Nat} {ls : Array Slot} {rest : List Value}
theorem VS_K (h : VS D dA adK s) : va_K D crC [] s := ⟨h.1, fun k q hq => by simp at hq⟩
theorem r_get (hx : p.tables.exec = Jvm.exec) (hb : c.code = cc) {own : String} {ix t b : Nat} {k i : Int} {σ : ST} (hts : ∀ w ∈ TB, w.before args s = true) (hown : s.vm.findClass own = some m.cls) (hK : VS D dA adK s) (hR : Rel D dA ad VW σ H) (hV : VW (t, k, i)) (hc : cof t < 11) (hbn : b < nfd t)
    (hl : (Cond.fieldLink own ix (cRn (cof t)) (cFd (cof t) b).2.1 (cFd (cof t) b).2.2.1).before args s = true) (hdg : decode cc pc = .ok (.getfield ix, 3))
    (kk : W p l e R s m args below meth c H locs cells slots Q (F0 m (pc + 3) ls (oval ad σ t k i b :: rest))) : W p l e R s m args below meth c H locs cells slots Q (F0 m pc ls (.ref (ad (t, k, i)) :: rest)) := by
  have hn := t_n hc
  have hbn' : b < cNn (cof t) := by rw [← hn]; exact hbn
  have hP : va_P D crC [(ad (t, k, i), .inr (cof t, ofs ad σ t k i))] H := by
    intro j q hq
    have hj : j < 1 := (List.getElem?_eq_some_iff.mp hq).1
    rw [show j = 0 by omega] at hq
    cases hq
    exact (hR t k i hV).1 hc
  exact va_get (own := own) (ref := cRn (cof t)) (ci := cof t) hx hb hts (c_in hc) hown (VS_K hK) hP 0 rfl (crC_at hc) b hbn' hl (fun x h => by rw [(c_ty hc hbn').2] at h; exact h) (ofs_get hbn) hdg kk
/-- a field is written: the rest of the heap stays -/
theorem r_put (hx : p.tables.exec = Jvm.exec) (hb : c.code = cc) {own : String} {ix t b : Nat} {k i : Int} {σ : ST} {v : Value} (hts : ∀ w ∈ TB, w.before args s = true) (hown : s.vm.findClass own = some m.cls) (hK : VS D dA adK s) (hR : Rel D dA ad VW σ H) (hV : VW (t, k, i)) (hc : cof t < 11) (hbn : b < nfd t)
    (hl : (Cond.fieldLink own ix (cRn (cof t)) (cFd (cof t) b).2.1 (cFd (cof t) b).2.2.1).before args s = true) (hfin : (cFd (cof t) b).2.2.2 = false) (hn : narrow (cTy (cof t) b) v = v) (hfit : fits (cTy (cof t) b) v = true) (hdg : decode cc pc = .ok (.putfield ix, 3))
    (kk : ∀ (H1 : Heap) (z : Loc), z.base = ad (t, k, i) → va_at D crC (ad (t, k, i), .inr (cof t, (ofs ad σ t k i).set b v)) H1 → (∀ q : Nat, q ≠ ad (t, k, i) → H1[q]? = H[q]?) → W p l e R s m args below meth c H1 (locs ++ [z]) cells slots Q (F0 m (pc + 3) ls rest)) :
    W p l e R s m args below meth c H locs cells slots Q (F0 m pc ls (v :: .ref (ad (t, k, i)) :: rest)) := by
  have hnn := t_n hc
  have hbn' : b < cNn (cof t) := by rw [← hnn]; exact hbn
  have hin := c_in hc
  have hty := fun k hk => (c_ty (k := k) hc hk).1
  have hap := va_apart (own := own) hts hin (cTy (cof t)) hty (c_nm hc) (VS_K hK) (crC_at hc)
  obtain ⟨r, h1, cell, q1, q2, q3, q4⟩ := (hR t k i hV).1 hc
  have hr : r = (cRn (cof t), cFd (cof t), cNn (cof t)) := Option.some.inj (h1.symm.trans (crC_at hc))
  subst hr
  obtain ⟨hS, hfc, kC, hkC, hkind⟩ := hK.1 (cof t) _ (crC_at hc)
  obtain ⟨cf, kf, fi, f, hi, hsl⟩ := hS b hbn'
  have hlay := hts _ (hin _ (u_in_lay hbn'))
  unfold u_lay at hlay
  rw [if_neg (by rw [hfin]; decide)] at hlay
  have hst := (u_facts hfc hkC (u_lays hts hin hbn') hi).1
  have h6 := u_store hfc hkC hkind hlay hi (hty b hbn') hn hfit
  have hi' : s.fieldFound? (cRn (cof t)) (cFd (cof t) b).2.1 (cFd (cof t) b).2.2.1 = some (cf, kf, fi, f) := by
    have := (c_ty hc hbn').2
    rw [← this]
    exact hi
  refine W.putK hx hb (f := f) ⟨hown, hl, ⟨_, _, _, hi'⟩, hst⟩ (by rw [q2]; exact h6) q1 q3 (by rw [hsl]; exact k2_hasslot (q4 b hbn')) rfl rfl hdg fun H' e1 e2 e3 => ?_
  rw [hsl] at e1 ⊢
  refine kk H' _ rfl ⟨_, crC_at hc, t_OB.to (V := updV (vp_V (ofs ad σ t k i)) b v) ⟨_, e1, q2, q3, t_set q4 hap hbn' v⟩ (fun j _ => vp_updV_set (by unfold ofs; simp [hbn]) v j)⟩ e3
theorem toNat_al {t : Nat} {j : Int} (h0 : 0 ≤ j) (h1 : j < al t) : j.toNat < (al t).toNat := by omega
theorem al_32 (t : Nat) : al t < 2147483648 := by
  unfold al
  split <;> decide
theorem in32_ix {t : Nat} {j : Int} (h0 : 0 ≤ j) (h1 : j < al t) : in32 j := ⟨by omega, by have := al_32 t; omega⟩
theorem r_iald (hx : p.tables.exec = Jvm.exec) (hb : c.code = cc) {t : Nat} {k i j : Int} {σ : ST} (hK : VS D dA adK s) (hR : Rel D dA ad VW σ H) (hV : VW (t, k, i)) (he : ek t = 0) (h0 : 0 ≤ j) (h1 : j < al t) (hdg : decode cc pc = .ok (.iaload, 1))
    (kk : W p l e R s m args below meth c H locs cells slots Q (F0 m (pc + 1) ls (.int (Int32.ofInt (σ t k i j)) :: rest))) : W p l e R s m args below meth c H locs cells slots Q (F0 m pc ls (.int (Int32.ofInt j) :: .ref (ad (t, k, i)) :: rest)) := by
  have h32 := in32_ix h0 h1
  refine W.iald (v := .int (Int32.ofInt (σ t k i j))) hx hb ((hR t k i hV).2.1 he) (hK.2.1 _ _) (fun q => by cases q) ?_ ?_ rfl rfl hdg kk
  · rw [arrV_size]
    exact n_in h0 h32 (by omega)
  · rw [n_clamp h0 h32, arrV_read _ _ (toNat_al h0 h1), Int.toNat_of_nonneg h0]
theorem r_bald (hx : p.tables.exec = Jvm.exec) (hb : c.code = cc) {t : Nat} {k i j : Int} {σ : ST} (hK : VS D dA adK s) (hR : Rel D dA ad VW σ H) (hV : VW (t, k, i)) (he : ek t = 1) (h0 : 0 ≤ j) (h1 : j < al t) (hdg : decode cc pc = .ok (.baload, 1))
    (kk : W p l e R s m args below meth c H locs cells slots Q (F0 m (pc + 1) ls (.int (Int32.ofInt (bz (σ t k i j))) :: rest))) : W p l e R s m args below meth c H locs cells slots Q (F0 m pc ls (.int (Int32.ofInt j) :: .ref (ad (t, k, i)) :: rest)) := by
  have h32 := in32_ix h0 h1
  refine W.zald (v := .int (Int32.ofInt (bz (σ t k i j)))) hx hb ((hR t k i hV).2.2.1 he) (hK.2.2.1 _ _) (fun q => by cases q) ?_ ?_ rfl rfl hdg kk
  · rw [arrV_size]
    exact n_in h0 h32 (by omega)
  · rw [n_clamp h0 h32, arrV_read _ _ (toNat_al h0 h1), Int.toNat_of_nonneg h0]
theorem r_aald (hx : p.tables.exec = Jvm.exec) (hb : c.code = cc) {t : Nat} {k i j : Int} {σ : ST} (hK : VS D dA adK s) (hR : Rel D dA ad VW σ H) (hV : VW (t, k, i)) (he : ek t = 3) (h0 : 0 ≤ j) (h1 : j < al t) (hdg : decode cc pc = .ok (.aaload, 1))
    (kk : W p l e R s m args below meth c H locs cells slots Q (F0 m (pc + 1) ls (.ref (ad (cha t k j)) :: rest))) : W p l e R s m args below meth c H locs cells slots Q (F0 m pc ls (.int (Int32.ofInt j) :: .ref (ad (t, k, i)) :: rest)) := by
  have h32 := in32_ix h0 h1
  obtain ⟨n, hn⟩ := hK.2.2.2.1 t he
  refine W.aald (v := .ref (ad (cha t k j))) (ty := .object n) hx hb ((hR t k i hV).2.2.2 he) (hn _ _) rfl (fun q => by cases q) ?_ ?_ rfl rfl hdg kk
  · rw [arrV_size]
    exact n_in h0 h32 (by omega)
  · rw [n_clamp h0 h32, arrV_read _ _ (toNat_al h0 h1), Int.toNat_of_nonneg h0]
theorem r_sald (hx : p.tables.exec = Jvm.exec) (hb : c.code = cc) {t : Nat} {j : Int} (hO : RO b0 adK adV adT s H) (he : ek t = 7) (h0 : 0 ≤ j) (h1 : j < al t) (hdg : decode cc pc = .ok (.iaload, 1))
    (kk : W p l e R s m args below meth c H locs cells slots Q (F0 m (pc + 1) ls (.int (Int32.ofInt (stv t j)) :: rest))) : W p l e R s m args below meth c H locs cells slots Q (F0 m pc ls (.int (Int32.ofInt j) :: .ref (adT t) :: rest)) := by
  have h32 := in32_ix h0 h1
  obtain ⟨cell, g1, g2, g3, g4, -, g5, -⟩ := (hO.2.1 t he).2
  refine W.iald (v := .int (Int32.ofInt (stv t j))) hx hb g1 g2 g3 ?_ ?_ rfl rfl hdg kk
  · intro z
    rcases z with z | z
    · rw [← n_0, n_lt h32 in32_0] at z
      omega
    · rw [n_clamp h0 h32] at z
      have := toNat_al h0 h1
      omega
  · rw [n_clamp h0 h32, g5 _ (toNat_al h0 h1)]
    show some (Value.int (Int32.ofInt (stv t (j.toNat : Int)))) = _
    rw [Int.toNat_of_nonneg h0]
theorem arr_up (f : Nat → Value) (cI : ClassId) (n a : Nat) (x : Value) (g : Nat → Value) (h : ∀ j, g j = if j = a then x else f j) : (arrV cI n f).setSlot a x = arrV cI n g := by
  rw [arrV_store]
  congr 1
  funext j
  rw [h j]
  simp only [updV]
theorem r_iast (hx : p.tables.exec = Jvm.exec) (hb : c.code = cc) (hE : EV ad VW b0 adK adT) {t : Nat} {k i j x : Int} {σ : ST} (hK : VS D dA adK s) (hR : Rel D dA ad VW σ H) (hO : RO b0 adK adV adT s H) (hV : VW (t, k, i)) (he : ek t = 0) (hc : ¬ cof t < 11) (h0 : 0 ≤ j) (h1 : j < al t) (hdg : decode cc pc = .ok (.iastore, 1))
    (kk : ∀ (H1 : Heap) (z : Loc), A0 b0 z.base → Rel D dA ad VW (up σ t k i j x) H1 → RO b0 adK adV adT s H1 → W p l e R s m args below meth c H1 (locs ++ [z]) cells slots Q (F0 m (pc + 1) ls rest)) :
    W p l e R s m args below meth c H locs cells slots Q (F0 m pc ls (.int (Int32.ofInt x) :: .int (Int32.ofInt j) :: .ref (ad (t, k, i)) :: rest)) := by
  have h32 := in32_ix h0 h1
  refine W.iast hx hb ((hR t k i hV).2.1 he) (hK.2.1 _ _) (fun q => by cases q) ?_ rfl rfl hdg fun H1 e1 e2 e3 => ?_
  · rw [arrV_size]
    exact n_in h0 h32 (by omega)
  · refine kk H1 _ (hE.2.1 _ hV) (Rel_set hE hR hV e3 (fun t' k' i' s' hn => up_ne hn) ⟨fun z => absurd z hc, fun _ => ?_, fun z => ?_, fun z => ?_⟩) (RO_put hE hV e3 hO)
    · rw [e1, n_clamp h0 h32]
      refine congrArg some (arr_up _ _ _ _ _ _ fun q => ?_)
      rw [up_at]
      by_cases hq : (q : Int) = j
      · rw [if_pos hq, if_pos (by omega)]
      · rw [if_neg hq, if_neg (by omega)]
    · rw [he] at z; cases z
    · rw [he] at z; cases z
theorem r_bast (hx : p.tables.exec = Jvm.exec) (hb : c.code = cc) (hE : EV ad VW b0 adK adT) {t : Nat} {k i j x : Int} {σ : ST} (hK : VS D dA adK s) (hR : Rel D dA ad VW σ H) (hO : RO b0 adK adV adT s H) (hV : VW (t, k, i)) (he : ek t = 1) (hc : ¬ cof t < 11) (h0 : 0 ≤ j) (h1 : j < al t) (hx01 : x = 0 ∨ x = 1) (hdg : decode cc pc = .ok (.bastore, 1))
    (kk : ∀ (H1 : Heap) (z : Loc), A0 b0 z.base → Rel D dA ad VW (up σ t k i j x) H1 → RO b0 adK adV adT s H1 → W p l e R s m args below meth c H1 (locs ++ [z]) cells slots Q (F0 m (pc + 1) ls rest)) :
    W p l e R s m args below meth c H locs cells slots Q (F0 m pc ls (.int (Int32.ofInt x) :: .int (Int32.ofInt j) :: .ref (ad (t, k, i)) :: rest)) := by
  have h32 := in32_ix h0 h1
  refine W.zast hx hb ((hR t k i hV).2.2.1 he) (hK.2.2.1 _ _) (fun q => by cases q) ?_ rfl rfl hdg fun H1 e1 e2 e3 => ?_
  · rw [arrV_size]
    exact n_in h0 h32 (by omega)
  · refine kk H1 _ (hE.2.1 _ hV) (Rel_set hE hR hV e3 (fun t' k' i' s' hn => up_ne hn) ⟨fun z => absurd z hc, fun z => ?_, fun _ => ?_, fun z => ?_⟩) (RO_put hE hV e3 hO)
    · rw [he] at z; cases z
    · rw [e1, n_clamp h0 h32, n_nar hx01]
      refine congrArg some (arr_up _ _ _ _ _ _ fun q => ?_)
      rw [up_at]
      by_cases hq : (q : Int) = j
      · rw [if_pos hq, if_pos (by omega), bz_01 hx01]
      · rw [if_neg hq, if_neg (by omega)]
    · rw [he] at z; cases z
/-- a call, by the callee's contract -/
theorem r_call {Q1 : Option AV → ST → Prop} {a0 : Array Value} {st0 : List Value} (hr : va_Run p l e R s m args below meth c H locs cells slots 0 0 (F0 m pc ls st0) rest (SQ D dA ad VW b0 adK adV adT Q1 a0) (A0 b0)) (hlc : ∀ q ∈ locs, A0 b0 q.base)
    (kk : ∀ r σ' (H1 : Heap) (locs1 : List Loc), Q1 r σ' → Rel D dA ad VW σ' H1 → RO b0 adK adV adT s H1 → Cn σ' → (∀ v, r = some v → okv (Vv VW) v) → (∀ q ∈ locs1, A0 b0 q.base) → W p l e R s m args below meth c H1 locs1 cells slots Q (F0 m (pc + 3) ls ((r.map (conc ad)).toList ++ rest))) :
    W p l e R s m args below meth c H locs cells slots Q (F0 m pc ls st0) := by
  intro T hT X
  obtain ⟨v, st₀, t, T', L, h0, X', hL, e1, e2, ⟨r, σ', hv, hq, hR, hO, hC, hk⟩, st⟩ := hr T hT X
  have hv' : v = r.map (conc ad) := by
    injection hv
  subst hv'
  have hal : t.vm.Alike s.vm := by
    rw [← e2]
    exact X'.warmed.alike.symm
  obtain ⟨t2, a1, b1⟩ := kk r σ' T'.heap (locs ++ L) hq (by rw [e1]; exact hR) (by rw [e1]; exact hO.moved hal) hC hk (fun q hq => by
    rcases List.mem_append.mp hq with h | h
    · exact hlc q h
    · exact hL q h) T' rfl X'
  exact ⟨t2, st t2 a1, b1⟩
end INS
