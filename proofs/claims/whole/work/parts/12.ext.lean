/-! what the JDK's own members do: arraycopy, the constants' length and charAt -/
theorem tb_nat : Cond.native arraycopyName ∈ TB := tb_at (h := 3131) (by decide +kernel)
theorem tb_cst : Cond.static arraycopyName ∈ TB := tb_at (h := 3130) (by decide +kernel)
theorem tb_sys : Cond.initialized "java/lang/System" ∈ TB := tb_at (h := 1017) (by decide +kernel)
section COPY
variable {D : va_G} {dA : Nat → ClassId} {ad : HD → Nat} {VW : HD → Prop} {b0 : Nat} {adK adV adT : Nat → Nat}
variable {p : Program} {l : Launch} {e : Env} {R : Room} {s : State} {m : MethodId} {args : Array Value} {below : List Frame} {meth : Method} {c : Code} {H : Heap} {locs : List Loc} {cells slots : Nat} {Q : State → Prop}
variable {cc : ByteArray} {pc : Nat} {ls : Array Slot} {rest : List Value}
theorem r_copy (hexec : p.tables.exec = Jvm.exec) (hb : c.code = cc) (hml : c.maxLocals = ls.size) {own : String} {index : Nat} (hown : s.vm.findClass own = some m.cls) (hts : ∀ w ∈ TB, w.before args s = true) (hlink : (Cond.methodLink own index arraycopyName).before args s = true)
    (hE : EV ad VW b0 adK adT) (hK : VS D dA adK s) {σ : ST} (hR : Rel D dA ad VW σ H) (hO : RO b0 adK adV adT s H) (hCn : Cn σ) {t t1 : Nat} {k i k1 i1 sp dp n : Int} (hV : VW (t, k, i)) (hV1 : VW (t1, k1, i1)) (he : ek t = 0) (he1 : ek t1 = 0)
    (h1 : 0 ≤ sp) (h2 : 0 ≤ dp) (h3 : 0 ≤ n) (h4 : sp + n ≤ al t) (h5 : dp + n ≤ al t1)
    (hframes : 1 ≤ R.frames) (hlocals : (rest.map fun v => v.category).sum + (nativeFrameWords "java/lang/System" "arraycopy" 5 + 11) ≤ R.locals) (hdg : decode cc pc = .ok (.invokestatic index, 3)) (hlc : ∀ q ∈ locs, A0 b0 q.base)
    (kk : ∀ (H1 : Heap) (locs1 : List Loc), (∀ q ∈ locs1, A0 b0 q.base) → Rel D dA ad VW (cpy σ t k i sp t1 k1 i1 dp n) H1 → RO b0 adK adV adT s H1 → W p l e R s m args below meth c H1 locs1 cells slots Q (F0 m (pc + 3) ls rest)) :
    W p l e R s m args below meth c H locs cells slots Q (F0 m pc ls (.int (Int32.ofInt n) :: .int (Int32.ofInt dp) :: .ref (ad (t1, k1, i1)) :: .int (Int32.ofInt sp) :: .ref (ad (t, k, i)) :: rest)) := by
  have hal := al_32 t
  have hal1 := al_32 t1
  have i1' : in32 sp := ⟨by omega, by omega⟩
  have i2' : in32 dp := ⟨by omega, by omega⟩
  have i3' : in32 n := ⟨by omega, by omega⟩
  have c1 := n_clamp h1 i1'
  have c2 := n_clamp h2 i2'
  have c3 := n_clamp h3 i3'
  have nlt : ∀ {z : Int}, 0 ≤ z → in32 z → ¬ Int32.ofInt z < 0 := fun hz h => by
    rw [← n_0, n_lt h in32_0]
    omega
  have j4 : (Int32.ofInt sp).toNatClampNeg + (Int32.ofInt n).toNatClampNeg ≤ (al t).toNat := by rw [c1, c3]; omega
  have j5 : (Int32.ofInt dp).toNatClampNeg + (Int32.ofInt n).toNatClampNeg ≤ (al t1).toNat := by rw [c2, c3]; omega
  have j1 := n_toInt i1'
  have j2 := n_toInt i2'
  have j3 := n_toInt i3'
  obtain ⟨f, hf⟩ : ∃ f : Nat → Int32, f = fun (j : Nat) => Int32.ofInt (σ t k i (j : Int)) := ⟨_, rfl⟩
  obtain ⟨g, hg⟩ : ∃ g : Nat → Int32, g = fun (j : Nat) => Int32.ofInt (σ t1 k1 i1 (j : Int)) := ⟨_, rfl⟩
  have hfit : ∀ z, fits .int (.int (f z)) = true := fun _ => rfl
  intro T hT X
  have hc0 : H[ad (t, k, i)]? = some (vp_cell (dA 0) ((al t).toNat, .inl f)) := by rw [hf]; exact (hR t k i hV).2.1 he
  have hc1 : H[ad (t1, k1, i1)]? = some (vp_cell (dA 0) ((al t1).toNat, .inl g)) := by rw [hg]; exact (hR t1 k1 i1 hV1).2.1 he1
  generalize (al t).toNat = n0 at hc0 j4
  generalize hn1 : (al t1).toNat = n1 at hc1 j5
  obtain ⟨-, k0, hk0, cm0, hkk0⟩ := hK.2.1 n0 (fun j => .int (f j))
  obtain ⟨-, kk1, hk1, cm1, hkk1⟩ := hK.2.1 n1 (fun j => .int (g j))
  obtain ⟨vm', X', step⟩ := X.arraycopy hexec hown hlink (hts _ tb_nat) (hts _ tb_cst) (hts _ tb_sys) (src := ad (t, k, i)) (dst := ad (t1, k1, i1)) (cs := vp_cell (dA 0) (n0, .inl f)) (cd := vp_cell (dA 0) (n1, .inl g)) (srcPos := Int32.ofInt sp) (destPos := Int32.ofInt dp) (n := Int32.ofInt n) (by rw [hT]; exact hc0) (by rw [hT]; exact hc1)
    (fun _ h => by cases h) (fun _ h => by cases h) (fun h => by cases h) (fun h => by cases h) hk0 hk1 hkk0 hkk1 (by simp [refKind]) (nlt h1 i1') (nlt h2 i2') (nlt h3 i3')
    (by rw [j1, j3]; show ¬ _ > ((arrV (dA 0) n0 (fun j => .int (f j))).slots.size : Int); rw [arrV_size]; omega)
    (by rw [j2, j3]; show ¬ _ > ((arrV (dA 0) n1 (fun j => .int (g j))).slots.size : Int); rw [arrV_size]; omega)
    (fun vm₁ _ j hj => by
      have e : (vp_cell (dA 0) (n0, .inl f)).slots.getD ((Int32.ofInt sp).toNatClampNeg + j) .null = .int (f ((Int32.ofInt sp).toNatClampNeg + j)) := by
        show (arrV (dA 0) n0 (fun j => .int (f j))).slots.getD _ _ = _
        rw [Array.getD_eq_getD_getElem?, arrV_read _ _ (by omega)]
        rfl
      refine ⟨?_, ?_⟩
      · rw [e]
        exact hfit _
      · rw [e]
        exact trivial)
    (g := F0 m pc ls (.int (Int32.ofInt n) :: .int (Int32.ofInt dp) :: .ref (ad (t1, k1, i1)) :: .int (Int32.ofInt sp) :: .ref (ad (t, k, i)) :: rest)) rfl (by rw [hml]) (rest := rest) rfl (by rw [hb]; exact hdg) hframes (by show 2 * 0 + _ + _ ≤ _; omega)
  have e1 : copied (vp_cell (dA 0) (n0, .inl f)) (vp_cell (dA 0) (n1, .inl g)) (Int32.ofInt sp) (Int32.ofInt dp) (Int32.ofInt n) = vp_cell (dA 0) (n1, .inl (va_cpy f g (Int32.ofInt sp).toNatClampNeg (Int32.ofInt dp).toNatClampNeg (Int32.ofInt n).toNatClampNeg)) := va_copied (fun z => .int z) (dA 0) (dA 0) f g j4
  rw [e1] at X' step
  have hl : ad (t1, k1, i1) < H.size := (Array.getElem?_eq_some_iff.mp hc1).1
  generalize hZ : vp_cell (dA 0) (n1, .inl (va_cpy f g (Int32.ofInt sp).toNatClampNeg (Int32.ofInt dp).toNatClampNeg (Int32.ofInt n).toNatClampNeg)) = Z at X' step
  have hheap : ((T.setVm vm').setCell (ad (t1, k1, i1)) Z).heap = H.setIfInBounds (ad (t1, k1, i1)) Z := by rw [← hT]; rfl
  have oq : ∀ q : Nat, q ≠ ad (t1, k1, i1) → (H.setIfInBounds (ad (t1, k1, i1)) Z)[q]? = H[q]? := fun q hq => by simp [Array.getElem?_setIfInBounds, Ne.symm hq]
  have hat : (H.setIfInBounds (ad (t1, k1, i1)) Z)[ad (t1, k1, i1)]? = some Z := by simp [Array.getElem?_setIfInBounds, hl]
  have hRel : Rel D dA ad VW (cpy σ t k i sp t1 k1 i1 dp n) (H.setIfInBounds (ad (t1, k1, i1)) Z) := by
    refine Rel_set hE hR hV1 oq (fun t' k' i' s' hn => ?_) ⟨fun z => absurd z (ekc (by rw [he1]; decide)), fun _ => ?_, fun z => ?_, fun z => ?_⟩
    · unfold cpy
      rw [if_neg fun q => hn ⟨q.1, q.2.1, q.2.2.1⟩]
    · rw [hat, ← hZ, vp_cell_i, hn1, hf, hg]
      congr 2
      funext j
      unfold va_cpy cpy
      rw [c1, c2, c3]
      by_cases hj : dp.toNat ≤ j ∧ j < dp.toNat + n.toNat
      · rw [if_pos hj, if_pos ⟨rfl, rfl, rfl, by omega, by omega⟩]
        have ez : ((sp.toNat + (j - dp.toNat) : Nat) : Int) = sp + ((j : Int) - dp) := by omega
        show Value.int (Int32.ofInt (σ t k i ((sp.toNat + (j - dp.toNat) : Nat) : Int))) = _
        rw [ez]
      · rw [if_neg hj, if_neg fun q => hj ⟨by have := q.2.2.2.1; omega, by have := q.2.2.2.2; omega⟩]
    · rw [he1] at z; cases z
    · rw [he1] at z; cases z
  obtain ⟨t2, a1, b1⟩ := kk _ _ (fun q hq => by
      rcases List.mem_append.mp hq with h | h
      · exact hlc q h
      · obtain ⟨z, -, hz⟩ := List.mem_map.mp h
        rw [← hz]
        exact hE.2.1 _ hV1) hRel (RO_put hE hV1 oq hO) _ hheap X'
  exact ⟨t2, step t2 a1, b1⟩
end COPY
theorem Cn_cpy {σ : ST} (h : Cn σ) {t t1 : Nat} {k i k1 i1 sp dp n : Int} (he : ek t = 0) (he1 : ek t1 = 0) : Cn (cpy σ t k i sp t1 k1 i1 dp n) := by
  intro t' k' i' s'
  unfold cpy
  by_cases e : t' = t1 ∧ k' = k1 ∧ i' = i1 ∧ dp ≤ s' ∧ s' < dp + n
  · rw [if_pos e, e.1, if_neg (fun q => ek40 he1 q.1)]
    exact Cn_in h (fun q => ek40 he q.1)
  · rw [if_neg e]
    exact h t' k' i' s'
