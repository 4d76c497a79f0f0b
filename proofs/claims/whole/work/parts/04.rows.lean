/-! one-instruction rows over wp -/
def asI (k : Int → ST → Prop) (r : Option AV) (σ : ST) : Prop := match r with
  | some (.inl x) => k x σ
  | _ => False
def asL (k : Int → ST → Prop) (r : Option AV) (σ : ST) : Prop := match r with
  | some (.inr (.inl x)) => k x σ
  | _ => False
def asR (T : Nat) (k : Int → Int → ST → Prop) (r : Option AV) (σ : ST) : Prop := match r with
  | some (.inr (.inr (t, a, b))) => t = T ∧ k a b σ
  | _ => False
def asV (k : ST → Prop) (r : Option AV) (σ : ST) : Prop := match r with
  | none => k σ
  | _ => False
theorem asI_K {rk T : Nat} (hr : rk = 0 ∨ rk = 1) {k : Int → ST → Prop} {K : List AV → ST → Prop} (h : ∀ x σ, k x σ → K [.inl x] σ) {r : Option AV} {σ : ST} (hk : asI k r σ) : asK rk T K r σ := by
  unfold asI at hk
  split at hk
  · rcases hr with rfl | rfl <;> exact h _ _ hk
  · exact hk.elim
theorem asL_K {T : Nat} {k : Int → ST → Prop} {K : List AV → ST → Prop} (h : ∀ x σ, k x σ → K [.inr (.inl x)] σ) {r : Option AV} {σ : ST} (hk : asL k r σ) : asK 2 T K r σ := by
  unfold asL at hk
  split at hk
  · exact h _ _ hk
  · exact hk.elim
theorem asR_K {T : Nat} {k : Int → Int → ST → Prop} {K : List AV → ST → Prop} (h : ∀ a b σ, k a b σ → K [.inr (.inr (T, a, b))] σ) {r : Option AV} {σ : ST} (hk : asR T k r σ) : asK 3 T K r σ := by
  unfold asR at hk
  split at hk
  · exact ⟨hk.1, h _ _ _ hk.2⟩
  · exact hk.elim
theorem asV_K {T : Nat} {k : ST → Prop} {K : List AV → ST → Prop} (h : ∀ σ, k σ → K [] σ) {r : Option AV} {σ : ST} (hk : asV k r σ) : asK 4 T K r σ := by
  unfold asV at hk
  split at hk
  · exact h _ hk
  · exact hk.elim
theorem ste_eq {m pc : Nat} {e : CE} (hf : fnd m pc = some e) (L : LV) (st : List AV) (σ : ST) : ste m (pc, L, st, σ) = stepI (hlm m) (rkm m) rkm e pc L st σ := by
  show step (hlm m) (mth m).1 (rkm m) rkm pc L st σ = _
  unfold step
  rw [show find (mth m).1 pc = some e from hf]
section WR
variable {m pc p' : Nat} {L L' : LV} {st r : List AV} {σ : ST} {Q : Option AV → ST → Prop} {e0 a b c len : Nat} {v : Int}
theorem w_iconst {n : Int} (hf : fnd m pc = some (e0, .iconst n, len, a, b, c, v)) (hp : pc + len = p') (h : wp m (p', L, (.inl n :: st), σ) Q) : wp m (pc, L, st, σ) Q := by
  refine wp_step ?_
  rw [ste_eq hf]
  subst hp
  exact h
theorem w_bipush {n : Int} (hf : fnd m pc = some (e0, .bipush n, len, a, b, c, v)) (hp : pc + len = p') (h : wp m (p', L, (.inl n :: st), σ) Q) : wp m (pc, L, st, σ) Q := by
  refine wp_step ?_
  rw [ste_eq hf]
  subst hp
  exact h
theorem w_sipush {n : Int} (hf : fnd m pc = some (e0, .sipush n, len, a, b, c, v)) (hp : pc + len = p') (h : wp m (p', L, (.inl n :: st), σ) Q) : wp m (pc, L, st, σ) Q := by
  refine wp_step ?_
  rw [ste_eq hf]
  subst hp
  exact h
theorem w_lconst {n : Fin 2} {x : Int} (hn : (n.val : Int) = x) (hf : fnd m pc = some (e0, .lconst n, len, a, b, c, v)) (hp : pc + len = p') (h : wp m (p', L, (.inr (.inl x) :: st), σ) Q) : wp m (pc, L, st, σ) Q := by
  refine wp_step ?_
  rw [ste_eq hf]
  subst hp
  subst hn
  exact h
theorem w_ldc {i : Nat} (hf : fnd m pc = some (e0, .ldc i, len, 0, b, c, v)) (hp : pc + len = p') (h : wp m (p', L, (.inl v :: st), σ) Q) : wp m (pc, L, st, σ) Q := by
  refine wp_step ?_
  rw [ste_eq hf]
  subst hp
  exact h
theorem w_ldcS {i : Nat} (hf : fnd m pc = some (e0, .ldc i, len, 1, b, c, v)) (hp : pc + len = p') (h : wp m (p', L, (.inr (.inr (70, v, 0)) :: st), σ) Q) : wp m (pc, L, st, σ) Q := by
  refine wp_step ?_
  rw [ste_eq hf]
  subst hp
  exact h
theorem w_ldcS_w {i : Nat} (hf : fnd m pc = some (e0, .ldc_w i, len, 1, b, c, v)) (hp : pc + len = p') (h : wp m (p', L, (.inr (.inr (70, v, 0)) :: st), σ) Q) : wp m (pc, L, st, σ) Q := by
  refine wp_step ?_
  rw [ste_eq hf]
  subst hp
  exact h
theorem w_ldc_w {i : Nat} (hf : fnd m pc = some (e0, .ldc_w i, len, 0, b, c, v)) (hp : pc + len = p') (h : wp m (p', L, (.inl v :: st), σ) Q) : wp m (pc, L, st, σ) Q := by
  refine wp_step ?_
  rw [ste_eq hf]
  subst hp
  exact h
theorem w_ldc2_w {i : Nat} (hf : fnd m pc = some (e0, .ldc2_w i, len, a, b, c, v)) (hp : pc + len = p') (h : wp m (p', L, (.inr (.inl v) :: st), σ) Q) : wp m (pc, L, st, σ) Q := by
  refine wp_step ?_
  rw [ste_eq hf]
  subst hp
  exact h
theorem w_iload {i : Nat} {x : Int} (hf : fnd m pc = some (e0, .iload i, len, a, b, c, v)) (hL : L.getD i none = some (.inl x)) (hp : pc + len = p') (h : wp m (p', L, (.inl x :: st), σ) Q) : wp m (pc, L, st, σ) Q := by
  refine wp_step ?_
  rw [ste_eq hf]
  subst hp
  show run1 _ _ _ (match L.getD i none with
    | some (.inl x) => nx (pc + len) L (.inl x :: st) σ
    | _ => none)
  rw [hL]
  exact h
theorem w_iload_n {i : Fin 4} {x : Int} (hf : fnd m pc = some (e0, .iload_n i, len, a, b, c, v)) (hL : L.getD i.val none = some (.inl x)) (hp : pc + len = p') (h : wp m (p', L, (.inl x :: st), σ) Q) : wp m (pc, L, st, σ) Q := by
  refine wp_step ?_
  rw [ste_eq hf]
  subst hp
  show run1 _ _ _ (match L.getD i.val none with
    | some (.inl x) => nx (pc + len) L (.inl x :: st) σ
    | _ => none)
  rw [hL]
  exact h
theorem w_lload_n {i : Fin 4} {x : Int} (hf : fnd m pc = some (e0, .lload_n i, len, a, b, c, v)) (hL : L.getD i.val none = some (.inr (.inl x))) (hp : pc + len = p') (h : wp m (p', L, (.inr (.inl x) :: st), σ) Q) : wp m (pc, L, st, σ) Q := by
  refine wp_step ?_
  rw [ste_eq hf]
  subst hp
  show run1 _ _ _ (match L.getD i.val none with
    | some (.inr (.inl x)) => nx (pc + len) L (.inr (.inl x) :: st) σ
    | _ => none)
  rw [hL]
  exact h
theorem w_aload {i : Nat} {x : HD} (hf : fnd m pc = some (e0, .aload i, len, a, b, c, v)) (hL : L.getD i none = some (.inr (.inr x))) (hp : pc + len = p') (h : wp m (p', L, (.inr (.inr x) :: st), σ) Q) : wp m (pc, L, st, σ) Q := by
  refine wp_step ?_
  rw [ste_eq hf]
  subst hp
  show run1 _ _ _ (match L.getD i none with
    | some (.inr (.inr x)) => nx (pc + len) L (.inr (.inr x) :: st) σ
    | _ => none)
  rw [hL]
  exact h
theorem w_aload_n {i : Fin 4} {x : HD} (hf : fnd m pc = some (e0, .aload_n i, len, a, b, c, v)) (hL : L.getD i.val none = some (.inr (.inr x))) (hp : pc + len = p') (h : wp m (p', L, (.inr (.inr x) :: st), σ) Q) : wp m (pc, L, st, σ) Q := by
  refine wp_step ?_
  rw [ste_eq hf]
  subst hp
  show run1 _ _ _ (match L.getD i.val none with
    | some (.inr (.inr x)) => nx (pc + len) L (.inr (.inr x) :: st) σ
    | _ => none)
  rw [hL]
  exact h
theorem w_istore {i : Nat} {x : Int} (hf : fnd m pc = some (e0, .istore i, len, a, b, c, v)) (hL : st1 (hlm m) L i (.inl x) = L') (hp : pc + len = p') (h : wp m (p', L', st, σ) Q) : wp m (pc, L, (.inl x :: st), σ) Q := by
  refine wp_step ?_
  rw [ste_eq hf]
  subst hp
  subst hL
  exact h
theorem w_istore_n {i : Fin 4} {x : Int} (hf : fnd m pc = some (e0, .istore_n i, len, a, b, c, v)) (hL : st1 (hlm m) L i.val (.inl x) = L') (hp : pc + len = p') (h : wp m (p', L', st, σ) Q) : wp m (pc, L, (.inl x :: st), σ) Q := by
  refine wp_step ?_
  rw [ste_eq hf]
  subst hp
  subst hL
  exact h
theorem w_astore {i : Nat} {x : HD} (hf : fnd m pc = some (e0, .astore i, len, a, b, c, v)) (hL : st1 (hlm m) L i (.inr (.inr x)) = L') (hp : pc + len = p') (h : wp m (p', L', st, σ) Q) : wp m (pc, L, (.inr (.inr x) :: st), σ) Q := by
  refine wp_step ?_
  rw [ste_eq hf]
  subst hp
  subst hL
  exact h
theorem w_astore_n {i : Fin 4} {x : HD} (hf : fnd m pc = some (e0, .astore_n i, len, a, b, c, v)) (hL : st1 (hlm m) L i.val (.inr (.inr x)) = L') (hp : pc + len = p') (h : wp m (p', L', st, σ) Q) : wp m (pc, L, (.inr (.inr x) :: st), σ) Q := by
  refine wp_step ?_
  rw [ste_eq hf]
  subst hp
  subst hL
  exact h
theorem w_lstore_n {i : Fin 4} {x : Int} (hf : fnd m pc = some (e0, .lstore_n i, len, a, b, c, v)) (hh : hlm m = true) (hL : st2 L i.val (.inr (.inl x)) = L') (hp : pc + len = p') (h : wp m (p', L', st, σ) Q) : wp m (pc, L, (.inr (.inl x) :: st), σ) Q := by
  refine wp_step ?_
  rw [ste_eq hf]
  subst hp
  subst hL
  show run1 _ _ _ (bif hlm m then nx (pc + len) (st2 L i.val (.inr (.inl x))) st σ else none)
  rw [hh]
  exact h
theorem w_iinc {i : Nat} {n x : Int} (hf : fnd m pc = some (e0, .iinc i n, len, a, b, c, v)) (hi : L.getD i none = some (.inl x)) (hL : st1 (hlm m) L i (.inl (wr (x + n))) = L') (hp : pc + len = p') (h : wp m (p', L', st, σ) Q) : wp m (pc, L, st, σ) Q := by
  refine wp_step ?_
  rw [ste_eq hf]
  subst hp
  subst hL
  show run1 _ _ _ (match L.getD i none with
    | some (.inl x) => nx (pc + len) (st1 (hlm m) L i (.inl (wr (x + n)))) st σ
    | _ => none)
  rw [hi]
  exact h
theorem w_iadd {x y : Int} (hf : fnd m pc = some (e0, .iadd, len, a, b, c, v)) (hp : pc + len = p') (h : wp m (p', L, (.inl (wr (x + y)) :: st), σ) Q) : wp m (pc, L, (.inl y :: .inl x :: st), σ) Q := by
  refine wp_step ?_
  rw [ste_eq hf]
  subst hp
  exact h
theorem w_isub {x y : Int} (hf : fnd m pc = some (e0, .isub, len, a, b, c, v)) (hp : pc + len = p') (h : wp m (p', L, (.inl (wr (x - y)) :: st), σ) Q) : wp m (pc, L, (.inl y :: .inl x :: st), σ) Q := by
  refine wp_step ?_
  rw [ste_eq hf]
  subst hp
  exact h
theorem w_imul {x y : Int} (hf : fnd m pc = some (e0, .imul, len, a, b, c, v)) (hp : pc + len = p') (h : wp m (p', L, (.inl (wr (x * y)) :: st), σ) Q) : wp m (pc, L, (.inl y :: .inl x :: st), σ) Q := by
  refine wp_step ?_
  rw [ste_eq hf]
  subst hp
  exact h
theorem w_iand {x y : Int} (hf : fnd m pc = some (e0, .iand, len, a, b, c, v)) (hp : pc + len = p') (h : wp m (p', L, (.inl (i_and x y) :: st), σ) Q) : wp m (pc, L, (.inl y :: .inl x :: st), σ) Q := by
  refine wp_step ?_
  rw [ste_eq hf]
  subst hp
  exact h
theorem w_ior {x y : Int} (hf : fnd m pc = some (e0, .ior, len, a, b, c, v)) (hp : pc + len = p') (h : wp m (p', L, (.inl (i_or x y) :: st), σ) Q) : wp m (pc, L, (.inl y :: .inl x :: st), σ) Q := by
  refine wp_step ?_
  rw [ste_eq hf]
  subst hp
  exact h
theorem w_ixor {x y : Int} (hf : fnd m pc = some (e0, .ixor, len, a, b, c, v)) (hp : pc + len = p') (h : wp m (p', L, (.inl (i_xor x y) :: st), σ) Q) : wp m (pc, L, (.inl y :: .inl x :: st), σ) Q := by
  refine wp_step ?_
  rw [ste_eq hf]
  subst hp
  exact h
theorem w_ishl {x y : Int} (hf : fnd m pc = some (e0, .ishl, len, a, b, c, v)) (hp : pc + len = p') (h : wp m (p', L, (.inl (i_shl x y) :: st), σ) Q) : wp m (pc, L, (.inl y :: .inl x :: st), σ) Q := by
  refine wp_step ?_
  rw [ste_eq hf]
  subst hp
  exact h
theorem w_ishr {x y : Int} (hf : fnd m pc = some (e0, .ishr, len, a, b, c, v)) (hp : pc + len = p') (h : wp m (p', L, (.inl (i_shr x y) :: st), σ) Q) : wp m (pc, L, (.inl y :: .inl x :: st), σ) Q := by
  refine wp_step ?_
  rw [ste_eq hf]
  subst hp
  exact h
theorem w_iushr {x y : Int} (hf : fnd m pc = some (e0, .iushr, len, a, b, c, v)) (hp : pc + len = p') (h : wp m (p', L, (.inl (i_ush x y) :: st), σ) Q) : wp m (pc, L, (.inl y :: .inl x :: st), σ) Q := by
  refine wp_step ?_
  rw [ste_eq hf]
  subst hp
  exact h
theorem w_irem {x y : Int} (hf : fnd m pc = some (e0, .irem, len, a, b, c, v)) (hy : y ≠ 0) (hp : pc + len = p') (h : wp m (p', L, (.inl (i_rem x y) :: st), σ) Q) : wp m (pc, L, (.inl y :: .inl x :: st), σ) Q := by
  refine wp_step ?_
  rw [ste_eq hf]
  subst hp
  exact ⟨hy, h⟩
theorem w_ladd {x y : Int} (hf : fnd m pc = some (e0, .ladd, len, a, b, c, v)) (hp : pc + len = p') (h : wp m (p', L, (.inr (.inl (wl (x + y))) :: st), σ) Q) : wp m (pc, L, (.inr (.inl y) :: .inr (.inl x) :: st), σ) Q := by
  refine wp_step ?_
  rw [ste_eq hf]
  subst hp
  exact h
theorem w_lsub {x y : Int} (hf : fnd m pc = some (e0, .lsub, len, a, b, c, v)) (hp : pc + len = p') (h : wp m (p', L, (.inr (.inl (wl (x - y))) :: st), σ) Q) : wp m (pc, L, (.inr (.inl y) :: .inr (.inl x) :: st), σ) Q := by
  refine wp_step ?_
  rw [ste_eq hf]
  subst hp
  exact h
theorem w_lmul {x y : Int} (hf : fnd m pc = some (e0, .lmul, len, a, b, c, v)) (hp : pc + len = p') (h : wp m (p', L, (.inr (.inl (wl (x * y))) :: st), σ) Q) : wp m (pc, L, (.inr (.inl y) :: .inr (.inl x) :: st), σ) Q := by
  refine wp_step ?_
  rw [ste_eq hf]
  subst hp
  exact h
theorem w_lcmp {x y : Int} (hf : fnd m pc = some (e0, .lcmp, len, a, b, c, v)) (hp : pc + len = p') (h : wp m (p', L, (.inl (l_cmp x y) :: st), σ) Q) : wp m (pc, L, (.inr (.inl y) :: .inr (.inl x) :: st), σ) Q := by
  refine wp_step ?_
  rw [ste_eq hf]
  subst hp
  exact h
theorem w_i2l {x : Int} (hf : fnd m pc = some (e0, .i2l, len, a, b, c, v)) (hp : pc + len = p') (h : wp m (p', L, (.inr (.inl x) :: st), σ) Q) : wp m (pc, L, (.inl x :: st), σ) Q := by
  refine wp_step ?_
  rw [ste_eq hf]
  subst hp
  exact h
theorem w_dupI {x : Int} (hf : fnd m pc = some (e0, .dup, len, a, b, c, v)) (hp : pc + len = p') (h : wp m (p', L, (.inl x :: .inl x :: st), σ) Q) : wp m (pc, L, (.inl x :: st), σ) Q := by
  refine wp_step ?_
  rw [ste_eq hf]
  subst hp
  exact h
theorem w_dupR {x : HD} (hf : fnd m pc = some (e0, .dup, len, a, b, c, v)) (hp : pc + len = p') (h : wp m (p', L, (.inr (.inr x) :: .inr (.inr x) :: st), σ) Q) : wp m (pc, L, (.inr (.inr x) :: st), σ) Q := by
  refine wp_step ?_
  rw [ste_eq hf]
  subst hp
  exact h
theorem w_dup2 {y : Int} {x : HD} (hf : fnd m pc = some (e0, .dup2, len, a, b, c, v)) (hp : pc + len = p') (h : wp m (p', L, (.inl y :: .inr (.inr x) :: .inl y :: .inr (.inr x) :: st), σ) Q) : wp m (pc, L, (.inl y :: .inr (.inr x) :: st), σ) Q := by
  refine wp_step ?_
  rw [ste_eq hf]
  subst hp
  exact h
theorem w_dup_x1 {y : Int} {x : HD} (hf : fnd m pc = some (e0, .dup_x1, len, a, b, c, v)) (hp : pc + len = p') (h : wp m (p', L, (.inl y :: .inr (.inr x) :: .inl y :: st), σ) Q) : wp m (pc, L, (.inl y :: .inr (.inr x) :: st), σ) Q := by
  refine wp_step ?_
  rw [ste_eq hf]
  subst hp
  exact h
theorem w_pop {x : Int} (hf : fnd m pc = some (e0, .pop, len, a, b, c, v)) (hp : pc + len = p') (h : wp m (p', L, st, σ) Q) : wp m (pc, L, (.inl x :: st), σ) Q := by
  refine wp_step ?_
  rw [ste_eq hf]
  subst hp
  exact h
theorem w_goto {off : Int} (hf : fnd m pc = some (e0, .goto off, len, a, b, c, v)) (hp : tgt pc off = p') (h : wp m (p', L, st, σ) Q) : wp m (pc, L, st, σ) Q := by
  refine wp_step ?_
  rw [ste_eq hf]
  subst hp
  exact h
theorem w_if {o : Jvm.ClassFile.Cond} {off x : Int} {q' : Nat} (hf : fnd m pc = some (e0, .ifCond o off, len, a, b, c, v)) (hp : tgt pc off = p') (hq : pc + len = q') (h1 : cnd o x 0 → wp m (p', L, st, σ) Q) (h2 : ¬ cnd o x 0 → wp m (q', L, st, σ) Q) : wp m (pc, L, (.inl x :: st), σ) Q := by
  refine wp_step ?_
  rw [ste_eq hf]
  subst hp
  subst hq
  exact ⟨h1, h2⟩
theorem w_icmp {o : Jvm.ClassFile.Cond} {off x y : Int} {q' : Nat} (hf : fnd m pc = some (e0, .if_icmp o off, len, a, b, c, v)) (hp : tgt pc off = p') (hq : pc + len = q') (h1 : cnd o x y → wp m (p', L, st, σ) Q) (h2 : ¬ cnd o x y → wp m (q', L, st, σ) Q) : wp m (pc, L, (.inl y :: .inl x :: st), σ) Q := by
  refine wp_step ?_
  rw [ste_eq hf]
  subst hp
  subst hq
  exact ⟨h1, h2⟩
theorem w_switch {d lo hi x : Int} {offs : Array Int} {cs : List (Int × Nat)} {d' : Nat} (hf : fnd m pc = some (e0, .tableswitch d lo hi offs, len, a, b, c, v)) (hc : swc pc lo offs.toList = cs) (hd : tgt pc d = d') (h : swP x d' (fun p => wp m (p, L, st, σ) Q) cs) : wp m (pc, L, (.inl x :: st), σ) Q := by
  refine wp_step ?_
  rw [ste_eq hf]
  subst hc
  subst hd
  exact h
theorem w_getstatic {i : Nat} (hf : fnd m pc = some (e0, .getstatic i, len, a, b, c, v)) (hp : pc + len = p') (h : wp m (p', L, (.inr (.inr (a, 0, 0)) :: st), σ) Q) : wp m (pc, L, st, σ) Q := by
  refine wp_step ?_
  rw [ste_eq hf]
  subst hp
  exact h
theorem w_getfield {ix t : Nat} {k i : Int} {x : AV} (hf : fnd m pc = some (e0, .getfield ix, len, a, b, c, v)) (hc : cof t = a) (hx : gfv σ t k i b (c : Int) = x) (hp : pc + len = p') (h : wp m (p', L, (x :: st), σ) Q) : wp m (pc, L, (.inr (.inr (t, k, i)) :: st), σ) Q := by
  refine wp_step ?_
  rw [ste_eq hf]
  subst hp
  subst hx
  show run1 _ _ _ (bif Nat.beq (cof t) a then nx (pc + len) L (gfv σ t k i b (c : Int) :: st) σ else none)
  rw [hc, Nat.beq_refl]
  exact h
theorem w_putI {ix t : Nat} {k i x c' : Int} (hf : fnd m pc = some (e0, .putfield ix, len, a, b, c, v)) (hc : cof t = a) (hk : kd t b = 0) (hcc : (c : Int) = c') (hp : pc + len = p') (h : wp m (p', L, st, up σ t k i c' x) Q) : wp m (pc, L, (.inl x :: .inr (.inr (t, k, i)) :: st), σ) Q := by
  refine wp_step ?_
  rw [ste_eq hf]
  subst hp
  subst hcc
  show run1 _ _ _ (bif Nat.beq (cof t) a then (match kd t b with
      | 0 => nx (pc + len) L st (up σ t k i (c : Int) x)
      | 1 => nxg (x = 0 ∨ x = 1) (pc + len) L st (up σ t k i (c : Int) x)
      | _ => none) else none)
  rw [hc, Nat.beq_refl, hk]
  exact h
theorem w_putZ {ix t : Nat} {k i x c' : Int} (hf : fnd m pc = some (e0, .putfield ix, len, a, b, c, v)) (hc : cof t = a) (hk : kd t b = 1) (hcc : (c : Int) = c') (hx : x = 0 ∨ x = 1) (hp : pc + len = p') (h : wp m (p', L, st, up σ t k i c' x) Q) : wp m (pc, L, (.inl x :: .inr (.inr (t, k, i)) :: st), σ) Q := by
  refine wp_step ?_
  rw [ste_eq hf]
  subst hp
  subst hcc
  show run1 _ _ _ (bif Nat.beq (cof t) a then (match kd t b with
      | 0 => nx (pc + len) L st (up σ t k i (c : Int) x)
      | 1 => nxg (x = 0 ∨ x = 1) (pc + len) L st (up σ t k i (c : Int) x)
      | _ => none) else none)
  rw [hc, Nat.beq_refl, hk]
  exact ⟨hx, h⟩
theorem w_putJ {ix t : Nat} {k i x c' : Int} (hf : fnd m pc = some (e0, .putfield ix, len, a, b, c, v)) (hc : cof t = a) (hk : kd t b = 2) (hcc : (c : Int) = c') (hp : pc + len = p') (h : wp m (p', L, st, up σ t k i c' x) Q) : wp m (pc, L, (.inr (.inl x) :: .inr (.inr (t, k, i)) :: st), σ) Q := by
  refine wp_step ?_
  rw [ste_eq hf]
  subst hp
  subst hcc
  show run1 _ _ _ (bif Nat.beq (cof t) a then (match kd t b with
      | 2 => nx (pc + len) L st (up σ t k i (c : Int) x)
      | _ => none) else none)
  rw [hc, Nat.beq_refl, hk]
  exact h
theorem w_iaload {t : Nat} {k i j n : Int} (hf : fnd m pc = some (e0, .iaload, len, a, b, c, v)) (he : ek t = 0) (hn : al t = n) (hj : 0 ≤ j ∧ j < n) (hp : pc + len = p') (h : wp m (p', L, (.inl (σ t k i j) :: st), σ) Q) : wp m (pc, L, (.inl j :: .inr (.inr (t, k, i)) :: st), σ) Q := by
  refine wp_step ?_
  rw [ste_eq hf]
  subst hp
  subst hn
  show run1 _ _ _ (match ek t with
      | 0 => nxg (0 ≤ j ∧ j < al t) (pc + len) L (.inl (σ t k i j) :: st) σ
      | 7 => nxg (0 ≤ j ∧ j < al t) (pc + len) L (.inl (stv t j) :: st) σ
      | _ => none)
  rw [he]
  exact ⟨hj, h⟩
theorem w_ialoadS {t : Nat} {k i j n : Int} (hf : fnd m pc = some (e0, .iaload, len, a, b, c, v)) (he : ek t = 7) (hn : al t = n) (hj : 0 ≤ j ∧ j < n) (hp : pc + len = p') (h : wp m (p', L, (.inl (stv t j) :: st), σ) Q) : wp m (pc, L, (.inl j :: .inr (.inr (t, k, i)) :: st), σ) Q := by
  refine wp_step ?_
  rw [ste_eq hf]
  subst hp
  subst hn
  show run1 _ _ _ (match ek t with
      | 0 => nxg (0 ≤ j ∧ j < al t) (pc + len) L (.inl (σ t k i j) :: st) σ
      | 7 => nxg (0 ≤ j ∧ j < al t) (pc + len) L (.inl (stv t j) :: st) σ
      | _ => none)
  rw [he]
  exact ⟨hj, h⟩
theorem w_baload {t : Nat} {k i j n : Int} (hf : fnd m pc = some (e0, .baload, len, a, b, c, v)) (he : ek t = 1) (hn : al t = n) (hj : 0 ≤ j ∧ j < n) (hp : pc + len = p') (h : wp m (p', L, (.inl (bz (σ t k i j)) :: st), σ) Q) : wp m (pc, L, (.inl j :: .inr (.inr (t, k, i)) :: st), σ) Q := by
  refine wp_step ?_
  rw [ste_eq hf]
  subst hp
  subst hn
  show run1 _ _ _ (match ek t with
      | 1 => nxg (0 ≤ j ∧ j < al t) (pc + len) L (.inl (bz (σ t k i j)) :: st) σ
      | _ => none)
  rw [he]
  exact ⟨hj, h⟩
theorem w_aaload {t : Nat} {k i j n : Int} {x : HD} (hf : fnd m pc = some (e0, .aaload, len, a, b, c, v)) (he : ek t = 3) (hn : al t = n) (hx : cha t k j = x) (hj : 0 ≤ j ∧ j < n) (hp : pc + len = p') (h : wp m (p', L, (.inr (.inr x) :: st), σ) Q) : wp m (pc, L, (.inl j :: .inr (.inr (t, k, i)) :: st), σ) Q := by
  refine wp_step ?_
  rw [ste_eq hf]
  subst hp
  subst hn
  subst hx
  show run1 _ _ _ (match ek t with
      | 3 => nxg (0 ≤ j ∧ j < al t) (pc + len) L (.inr (.inr (cha t k j)) :: st) σ
      | _ => none)
  rw [he]
  exact ⟨hj, h⟩
theorem w_iastore {t : Nat} {k i j x n : Int} (hf : fnd m pc = some (e0, .iastore, len, a, b, c, v)) (he : ek t = 0) (hn : al t = n) (hj : 0 ≤ j ∧ j < n) (hp : pc + len = p') (h : wp m (p', L, st, up σ t k i j x) Q) : wp m (pc, L, (.inl x :: .inl j :: .inr (.inr (t, k, i)) :: st), σ) Q := by
  refine wp_step ?_
  rw [ste_eq hf]
  subst hp
  subst hn
  show run1 _ _ _ (match ek t with
      | 0 => nxg (0 ≤ j ∧ j < al t) (pc + len) L st (up σ t k i j x)
      | _ => none)
  rw [he]
  exact ⟨hj, h⟩
theorem w_bastore {t : Nat} {k i j x n : Int} (hf : fnd m pc = some (e0, .bastore, len, a, b, c, v)) (he : ek t = 1) (hn : al t = n) (hj : (0 ≤ j ∧ j < n) ∧ (x = 0 ∨ x = 1)) (hp : pc + len = p') (h : wp m (p', L, st, up σ t k i j x) Q) : wp m (pc, L, (.inl x :: .inl j :: .inr (.inr (t, k, i)) :: st), σ) Q := by
  refine wp_step ?_
  rw [ste_eq hf]
  subst hp
  subst hn
  show run1 _ _ _ (match ek t with
      | 1 => nxg ((0 ≤ j ∧ j < al t) ∧ (x = 0 ∨ x = 1)) (pc + len) L st (up σ t k i j x)
      | _ => none)
  rw [he]
  exact ⟨hj, h⟩
theorem w_iret {x : Int} (hf : fnd m pc = some (e0, .ireturn, len, a, b, c, v)) (hr : rkm m = 0) (h : Q (some (.inl x)) σ) : wp m (pc, L, [.inl x], σ) Q := by
  refine wp_step ?_
  rw [ste_eq hf]
  show run1 _ _ _ (match rkm m with
      | 0 => some (none, .inr (.inr (.inr (.inr (some (.inl x), σ)))))
      | 1 => some (some (x = 0 ∨ x = 1), .inr (.inr (.inr (.inr (some (.inl x), σ)))))
      | _ => none)
  rw [hr]
  exact h
theorem w_zret {x : Int} (hf : fnd m pc = some (e0, .ireturn, len, a, b, c, v)) (hr : rkm m = 1) (hx : x = 0 ∨ x = 1) (h : Q (some (.inl x)) σ) : wp m (pc, L, [.inl x], σ) Q := by
  refine wp_step ?_
  rw [ste_eq hf]
  show run1 _ _ _ (match rkm m with
      | 0 => some (none, .inr (.inr (.inr (.inr (some (.inl x), σ)))))
      | 1 => some (some (x = 0 ∨ x = 1), .inr (.inr (.inr (.inr (some (.inl x), σ)))))
      | _ => none)
  rw [hr]
  exact ⟨hx, h⟩
theorem w_lret {x : Int} (hf : fnd m pc = some (e0, .lreturn, len, a, b, c, v)) (hr : rkm m = 2) (h : Q (some (.inr (.inl x))) σ) : wp m (pc, L, [.inr (.inl x)], σ) Q := by
  refine wp_step ?_
  rw [ste_eq hf]
  show run1 _ _ _ (match rkm m with
      | 2 => some (none, .inr (.inr (.inr (.inr (some (.inr (.inl x)), σ)))))
      | _ => none)
  rw [hr]
  exact h
theorem w_aret {x : HD} (hf : fnd m pc = some (e0, .areturn, len, a, b, c, v)) (hr : rkm m = 3) (h : Q (some (.inr (.inr x))) σ) : wp m (pc, L, [.inr (.inr x)], σ) Q := by
  refine wp_step ?_
  rw [ste_eq hf]
  show run1 _ _ _ (match rkm m with
      | 3 => some (none, .inr (.inr (.inr (.inr (some (.inr (.inr x)), σ)))))
      | _ => none)
  rw [hr]
  exact h
theorem w_vret (hf : fnd m pc = some (e0, .return_, len, a, b, c, v)) (hr : rkm m = 4) (h : Q none σ) : wp m (pc, L, [], σ) Q := by
  refine wp_step ?_
  rw [ste_eq hf]
  show run1 _ _ _ (match rkm m with
      | 4 => some (none, .inr (.inr (.inr (.inr (none, σ)))))
      | _ => none)
  rw [hr]
  exact h
theorem w_copy {ix t t1 : Nat} {k i k1 i1 sp dp n N N1 : Int} (hf : fnd m pc = some (e0, .invokestatic ix, len, 900, b, c, v)) (he : ek t = 0) (he1 : ek t1 = 0) (hn : al t = N) (hn1 : al t1 = N1) (hr : Nat.ble (cats st) 8 = true) (hg : 0 ≤ sp ∧ 0 ≤ dp ∧ 0 ≤ n ∧ sp + n ≤ N ∧ dp + n ≤ N1) (hp : pc + len = p') (h : wp m (p', L, st, cpy σ t k i sp t1 k1 i1 dp n) Q) :
    wp m (pc, L, (.inl n :: .inl dp :: .inr (.inr (t1, k1, i1)) :: .inl sp :: .inr (.inr (t, k, i)) :: st), σ) Q := by
  refine wp_step ?_
  rw [ste_eq hf]
  subst hp
  subst hn
  subst hn1
  show run1 _ _ _ (match ek t, ek t1 with
        | 0, 0 => bif Nat.ble (cats st) 8 then nxg (0 ≤ sp ∧ 0 ≤ dp ∧ 0 ≤ n ∧ sp + n ≤ al t ∧ dp + n ≤ al t1) (pc + len) L st (cpy σ t k i sp t1 k1 i1 dp n) else none
        | _, _ => none)
  rw [he, he1, hr]
  exact ⟨hg, h⟩
theorem w_slen {ix : Nat} {k i : Int} (hf : fnd m pc = some (e0, .invokevirtual ix, len, 901, b, c, v)) (hr : Nat.ble (cats st) 8 = true) (hg : 0 ≤ k ∧ k < (strs.length : Int)) (hp : pc + len = p') (h : wp m (p', L, (.inl ((strs.getD k.toNat []).length : Int) :: st), σ) Q) : wp m (pc, L, (.inr (.inr (70, k, i)) :: st), σ) Q := by
  refine wp_step ?_
  rw [ste_eq hf]
  subst hp
  have key : ∀ a, Nat.beq a 901 = true → run1 (fun y => wp m y Q) wpM Q (stepI (hlm m) (rkm m) rkm (e0, .invokevirtual ix, len, a, b, c, v) pc L (.inr (.inr (70, k, i)) :: st) σ) := by
    intro a ha
    show run1 _ _ _ (bif Nat.beq a 901 then (bif Nat.ble (cats st) 8 then _ else _) else _)
    rw [ha, hr]
    exact ⟨hg, h⟩
  exact key 901 rfl
theorem w_schar {ix : Nat} {k i j : Int} (hf : fnd m pc = some (e0, .invokevirtual ix, len, 902, b, c, v)) (hr : Nat.ble (cats st) 8 = true) (hg : (0 ≤ k ∧ k < (strs.length : Int)) ∧ 0 ≤ j ∧ j < ((strs.getD k.toNat []).length : Int)) (hp : pc + len = p') (h : wp m (p', L, (.inl ((strs.getD k.toNat []).getD j.toNat 0) :: st), σ) Q) : wp m (pc, L, (.inl j :: .inr (.inr (70, k, i)) :: st), σ) Q := by
  refine wp_step ?_
  rw [ste_eq hf]
  subst hp
  have key : ∀ a, Nat.beq a 901 = false → Nat.beq a 902 = true → run1 (fun y => wp m y Q) wpM Q (stepI (hlm m) (rkm m) rkm (e0, .invokevirtual ix, len, a, b, c, v) pc L (.inl j :: .inr (.inr (70, k, i)) :: st) σ) := by
    intro a ha ha2
    show run1 _ _ _ (bif Nat.beq a 901 then _ else bif Nat.beq a 902 then (bif Nat.ble (cats st) 8 then _ else _) else _)
    rw [ha, ha2, hr]
    exact ⟨hg, h⟩
  exact key 902 rfl rfl
theorem w_callV {ix t : Nat} {k i : Int} {ar : List AV} {K : Option AV → ST → Prop} (hf : fnd m pc = some (e0, .invokevirtual ix, len, a, b, c, v)) (h1 : Nat.beq a 901 = false) (h2 : Nat.beq a 902 = false) (h3 : (Nat.ble b st.length && Nat.ble (cats (st.drop b)) 8 && agk a (st.take b)) = true) (h4 : (st.take b).reverse = .inr (.inr (t, k, i)) :: ar) (h5 : Nat.beq (cof t) c = true) (hd : st.drop b = r) (hp : pc + len = p')
    (hk : ∀ x σ', K x σ' → asK (rkm a) v.toNat (fun w σ' => wp m (p', L, w ++ r, σ') Q) x σ') (h : wpM a (.inr (.inr (t, k, i)) :: ar) σ K) : wp m (pc, L, st, σ) Q := by
  refine wp_step ?_
  rw [ste_eq hf]
  subst hp
  subst hd
  show run1 _ _ _ (bif Nat.beq a 901 then _ else bif Nat.beq a 902 then _ else bif Nat.ble b st.length && Nat.ble (cats (st.drop b)) 8 && agk a (st.take b) then (match (st.take b).reverse with
      | .inr (.inr (t, k, i)) :: ar => bif Nat.beq (cof t) c then some (none, .inr (.inr (.inr (.inl (a, .inr (.inr (t, k, i)) :: ar, rkm a, v.toNat, pc + len, L, st.drop b, σ))))) else none
      | _ => none) else none)
  rw [h1, h2, h3, h4]
  show run1 _ _ _ (bif Nat.beq (cof t) c then some (none, .inr (.inr (.inr (.inl (a, .inr (.inr (t, k, i)) :: ar, rkm a, v.toNat, pc + len, L, st.drop b, σ))))) else none)
  rw [h5]
  exact wpM_mono hk h
theorem w_callS {ix : Nat} {ar : List AV} {K : Option AV → ST → Prop} (hf : fnd m pc = some (e0, .invokestatic ix, len, a, b, c, v)) (h1 : Nat.beq a 900 = false) (h3 : (Nat.ble b st.length && Nat.ble (cats (st.drop b)) 8 && agk a (st.take b)) = true) (h4 : (st.take b).reverse = ar) (hd : st.drop b = r) (hp : pc + len = p')
    (hk : ∀ x σ', K x σ' → asK (rkm a) v.toNat (fun w σ' => wp m (p', L, w ++ r, σ') Q) x σ') (h : wpM a ar σ K) : wp m (pc, L, st, σ) Q := by
  refine wp_step ?_
  rw [ste_eq hf]
  subst hp
  subst hd
  subst h4
  show run1 _ _ _ (bif Nat.beq a 900 then _ else bif Nat.ble b st.length && Nat.ble (cats (st.drop b)) 8 && agk a (st.take b) then some (none, .inr (.inr (.inr (.inl (a, (st.take b).reverse, rkm a, v.toNat, pc + len, L, st.drop b, σ))))) else none)
  rw [h1, h3]
  exact wpM_mono hk h
end WR
theorem wpM_of {m n : Nat} {args : List AV} {L : LV} {σ : ST} {Q : Option AV → ST → Prop} (hm : (mth m).2.1 = n) (hi : ent args ++ List.replicate (n - (ent args).length) none = L) (h : wp m (0, L, [], σ) Q) : wpM m args σ Q := by
  subst hm
  subst hi
  exact h
theorem kI {a T : Nat} {k : Int → ST → Prop} {K : List AV → ST → Prop} (hr : rkm a = 0 ∨ rkm a = 1) (h : ∀ x σ, k x σ → K [.inl x] σ) : ∀ x σ, asI k x σ → asK (rkm a) T K x σ := fun _ _ hk => asI_K hr h hk
theorem kL {a T : Nat} {k : Int → ST → Prop} {K : List AV → ST → Prop} (hr : rkm a = 2) (h : ∀ x σ, k x σ → K [.inr (.inl x)] σ) : ∀ x σ, asL k x σ → asK (rkm a) T K x σ := fun _ _ hk => by rw [hr]; exact asL_K h hk
theorem kR {a T T' : Nat} {k : Int → Int → ST → Prop} {K : List AV → ST → Prop} (hT : T' = T) (hr : rkm a = 3) (h : ∀ x y σ, k x y σ → K [.inr (.inr (T, x, y))] σ) : ∀ x σ, asR T k x σ → asK (rkm a) T' K x σ := fun _ _ hk => by rw [hr, hT]; exact asR_K h hk
theorem kV {a T : Nat} {k : ST → Prop} {K : List AV → ST → Prop} (hr : rkm a = 4) (h : ∀ σ, k σ → K [] σ) : ∀ x σ, asV k x σ → asK (rkm a) T K x σ := fun _ _ hk => by rw [hr]; exact asV_K h hk
def ceB (x : Option CE) (y : CE) : Bool := match x with
  | some z => Nat.beq z.1 y.1 && (decide (z.2.1 = y.2.1) && (Nat.beq z.2.2.1 y.2.2.1 && (Nat.beq z.2.2.2.1 y.2.2.2.1 && (Nat.beq z.2.2.2.2.1 y.2.2.2.2.1 && (Nat.beq z.2.2.2.2.2.1 y.2.2.2.2.2.1 && decide (z.2.2.2.2.2.2 = y.2.2.2.2.2.2))))))
  | none => false
theorem ceB_eq {x : Option CE} {y : CE} (h : ceB x y = true) : x = some y := by
  unfold ceB at h
  split at h
  · rename_i z
    obtain ⟨z1, z2, z3, z4, z5, z6, z7⟩ := z
    obtain ⟨y1, y2, y3, y4, y5, y6, y7⟩ := y
    simp only [Bool.and_eq_true, decide_eq_true_eq] at h
    obtain ⟨h1, h2, h3, h4, h5, h6, h7⟩ := h
    have h1 := Nat.eq_of_beq_eq_true h1
    have h3 := Nat.eq_of_beq_eq_true h3
    have h4 := Nat.eq_of_beq_eq_true h4
    have h5 := Nat.eq_of_beq_eq_true h5
    have h6 := Nat.eq_of_beq_eq_true h6
    rw [h1, h2, h3, h4, h5, h6, h7]
  · cases h
