/-! the machine over a store of ints: cells have names (tag, k, i); ints are Int in range; one step at a time; 'wp' -/
def wr (x : Int) : Int := Int.bmod x 4294967296
def wl (x : Int) : Int := Int.bmod x 18446744073709551616
def bz (x : Int) : Int := if x = 0 then 0 else 1
def i_and (x y : Int) : Int := (Int32.ofInt x &&& Int32.ofInt y).toInt
def i_or (x y : Int) : Int := (Int32.ofInt x ||| Int32.ofInt y).toInt
def i_xor (x y : Int) : Int := (Int32.ofInt x ^^^ Int32.ofInt y).toInt
def i_shl (x y : Int) : Int := (Int32.ofInt x <<< (Int32.ofInt y &&& 31)).toInt
def i_shr (x y : Int) : Int := (Int32.ofInt x >>> (Int32.ofInt y &&& 31)).toInt
def i_ush (x y : Int) : Int := ((Int32.ofInt x).toUInt32 >>> ((Int32.ofInt y).toUInt32 &&& Int32.toUInt32 31)).toInt32.toInt
def i_rem (x y : Int) : Int := (Int32.ofInt x - Int32.ofInt x / Int32.ofInt y * Int32.ofInt y).toInt
def l_cmp (x y : Int) : Int := if x < y then -1 else if x = y then 0 else 1
/-- a store with one cell's slot written -/
def up (σ : ST) (t : Nat) (k i s v : Int) : ST := fun t' k' i' s' => if t' = t ∧ k' = k ∧ i' = i ∧ s' = s then v else σ t' k' i' s'
/-- a store with a piece of one row written over by a piece of another -/
def cpy (σ : ST) (t : Nat) (k i sp : Int) (t1 : Nat) (k1 i1 dp n : Int) : ST := fun t' k' i' s' => if t' = t1 ∧ k' = k1 ∧ i' = i1 ∧ dp ≤ s' ∧ s' < dp + n then σ t k i (sp + (s' - dp)) else σ t' k' i' s'
def gfv (σ : ST) (t : Nat) (k i : Int) (b : Nat) (c : Int) : AV := match kd t b with
  | 0 => .inl (σ t k i c)
  | 1 => .inl (bz (σ t k i c))
  | 2 => .inr (.inl (σ t k i c))
  | _ => .inr (.inr (chf t k i b))
def clr (L : LV) (i : Nat) : LV := match i with
  | 0 => L
  | j + 1 => match L.getD j none with
    | some (.inr (.inl _)) => L.set j none
    | _ => L
def st1 (hl : Bool) (L : LV) (i : Nat) (v : AV) : LV := bif hl then (clr L i).set i (some v) else L.set i (some v)
def st2 (L : LV) (i : Nat) (v : AV) : LV := ((clr L i).set i (some v)).set (i + 1) none
def cat (v : AV) : Nat := match v with
  | .inr (.inl _) => 2
  | _ => 1
def cats : List AV → Nat
  | [] => 0
  | v :: r => cat v + cats r
abbrev NX : Type := Nat × LV × List AV × ST
abbrev OC : Type := NX ⊕ ((Prop × Nat × Nat × LV × List AV × ST) ⊕ ((Int × List (Int × Nat) × Nat × LV × List AV × ST) ⊕ ((Nat × List AV × Nat × Nat × NX) ⊕ (Option AV × ST))))
def nx (pc : Nat) (L : LV) (st : List AV) (σ : ST) : Option (Option Prop × OC) := some (none, .inl (pc, L, st, σ))
def nxg (g : Prop) (pc : Nat) (L : LV) (st : List AV) (σ : ST) : Option (Option Prop × OC) := some (some g, .inl (pc, L, st, σ))
def brx (c : Prop) (p1 p2 : Nat) (L : LV) (st : List AV) (σ : ST) : Option (Option Prop × OC) := some (none, .inr (.inl (c, p1, p2, L, st, σ)))
def tgt (pc : Nat) (off : Int) : Nat := ((pc : Int) + off).toNat
def cnd (o : Jvm.ClassFile.Cond) (x y : Int) : Prop := match o with
  | .eq => x = y
  | .ne => x ≠ y
  | .lt => x < y
  | .ge => y ≤ x
  | .gt => y < x
  | .le => x ≤ y
def swc (pc : Nat) : Int → List Int → List (Int × Nat)
  | _, [] => []
  | lo, o :: r => (lo, tgt pc o) :: swc pc (lo + 1) r
def find (cd : List (List CE)) (pc : Nat) : Option CE := (cd.getD (pc / 16) []).find? (fun e => Nat.beq e.1 pc)

/-- the arguments have room in the method's locals; only one method takes longs -/
def agk (a : Nat) (as : List AV) : Bool := Nat.ble (cats as) (mth a).2.1 && (Nat.beq a m_Z_spelled || Nat.beq (cats as) as.length)
/-- one instruction -/
def stepI (hl : Bool) (rk : Nat) (rkof : Nat → Nat) (e : CE) (pc : Nat) (L : LV) (st : List AV) (σ : ST) : Option (Option Prop × OC) :=
  match e with
  | (_, ins, len, a, b, c, v) =>
  match ins with
  | .iconst n => nx (pc + len) L (.inl n :: st) σ
  | .bipush n => nx (pc + len) L (.inl n :: st) σ
  | .sipush n => nx (pc + len) L (.inl n :: st) σ
  | .lconst n => nx (pc + len) L (.inr (.inl (n.val : Int)) :: st) σ
  | .ldc _ => match a with
    | 0 => nx (pc + len) L (.inl v :: st) σ
    | _ => nx (pc + len) L (.inr (.inr (70, v, 0)) :: st) σ
  | .ldc_w _ => match a with
    | 0 => nx (pc + len) L (.inl v :: st) σ
    | _ => nx (pc + len) L (.inr (.inr (70, v, 0)) :: st) σ
  | .ldc2_w _ => nx (pc + len) L (.inr (.inl v) :: st) σ
  | .iload i => match L.getD i none with
    | some (.inl x) => nx (pc + len) L (.inl x :: st) σ
    | _ => none
  | .iload_n i => match L.getD i.val none with
    | some (.inl x) => nx (pc + len) L (.inl x :: st) σ
    | _ => none
  | .lload_n i => match L.getD i.val none with
    | some (.inr (.inl x)) => nx (pc + len) L (.inr (.inl x) :: st) σ
    | _ => none
  | .aload i => match L.getD i none with
    | some (.inr (.inr x)) => nx (pc + len) L (.inr (.inr x) :: st) σ
    | _ => none
  | .aload_n i => match L.getD i.val none with
    | some (.inr (.inr x)) => nx (pc + len) L (.inr (.inr x) :: st) σ
    | _ => none
  | .istore i => match st with
    | .inl x :: r => nx (pc + len) (st1 hl L i (.inl x)) r σ
    | _ => none
  | .istore_n i => match st with
    | .inl x :: r => nx (pc + len) (st1 hl L i.val (.inl x)) r σ
    | _ => none
  | .lstore_n i => match st with
    | .inr (.inl x) :: r => bif hl then nx (pc + len) (st2 L i.val (.inr (.inl x))) r σ else none
    | _ => none
  | .astore i => match st with
    | .inr (.inr x) :: r => nx (pc + len) (st1 hl L i (.inr (.inr x))) r σ
    | _ => none
  | .astore_n i => match st with
    | .inr (.inr x) :: r => nx (pc + len) (st1 hl L i.val (.inr (.inr x))) r σ
    | _ => none
  | .iinc i n => match L.getD i none with
    | some (.inl x) => nx (pc + len) (st1 hl L i (.inl (wr (x + n)))) st σ
    | _ => none
  | .iadd => match st with
    | .inl y :: .inl x :: r => nx (pc + len) L (.inl (wr (x + y)) :: r) σ
    | _ => none
  | .isub => match st with
    | .inl y :: .inl x :: r => nx (pc + len) L (.inl (wr (x - y)) :: r) σ
    | _ => none
  | .imul => match st with
    | .inl y :: .inl x :: r => nx (pc + len) L (.inl (wr (x * y)) :: r) σ
    | _ => none
  | .irem => match st with
    | .inl y :: .inl x :: r => nxg (y ≠ 0) (pc + len) L (.inl (i_rem x y) :: r) σ
    | _ => none
  | .iand => match st with
    | .inl y :: .inl x :: r => nx (pc + len) L (.inl (i_and x y) :: r) σ
    | _ => none
  | .ior => match st with
    | .inl y :: .inl x :: r => nx (pc + len) L (.inl (i_or x y) :: r) σ
    | _ => none
  | .ixor => match st with
    | .inl y :: .inl x :: r => nx (pc + len) L (.inl (i_xor x y) :: r) σ
    | _ => none
  | .ishl => match st with
    | .inl y :: .inl x :: r => nx (pc + len) L (.inl (i_shl x y) :: r) σ
    | _ => none
  | .ishr => match st with
    | .inl y :: .inl x :: r => nx (pc + len) L (.inl (i_shr x y) :: r) σ
    | _ => none
  | .iushr => match st with
    | .inl y :: .inl x :: r => nx (pc + len) L (.inl (i_ush x y) :: r) σ
    | _ => none
  | .ladd => match st with
    | .inr (.inl y) :: .inr (.inl x) :: r => nx (pc + len) L (.inr (.inl (wl (x + y))) :: r) σ
    | _ => none
  | .lsub => match st with
    | .inr (.inl y) :: .inr (.inl x) :: r => nx (pc + len) L (.inr (.inl (wl (x - y))) :: r) σ
    | _ => none
  | .lmul => match st with
    | .inr (.inl y) :: .inr (.inl x) :: r => nx (pc + len) L (.inr (.inl (wl (x * y))) :: r) σ
    | _ => none
  | .lcmp => match st with
    | .inr (.inl y) :: .inr (.inl x) :: r => nx (pc + len) L (.inl (l_cmp x y) :: r) σ
    | _ => none
  | .i2l => match st with
    | .inl x :: r => nx (pc + len) L (.inr (.inl x) :: r) σ
    | _ => none
  | .dup => match st with
    | .inl x :: r => nx (pc + len) L (.inl x :: .inl x :: r) σ
    | .inr (.inr x) :: r => nx (pc + len) L (.inr (.inr x) :: .inr (.inr x) :: r) σ
    | _ => none
  | .dup2 => match st with
    | .inl y :: .inr (.inr x) :: r => nx (pc + len) L (.inl y :: .inr (.inr x) :: .inl y :: .inr (.inr x) :: r) σ
    | _ => none
  | .dup_x1 => match st with
    | .inl y :: .inr (.inr x) :: r => nx (pc + len) L (.inl y :: .inr (.inr x) :: .inl y :: r) σ
    | _ => none
  | .pop => match st with
    | .inl _ :: r => nx (pc + len) L r σ
    | _ => none
  | .goto off => nx (tgt pc off) L st σ
  | .ifCond o off => match st with
    | .inl x :: r => brx (cnd o x 0) (tgt pc off) (pc + len) L r σ
    | _ => none
  | .if_icmp o off => match st with
    | .inl y :: .inl x :: r => brx (cnd o x y) (tgt pc off) (pc + len) L r σ
    | _ => none
  | .tableswitch d lo _ offs => match st with
    | .inl x :: r => some (none, .inr (.inr (.inl (x, swc pc lo offs.toList, tgt pc d, L, r, σ))))
    | _ => none
  | .getstatic _ => nx (pc + len) L (.inr (.inr (a, 0, 0)) :: st) σ
  | .getfield _ => match st with
    | .inr (.inr (t, k, i)) :: r => bif Nat.beq (cof t) a then nx (pc + len) L (gfv σ t k i b (c : Int) :: r) σ else none
    | _ => none
  | .putfield _ => match st with
    | .inl x :: .inr (.inr (t, k, i)) :: r => bif Nat.beq (cof t) a then (match kd t b with
      | 0 => nx (pc + len) L r (up σ t k i (c : Int) x)
      | 1 => nxg (x = 0 ∨ x = 1) (pc + len) L r (up σ t k i (c : Int) x)
      | _ => none) else none
    | .inr (.inl x) :: .inr (.inr (t, k, i)) :: r => bif Nat.beq (cof t) a then (match kd t b with
      | 2 => nx (pc + len) L r (up σ t k i (c : Int) x)
      | _ => none) else none
    | _ => none
  | .iaload => match st with
    | .inl j :: .inr (.inr (t, k, i)) :: r => (match ek t with
      | 0 => nxg (0 ≤ j ∧ j < al t) (pc + len) L (.inl (σ t k i j) :: r) σ
      | 7 => nxg (0 ≤ j ∧ j < al t) (pc + len) L (.inl (stv t j) :: r) σ
      | _ => none)
    | _ => none
  | .baload => match st with
    | .inl j :: .inr (.inr (t, k, i)) :: r => (match ek t with
      | 1 => nxg (0 ≤ j ∧ j < al t) (pc + len) L (.inl (bz (σ t k i j)) :: r) σ
      | _ => none)
    | _ => none
  | .aaload => match st with
    | .inl j :: .inr (.inr (t, k, _)) :: r => (match ek t with
      | 3 => nxg (0 ≤ j ∧ j < al t) (pc + len) L (.inr (.inr (cha t k j)) :: r) σ
      | _ => none)
    | _ => none
  | .iastore => match st with
    | .inl x :: .inl j :: .inr (.inr (t, k, i)) :: r => (match ek t with
      | 0 => nxg (0 ≤ j ∧ j < al t) (pc + len) L r (up σ t k i j x)
      | _ => none)
    | _ => none
  | .bastore => match st with
    | .inl x :: .inl j :: .inr (.inr (t, k, i)) :: r => (match ek t with
      | 1 => nxg ((0 ≤ j ∧ j < al t) ∧ (x = 0 ∨ x = 1)) (pc + len) L r (up σ t k i j x)
      | _ => none)
    | _ => none
  | .ireturn => match st with
    | [.inl x] => (match rk with
      | 0 => some (none, .inr (.inr (.inr (.inr (some (.inl x), σ)))))
      | 1 => some (some (x = 0 ∨ x = 1), .inr (.inr (.inr (.inr (some (.inl x), σ)))))
      | _ => none)
    | _ => none
  | .lreturn => match st with
    | [.inr (.inl x)] => (match rk with
      | 2 => some (none, .inr (.inr (.inr (.inr (some (.inr (.inl x)), σ)))))
      | _ => none)
    | _ => none
  | .areturn => match st with
    | [.inr (.inr x)] => (match rk with
      | 3 => some (none, .inr (.inr (.inr (.inr (some (.inr (.inr x)), σ)))))
      | _ => none)
    | _ => none
  | .return_ => match st with
    | [] => (match rk with
      | 4 => some (none, .inr (.inr (.inr (.inr (none, σ)))))
      | _ => none)
    | _ => none
  | .invokevirtual _ => bif Nat.beq a 901 then (match st with
      | .inr (.inr (70, k, _)) :: r => bif Nat.ble (cats r) 8 then nxg (0 ≤ k ∧ k < (strs.length : Int)) (pc + len) L (.inl ((strs.getD k.toNat []).length : Int) :: r) σ else none
      | _ => none)
    else bif Nat.beq a 902 then (match st with
      | .inl j :: .inr (.inr (70, k, _)) :: r => bif Nat.ble (cats r) 8 then nxg ((0 ≤ k ∧ k < (strs.length : Int)) ∧ 0 ≤ j ∧ j < ((strs.getD k.toNat []).length : Int)) (pc + len) L (.inl ((strs.getD k.toNat []).getD j.toNat 0) :: r) σ else none
      | _ => none)
    else bif Nat.ble b st.length && Nat.ble (cats (st.drop b)) 8 && agk a (st.take b) then (match (st.take b).reverse with
      | .inr (.inr (t, k, i)) :: ar => bif Nat.beq (cof t) c then some (none, .inr (.inr (.inr (.inl (a, .inr (.inr (t, k, i)) :: ar, rkof a, v.toNat, pc + len, L, st.drop b, σ))))) else none
      | _ => none) else none
  | .invokestatic _ => bif Nat.beq a 900 then (match st with
      | .inl n :: .inl dp :: .inr (.inr (t1, k1, i1)) :: .inl sp :: .inr (.inr (t, k, i)) :: r => (match ek t, ek t1 with
        | 0, 0 => bif Nat.ble (cats r) 8 then nxg (0 ≤ sp ∧ 0 ≤ dp ∧ 0 ≤ n ∧ sp + n ≤ al t ∧ dp + n ≤ al t1) (pc + len) L r (cpy σ t k i sp t1 k1 i1 dp n) else none
        | _, _ => none)
      | _ => none)
    else bif Nat.ble b st.length && Nat.ble (cats (st.drop b)) 8 && agk a (st.take b) then some (none, .inr (.inr (.inr (.inl (a, (st.take b).reverse, rkof a, v.toNat, pc + len, L, st.drop b, σ))))) else none
  | _ => none
def step (hl : Bool) (cd : List (List CE)) (rk : Nat) (rkof : Nat → Nat) (pc : Nat) (L : LV) (st : List AV) (σ : ST) : Option (Option Prop × OC) :=
  match find cd pc with
  | none => none
  | some e => stepI hl rk rkof e pc L st σ
def swP (x : Int) (d : Nat) (K : Nat → Prop) : List (Int × Nat) → Prop
  | [] => K d
  | (v, t) :: r => (x = v → K t) ∧ (x ≠ v → swP x d K r)
/-- how a call goes on: by the kind of answer -/
def asK (rk T : Nat) (k : List AV → ST → Prop) (r : Option AV) (σ : ST) : Prop := match rk with
  | 0 => match r with
    | some (.inl x) => k [.inl x] σ
    | _ => False
  | 1 => match r with
    | some (.inl x) => k [.inl x] σ
    | _ => False
  | 2 => match r with
    | some (.inr (.inl x)) => k [.inr (.inl x)] σ
    | _ => False
  | 3 => match r with
    | some (.inr (.inr (t, a, b))) => t = T ∧ k [.inr (.inr (T, a, b))] σ
    | _ => False
  | _ => match r with
    | none => k [] σ
    | _ => False
def fin (K : NX → Prop) (C : Nat → List AV → ST → (Option AV → ST → Prop) → Prop) (Q : Option AV → ST → Prop) (o : OC) : Prop := match o with
  | .inl x => K x
  | .inr (.inl (c, p1, p2, L, st, σ)) => (c → K (p1, L, st, σ)) ∧ (¬ c → K (p2, L, st, σ))
  | .inr (.inr (.inl (x, cs, d, L, st, σ))) => swP x d (fun p => K (p, L, st, σ)) cs
  | .inr (.inr (.inr (.inl (m, args, rk, T, pc, L, st, σ)))) => C m args σ (asK rk T (fun v σ' => K (pc, L, v ++ st, σ')))
  | .inr (.inr (.inr (.inr (r, σ)))) => Q r σ
def gd (g : Option Prop) (P : Prop) : Prop := match g with
  | none => P
  | some q => q ∧ P
def hlm (m : Nat) : Bool := Nat.beq m m_Z_spelled
def rkm (m : Nat) : Nat := (mth m).2.2
def fnd (m pc : Nat) : Option CE := find (mth m).1 pc
def ste (m : Nat) (x : NX) : Option (Option Prop × OC) := step (hlm m) (mth m).1 (rkm m) rkm x.1 x.2.1 x.2.2.1 x.2.2.2
def run1 (K : NX → Prop) (C : Nat → List AV → ST → (Option AV → ST → Prop) → Prop) (Q : Option AV → ST → Prop) (o : Option (Option Prop × OC)) : Prop := match o with
  | none => False
  | some (g, o) => gd g (fin K C Q o)
def ent : List AV → LV
  | [] => []
  | .inr (.inl x) :: r => some (.inr (.inl x)) :: none :: ent r
  | .inr (.inr x) :: r => some (.inr (.inr x)) :: ent r
  | .inl x :: r => some (.inl x) :: ent r
def inits (m : Nat) (args : List AV) : LV := ent args ++ List.replicate ((mth m).2.1 - (ent args).length) none
def wpF : Nat → Nat → NX → (Option AV → ST → Prop) → Prop
  | 0, _, _, _ => False
  | n + 1, m, x, Q => run1 (fun y => wpF n m y Q) (fun m' args σ Q' => wpF n m' (0, inits m' args, [], σ) Q') Q (ste m x)
def wp (m : Nat) (x : NX) (Q : Option AV → ST → Prop) : Prop := ∃ n, wpF n m x Q
/-- a method, from its start -/
def wpM (m : Nat) (args : List AV) (σ : ST) (Q : Option AV → ST → Prop) : Prop := wp m (0, inits m args, [], σ) Q
/-- many steps, up to the places where 'cut' says stop -/
def wpG (cut : Nat → Bool) (m : Nat) (Q : Option AV → ST → Prop) : Nat → NX → Prop
  | 0, x => wp m x Q
  | n + 1, x => run1 (fun y => bif cut y.1 then wp m y Q else wpG cut m Q n y) wpM Q (ste m x)
theorem swP_mono {x : Int} {d : Nat} {K K' : Nat → Prop} (h : ∀ p, K p → K' p) : ∀ {cs : List (Int × Nat)}, swP x d K cs → swP x d K' cs
  | [], hk => h _ hk
  | (_, _) :: _, hk => ⟨fun e => h _ (hk.1 e), fun e => swP_mono h (hk.2 e)⟩
theorem swP_one {x : Int} {d : Nat} {K : Nat → Prop} : ∀ {cs : List (Int × Nat)}, swP x d K cs → ∃ p, K p ∧ ∀ K' : Nat → Prop, K' p → swP x d K' cs
  | [], hk => ⟨d, hk, fun _ h => h⟩
  | (v, t) :: r, hk => by
    by_cases e : x = v
    · exact ⟨t, hk.1 e, fun K' h => ⟨fun _ => h, fun z => absurd e z⟩⟩
    · obtain ⟨p, h1, h2⟩ := swP_one (hk.2 e)
      exact ⟨p, h1, fun K' h => ⟨fun z => absurd z e, fun _ => h2 K' h⟩⟩
theorem asK_mono {rk T : Nat} {k k' : List AV → ST → Prop} (h : ∀ v σ, k v σ → k' v σ) {r : Option AV} {σ : ST} (hk : asK rk T k r σ) : asK rk T k' r σ := by
  unfold asK at hk ⊢
  split at hk <;> split at hk <;> first | exact h _ _ hk | exact ⟨hk.1, h _ _ hk.2⟩ | exact hk.elim
theorem asK_one {rk T : Nat} {k : List AV → ST → Prop} {r : Option AV} {σ : ST} (hk : asK rk T k r σ) : ∃ v, k v σ ∧ ∀ k' : List AV → ST → Prop, k' v σ → asK rk T k' r σ := by
  unfold asK at hk
  unfold asK
  split at hk <;> split at hk <;> first | exact ⟨_, hk, fun _ h => h⟩ | exact ⟨_, hk.2, fun _ h => ⟨hk.1, h⟩⟩ | exact hk.elim
theorem run1_mono {K K' : NX → Prop} {C C' : Nat → List AV → ST → (Option AV → ST → Prop) → Prop} {Q Q' : Option AV → ST → Prop} (hK : ∀ y, K y → K' y)
    (hC : ∀ m a σ (P P' : Option AV → ST → Prop), (∀ r σ', P r σ' → P' r σ') → C m a σ P → C' m a σ P') (hQ : ∀ r σ, Q r σ → Q' r σ) {o : Option (Option Prop × OC)} (h : run1 K C Q o) : run1 K' C' Q' o := by
  have hf : ∀ o, fin K C Q o → fin K' C' Q' o := by
    intro o h
    rcases o with x | ⟨c, p1, p2, L, st, σ⟩ | ⟨x, cs, d, L, st, σ⟩ | ⟨m, args, rk, T, pc, L, st, σ⟩ | ⟨r, σ⟩
    · exact hK _ h
    · exact ⟨fun e => hK _ (h.1 e), fun e => hK _ (h.2 e)⟩
    · exact swP_mono (fun p hp => hK _ hp) h
    · exact hC _ _ _ _ _ (fun r σ' hr => asK_mono (fun v σ2 hv => hK _ hv) hr) h
    · exact hQ _ _ h
  rcases o with _ | ⟨_ | g, o⟩
  · exact h
  · exact hf o h
  · exact ⟨h.1, hf o h.2⟩
theorem wpF_mono {Q Q' : Option AV → ST → Prop} (hQ : ∀ r σ, Q r σ → Q' r σ) : ∀ (n m : Nat) (x : NX), wpF n m x Q → wpF n m x Q'
  | 0, _, _, h => h
  | n + 1, m, x, h => run1_mono (K' := fun y => wpF n m y Q') (C' := fun m' args σ Q' => wpF n m' (0, inits m' args, [], σ) Q') (fun y hy => wpF_mono hQ n m y hy) (fun m' a σ P P' hP hc => wpF_monoP n m' _ hP hc) hQ h
where
  wpF_monoP (n m : Nat) (x : NX) {P P' : Option AV → ST → Prop} (hP : ∀ r σ, P r σ → P' r σ) (h : wpF n m x P) : wpF n m x P' := by
    induction n generalizing m x P P' with
    | zero => exact h
    | succ n ih => exact run1_mono (K' := fun y => wpF n m y P') (C' := fun m' args σ Q' => wpF n m' (0, inits m' args, [], σ) Q') (fun y hy => ih m y hP hy) (fun m' a σ P P' hP hc => ih m' _ hP hc) hP h
theorem wpF_succ : ∀ (n m : Nat) (x : NX) (Q : Option AV → ST → Prop), wpF n m x Q → wpF (n + 1) m x Q
  | 0, _, _, _, h => h.elim
  | n + 1, m, x, Q, h => run1_mono (K := fun y => wpF n m y Q) (K' := fun y => wpF (n + 1) m y Q) (C := fun m' args σ Q' => wpF n m' (0, inits m' args, [], σ) Q') (C' := fun m' args σ Q' => wpF (n + 1) m' (0, inits m' args, [], σ) Q') (fun y hy => wpF_succ n m y Q hy) (fun m' a σ P P' hP hc => wpF_mono hP _ _ _ (wpF_succ n m' _ P hc)) (fun _ _ hq => hq) h
theorem wpF_le {n n' m : Nat} {x : NX} {Q : Option AV → ST → Prop} (hn : n ≤ n') (h : wpF n m x Q) : wpF n' m x Q := by
  induction hn with
  | refl => exact h
  | step _ ih => exact wpF_succ _ _ _ _ ih
/-- a run has one end -/
theorem wpF_one : ∀ (n m : Nat) (x : NX) (Q : Option AV → ST → Prop), wpF n m x Q → ∃ r σ, Q r σ ∧ ∀ Q' : Option AV → ST → Prop, Q' r σ → wpF n m x Q'
  | 0, _, _, _, h => h.elim
  | n + 1, m, x, Q, h => by
    show ∃ r σ, Q r σ ∧ ∀ Q' : Option AV → ST → Prop, Q' r σ → run1 (fun y => wpF n m y Q') (fun m' args σ Q' => wpF n m' (0, inits m' args, [], σ) Q') Q' (ste m x)
    have hf : ∀ o, fin (fun y => wpF n m y Q) (fun m' args σ Q' => wpF n m' (0, inits m' args, [], σ) Q') Q o → ∃ r σ, Q r σ ∧ ∀ Q' : Option AV → ST → Prop, Q' r σ → fin (fun y => wpF n m y Q') (fun m' args σ Q' => wpF n m' (0, inits m' args, [], σ) Q') Q' o := by
      intro o h
      rcases o with x | ⟨c, p1, p2, L, st, σ⟩ | ⟨x, cs, d, L, st, σ⟩ | ⟨m', args, rk, T, pc, L, st, σ⟩ | ⟨r, σ⟩
      · exact wpF_one n m x Q h
      · by_cases e : c
        · obtain ⟨r, σ1, h1, h2⟩ := wpF_one n m _ Q (h.1 e)
          exact ⟨r, σ1, h1, fun Q' hq => ⟨fun _ => h2 Q' hq, fun z => absurd e z⟩⟩
        · obtain ⟨r, σ1, h1, h2⟩ := wpF_one n m _ Q (h.2 e)
          exact ⟨r, σ1, h1, fun Q' hq => ⟨fun z => absurd z e, fun _ => h2 Q' hq⟩⟩
      · obtain ⟨p, h1, h2⟩ := swP_one (K := fun p => wpF n m (p, L, st, σ) Q) h
        obtain ⟨r, σ1, h3, h4⟩ := wpF_one n m _ Q h1
        exact ⟨r, σ1, h3, fun Q' hq => h2 (fun p => wpF n m (p, L, st, σ) Q') (h4 Q' hq)⟩
      · obtain ⟨r1, σ1, h1, h2⟩ := wpF_one n m' _ _ h
        obtain ⟨v, h3, h4⟩ := asK_one h1
        obtain ⟨r, σ2, h5, h6⟩ := wpF_one n m _ Q h3
        exact ⟨r, σ2, h5, fun Q' hq => h2 _ (h4 _ (h6 Q' hq))⟩
      · exact ⟨r, σ, h, fun Q' hq => hq⟩
    replace h : run1 (fun y => wpF n m y Q) (fun m' args σ Q' => wpF n m' (0, inits m' args, [], σ) Q') Q (ste m x) := h
    generalize ste m x = o at h ⊢
    rcases o with _ | ⟨_ | g, o⟩
    · exact False.elim h
    · exact hf o h
    · obtain ⟨r, σ, h1, h2⟩ := hf o h.2
      exact ⟨r, σ, h1, fun Q' hq => ⟨h.1, h2 Q' hq⟩⟩
theorem wpM_mono {m : Nat} {args : List AV} {σ : ST} {Q Q' : Option AV → ST → Prop} (hQ : ∀ r σ, Q r σ → Q' r σ) (h : wpM m args σ Q) : wpM m args σ Q' := by
  obtain ⟨n, h⟩ := h
  exact ⟨n, wpF_mono hQ n m _ h⟩
/-- one step, without a count -/
theorem wp_step {m : Nat} {x : NX} {Q : Option AV → ST → Prop} (h : run1 (fun y => wp m y Q) wpM Q (ste m x)) : wp m x Q := by
  have hf : ∀ o, fin (fun y => wp m y Q) wpM Q o → ∃ n, fin (fun y => wpF n m y Q) (fun m' args σ Q' => wpF n m' (0, inits m' args, [], σ) Q') Q o := by
    intro o h
    rcases o with x | ⟨c, p1, p2, L, st, σ⟩ | ⟨x, cs, d, L, st, σ⟩ | ⟨m', args, rk, T, pc, L, st, σ⟩ | ⟨r, σ⟩
    · exact h
    · by_cases e : c
      · obtain ⟨n, hn⟩ := h.1 e
        exact ⟨n, fun _ => hn, fun z => absurd e z⟩
      · obtain ⟨n, hn⟩ := h.2 e
        exact ⟨n, fun z => absurd z e, fun _ => hn⟩
    · obtain ⟨p, ⟨n, hn⟩, h2⟩ := swP_one (K := fun p => wp m (p, L, st, σ) Q) h
      exact ⟨n, h2 (fun p => wpF n m (p, L, st, σ) Q) hn⟩
    · obtain ⟨n1, h⟩ := h
      obtain ⟨r1, σ1, h1, h2⟩ := wpF_one n1 m' _ _ h
      obtain ⟨v, ⟨n2, h3⟩, h4⟩ := asK_one h1
      exact ⟨max n1 n2, wpF_le (Nat.le_max_left _ _) (h2 _ (h4 _ (wpF_le (Nat.le_max_right _ _) h3)))⟩
    · exact ⟨0, h⟩
  unfold wp
  generalize hs : ste m x = o at h
  rcases o with _ | ⟨_ | g, o⟩
  · exact False.elim h
  · obtain ⟨n, hn⟩ := hf o h
    exact ⟨n + 1, by show run1 _ _ _ (ste m x); rw [hs]; exact hn⟩
  · obtain ⟨n, hn⟩ := hf o h.2
    exact ⟨n + 1, by show run1 _ _ _ (ste m x); rw [hs]; exact ⟨h.1, hn⟩⟩
theorem wpG_wp {cut : Nat → Bool} {m : Nat} {Q : Option AV → ST → Prop} : ∀ (n : Nat) (x : NX), wpG cut m Q n x → wp m x Q
  | 0, _, h => h
  | n + 1, x, h => wp_step (run1_mono (K := fun y => bif cut y.1 then wp m y Q else wpG cut m Q n y) (K' := fun y => wp m y Q) (C := wpM) (C' := wpM) (Q := Q) (fun y hy => by
      cases hc : cut y.1 with
      | true => rw [hc] at hy; exact hy
      | false => rw [hc] at hy; exact wpG_wp n y hy) (fun m' a σ P P' hP hc => wpM_mono hP hc) (fun _ _ hq => hq) h)
