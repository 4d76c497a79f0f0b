/-! the numbers: Int in range over Int32, Int64; the locals -/
def conc (ad : HD → Nat) : AV → Value
  | .inl x => .int (Int32.ofInt x)
  | .inr (.inl x) => .long (Int64.ofInt x)
  | .inr (.inr h) => .ref (ad h)
def in32 (x : Int) : Prop := -2147483648 ≤ x ∧ x < 2147483648
def in64 (x : Int) : Prop := -9223372036854775808 ≤ x ∧ x < 9223372036854775808
theorem n_toInt {x : Int} (h : in32 x) : (Int32.ofInt x).toInt = x := Int32.toInt_ofInt_of_le (by have := h.1; omega) (by have := h.2; omega)
theorem n_toInt64 {x : Int} (h : in64 x) : (Int64.ofInt x).toInt = x := Int64.toInt_ofInt_of_le (by have := h.1; omega) (by have := h.2; omega)
theorem n_eq {x y : Int} (hx : in32 x) (hy : in32 y) : Int32.ofInt x = Int32.ofInt y ↔ x = y := by
  rw [← Int32.toInt_inj, n_toInt hx, n_toInt hy]
theorem n_lt {x y : Int} (hx : in32 x) (hy : in32 y) : Int32.ofInt x < Int32.ofInt y ↔ x < y := by
  rw [Int32.lt_iff_toInt_lt, n_toInt hx, n_toInt hy]
theorem n_le {x y : Int} (hx : in32 x) (hy : in32 y) : Int32.ofInt x ≤ Int32.ofInt y ↔ x ≤ y := by
  rw [Int32.le_iff_toInt_le, n_toInt hx, n_toInt hy]
theorem n_of (z : Int32) : in32 z.toInt := ⟨by have := Int32.le_toInt z; omega, by have := Int32.toInt_lt z; omega⟩
theorem n_back (z : Int32) : Int32.ofInt z.toInt = z := Int32.ofInt_toInt z
theorem n_wr (x : Int) : in32 (wr x) := by
  unfold wr
  have h1 := Int.le_bmod (x := x) (m := 4294967296) (by decide)
  have h2 := Int.bmod_lt (x := x) (m := 4294967296) (by decide)
  constructor <;> omega
theorem n_wl (x : Int) : in64 (wl x) := by
  unfold wl
  have h1 := Int.le_bmod (x := x) (m := 18446744073709551616) (by decide)
  have h2 := Int.bmod_lt (x := x) (m := 18446744073709551616) (by decide)
  constructor <;> omega
theorem n_ofwr (x : Int) : Int32.ofInt (wr x) = Int32.ofInt x := by
  rw [← Int32.toInt_inj, n_toInt (n_wr x), Int32.toInt_ofInt]
  rfl
theorem n_ofwl (x : Int) : Int64.ofInt (wl x) = Int64.ofInt x := by
  rw [← Int64.toInt_inj, n_toInt64 (n_wl x), Int64.toInt_ofInt]
  rfl
theorem wr_id {x : Int} (h : -2147483648 ≤ x ∧ x < 2147483648) : wr x = x := by
  unfold wr
  exact Int.bmod_eq_of_le (by omega) (by omega)
theorem n_0 : Int32.ofInt 0 = 0 := rfl
theorem in32_0 : in32 0 := ⟨by decide, by decide⟩
theorem n_bz (x : Int) : bz x = 0 ∨ bz x = 1 := by
  unfold bz
  split
  · exact Or.inl rfl
  · exact Or.inr rfl
theorem in32_01 {x : Int} (h : x = 0 ∨ x = 1) : in32 x := by
  rcases h with rfl | rfl <;> constructor <;> decide
theorem n_nar {x : Int} (h : x = 0 ∨ x = 1) : narrow .boolean (.int (Int32.ofInt x)) = .int (Int32.ofInt x) := by
  rcases h with rfl | rfl <;> rfl
theorem bz_01 {x : Int} (h : x = 0 ∨ x = 1) : bz x = x := by
  rcases h with rfl | rfl <;> rfl
theorem n_bip {n : Int} (h : -128 ≤ n ∧ n < 128) : (Int8.ofInt n).toInt32 = Int32.ofInt n := by
  rw [← Int32.toInt_inj, Int8.toInt_toInt32, Int8.toInt_ofInt_of_le (by omega) (by omega), n_toInt ⟨by omega, by omega⟩]
theorem n_sip {n : Int} (h : -32768 ≤ n ∧ n < 32768) : (Int16.ofInt n).toInt32 = Int32.ofInt n := by
  rw [← Int32.toInt_inj, Int16.toInt_toInt32, Int16.toInt_ofInt_of_le (by omega) (by omega), n_toInt ⟨by omega, by omega⟩]
theorem n_i2l {x : Int} (h : in32 x) : (Int32.ofInt x).toInt64 = Int64.ofInt x := by
  rw [← Int64.toInt_inj, Int32.toInt_toInt64, n_toInt h, n_toInt64 ⟨by have := h.1; omega, by have := h.2; omega⟩]
theorem n_cmp {x y : Int} (hx : in64 x) (hy : in64 y) : lg_cmp (Int64.ofInt x) (Int64.ofInt y) = Int32.ofInt (l_cmp x y) := by
  unfold lg_cmp l_cmp
  simp only [gt_iff_lt, Int64.lt_iff_toInt_lt, ← Int64.toInt_inj, n_toInt64 hx, n_toInt64 hy]
  by_cases h1 : x < y
  · rw [if_neg (by omega), if_neg (by omega), if_pos h1]; rfl
  · by_cases h2 : x = y
    · rw [if_neg (by omega), if_pos h2, if_neg h1, if_pos h2]; rfl
    · rw [if_pos (by omega), if_neg h1, if_neg h2]; rfl
theorem n_cmp_in (x y : Int) : in32 (l_cmp x y) := by
  unfold l_cmp
  split
  · constructor <;> decide
  · split <;> constructor <;> decide
theorem n_clamp {j : Int} (h0 : 0 ≤ j) (h : in32 j) : (Int32.ofInt j).toNatClampNeg = j.toNat := by
  show (Int32.ofInt j).toInt.toNat = _
  rw [n_toInt h]
theorem n_in {j : Int} {n : Nat} (h0 : 0 ≤ j) (h : in32 j) (hn : j < (n : Int)) : ¬ (Int32.ofInt j < 0 ∨ n ≤ (Int32.ofInt j).toNatClampNeg) := by
  rw [n_clamp h0 h, ← n_0, n_lt h in32_0]
  omega
/-! ### the locals -/
/-- the known locals -/
def LH (ad : HD → Nat) (n : Nat) (ls : Array Slot) (L : LV) : Prop := ls.size = n ∧ lv_wf ls ∧ ∀ (i : Nat) (v : AV), L.getD i none = some v → i < n ∧ ls[i]? = some (.val (conc ad v))
def lvs (ad : HD → Nat) (n : Nat) (L : LV) : List (Nat × Value) := (List.range n).filterMap (fun i => (L.getD i none).map (fun v => (i, conc ad v)))
/-- no longs among them -/
def NL (hl : Bool) (L : LV) : Prop := hl = false → ∀ (i : Nat) (v : AV), L.getD i none = some v → cat v = 1
theorem conc_cat (ad : HD → Nat) (v : AV) : (conc ad v).category = cat v := by
  rcases v with x | x | x <;> rfl
theorem lvs_mem {ad : HD → Nat} {n i : Nat} {L : LV} {v : AV} (hi : i < n) (h : L.getD i none = some v) : (i, conc ad v) ∈ lvs ad n L := by
  unfold lvs
  rw [List.mem_filterMap]
  exact ⟨i, List.mem_range.mpr hi, by rw [h]; rfl⟩
theorem mem_lvs {ad : HD → Nat} {n : Nat} {L : LV} {q : Nat × Value} (h : q ∈ lvs ad n L) : ∃ v, L.getD q.1 none = some v ∧ q.2 = conc ad v := by
  unfold lvs at h
  rw [List.mem_filterMap] at h
  obtain ⟨i, -, hi⟩ := h
  cases hv : L.getD i none with
  | none => rw [hv] at hi; cases hi
  | some v =>
    rw [hv] at hi
    cases hi
    exact ⟨v, hv, rfl⟩
theorem LH_has {ad : HD → Nat} {n : Nat} {ls : Array Slot} {L : LV} (h : LH ad n ls L) : lv_has ls n (lvs ad n L) := by
  refine ⟨h.1, h.2.1, fun q hq => ?_⟩
  obtain ⟨v, h1, h2⟩ := mem_lvs hq
  rw [h2]
  exact (h.2.2 _ _ h1).2
theorem getD_set (L : LV) (i j : Nat) (x : Option AV) : (L.set i x).getD j none = if j = i ∧ i < L.length then x else L.getD j none := by
  simp only [List.getD_eq_getElem?_getD, List.getElem?_set]
  by_cases h : i = j
  · subst h
    by_cases h2 : i < L.length
    · simp [h2]
    · simp [h2]
  · have h' : ¬ j = i := fun e => h e.symm
    simp [h, h']
theorem clr_get {L : LV} {i j : Nat} {w : AV} (h : (clr L i).getD j none = some w) : L.getD j none = some w ∧ ¬ (j + 1 = i ∧ cat w = 2) := by
  unfold clr at h
  split at h
  · exact ⟨h, fun e => by omega⟩
  · rename_i j0
    split at h
    · rename_i x hx
      rw [getD_set] at h
      split at h
      · cases h
      · rename_i hn
        refine ⟨h, fun e => ?_⟩
        have ej : j = j0 := by omega
        subst ej
        refine hn ⟨rfl, ?_⟩
        rcases Nat.lt_or_ge j L.length with q | q
        · exact q
        · rw [List.getD_eq_getElem?_getD, List.getElem?_eq_none q] at hx; cases hx
    · rename_i hx
      refine ⟨h, fun e => ?_⟩
      have ej : j = j0 := by omega
      subst ej
      rcases w with z | z | z
      · cases e.2
      · exact hx z h
      · cases e.2
theorem has_LH {ad : HD → Nat} {n i : Nat} {hl : Bool} {ls' : Array Slot} {L : LV} {v : AV} (hN : NL hl L) (hi : i < n) (hL : ∀ (i : Nat) (v : AV), L.getD i none = some v → i < n)
    (h : lv_has ls' n ((i, conc ad v) :: (lvs ad n L).filter (fun q => !(q.1 == i) && !(q.1 + 1 == i && q.2.category == 2)))) : LH ad n ls' (st1 hl L i v) := by
  refine ⟨h.1, h.2.1, fun j w hj => ?_⟩
  have key : (j = i ∧ w = v) ∨ (j ≠ i ∧ L.getD j none = some w ∧ ¬ (j + 1 = i ∧ cat w = 2)) := by
    unfold st1 at hj
    cases hl with
    | true =>
      simp only [cond_true] at hj
      rw [getD_set] at hj
      split at hj
      · rename_i e
        exact Or.inl ⟨e.1, (Option.some.inj hj).symm⟩
      · rename_i e
        obtain ⟨h1, h2⟩ := clr_get hj
        by_cases hji : j = i
        · exfalso
          subst hji
          have hlen : j < (clr L j).length := by
            rcases Nat.lt_or_ge j (clr L j).length with q | q
            · exact q
            · rw [List.getD_eq_getElem?_getD, List.getElem?_eq_none q] at hj; cases hj
          exact e ⟨rfl, hlen⟩
        · exact Or.inr ⟨hji, h1, h2⟩
    | false =>
      simp only [cond_false] at hj
      rw [getD_set] at hj
      split at hj
      · rename_i e
        exact Or.inl ⟨e.1, (Option.some.inj hj).symm⟩
      · rename_i e
        by_cases hji : j = i
        · exfalso
          subst hji
          have hlen : j < L.length := by
            rcases Nat.lt_or_ge j L.length with q | q
            · exact q
            · rw [List.getD_eq_getElem?_getD, List.getElem?_eq_none q] at hj; cases hj
          exact e ⟨rfl, hlen⟩
        · exact Or.inr ⟨hji, hj, fun e2 => by have := hN rfl _ _ hj; omega⟩
  rcases key with ⟨rfl, rfl⟩ | ⟨h1, h2, h3⟩
  · exact ⟨hi, h.2.2 (j, conc ad w) List.mem_cons_self⟩
  · refine ⟨hL _ _ h2, h.2.2 (j, conc ad w) (List.mem_cons_of_mem _ (List.mem_filter.mpr ⟨lvs_mem (hL _ _ h2) h2, ?_⟩))⟩
    simp only [conc_cat, Bool.and_eq_true, Bool.not_eq_true', beq_eq_false_iff_ne, ne_eq, Bool.and_eq_false_iff]
    refine ⟨h1, ?_⟩
    by_cases e : j + 1 = i
    · exact Or.inr (fun e2 => h3 ⟨e, e2⟩)
    · exact Or.inl e
theorem has_LH2 {ad : HD → Nat} {n i : Nat} {ls' : Array Slot} {L : LV} {v : AV} (hi : i + 1 < n) (hL : ∀ (i : Nat) (v : AV), L.getD i none = some v → i < n)
    (h : lv_has ls' n ((i, conc ad v) :: (lvs ad n L).filter (fun q => !(q.1 == i) && (!(q.1 == i + 1) && !(q.1 + 1 == i && q.2.category == 2))))) : LH ad n ls' (st2 L i v) := by
  refine ⟨h.1, h.2.1, fun j w hj => ?_⟩
  unfold st2 at hj
  rw [getD_set] at hj
  split at hj
  · cases hj
  rename_i e1
  rw [getD_set] at hj
  split at hj
  · rename_i e
    cases hj
    rw [e.1]
    exact ⟨by omega, h.2.2 (i, conc ad v) List.mem_cons_self⟩
  · rename_i e
    obtain ⟨h1, h2⟩ := clr_get hj
    have hlen : j < (clr L i).length := by
      rcases Nat.lt_or_ge j (clr L i).length with q | q
      · exact q
      · rw [List.getD_eq_getElem?_getD, List.getElem?_eq_none q] at hj; cases hj
    have n1 : ¬ j = i := fun q => e ⟨q, by omega⟩
    have n2 : ¬ j = i + 1 := fun q => e1 ⟨q, by rw [List.length_set]; omega⟩
    refine ⟨hL _ _ h1, h.2.2 (j, conc ad w) (List.mem_cons_of_mem _ (List.mem_filter.mpr ⟨lvs_mem (hL _ _ h1) h1, ?_⟩))⟩
    simp only [conc_cat, Bool.and_eq_true, Bool.not_eq_true', beq_eq_false_iff_ne, ne_eq, Bool.and_eq_false_iff]
    refine ⟨n1, n2, ?_⟩
    by_cases e : j + 1 = i
    · exact Or.inr (fun e2 => h2 ⟨e, e2⟩)
    · exact Or.inl e
theorem st1_get {hl : Bool} {L : LV} {i j : Nat} {v w : AV} (h : (st1 hl L i v).getD j none = some w) : w = v ∨ L.getD j none = some w := by
  unfold st1 at h
  cases hl with
  | true =>
    simp only [cond_true] at h
    rw [getD_set] at h
    split at h
    · exact Or.inl (Option.some.inj h).symm
    · exact Or.inr (clr_get h).1
  | false =>
    simp only [cond_false] at h
    rw [getD_set] at h
    split at h
    · exact Or.inl (Option.some.inj h).symm
    · exact Or.inr h
theorem st2_get {L : LV} {i j : Nat} {v w : AV} (h : (st2 L i v).getD j none = some w) : w = v ∨ L.getD j none = some w := by
  unfold st2 at h
  rw [getD_set] at h
  split at h
  · cases h
  rw [getD_set] at h
  split at h
  · exact Or.inl (Option.some.inj h).symm
  · exact Or.inr (clr_get h).1
