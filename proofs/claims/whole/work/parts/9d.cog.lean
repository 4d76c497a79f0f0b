/-! what the constructors make -/
def cfV (n : Nat) : CS × Nat × Nat := match n with
  | 1 => (([some (.inl 0), some (.inl 0), some (.inl (-1)), some (.inl 0), some (.inl 0), some (.inl 0), some (.inl 0), some (.inl 0), some (.inl 0)], []), 0, 0)
  | 2 => (([some (.inl 0), some (.inl (-1)), some (.inl (-1)), some (.inl (-1)), some (.inl 0), some (rf 1), some (rf 2)], [(100, 3, []), (100, 3, [])]), 2, 6)
  | 3 => (([some (.inl 0), some (.inl 0), some (rf 1), some (rf 2), some (rf 3)], [(100, 60, []), (100, 60, []), (100, 60, [])]), 3, 180)
  | 4 => (([some (.inl 0), some (.inl (-1)), some (.inl (-1)), some (.inl 0), some (.inl 0), some (.inl 0), some (.inl 0), some (.inl 0), some (rf 1)], [(100, 4, [])]), 1, 4)
  | 5 => (([some (.inl 0), some (.inl 0), some (.inl 0), some (.inl 0), some (.inl 0), some (.inl 0), some (.inl 0), some (rf 1), some (rf 2)], [(100, 8, []), (100, 8, [])]), 2, 16)
  | 6 => (([some (.inl 0), some (rf 1)], [(100, 72, [])]), 1, 72)
  | 7 => (([some (.inl 0), some (.inl 0), some (.inl 0), some (.inl 0), some (.inl 0), some (rf 1), some (rf 2), some (rf 3), some (rf 4), some (rf 5)], [(115, 10, [some (rf 9), some (rf 11), some (rf 13), some (rf 15), some (rf 17), some (rf 19), some (rf 21), some (rf 23), some (rf 25), some (rf 27)]), (118, 4, [some (rf 29), some (rf 32), some (rf 35), some (rf 38)]), (122, 3, [some (rf 41), some (rf 44), some (rf 47)]), (126, 12, [some (rf 50), some (rf 51), some (rf 52), some (rf 53), some (rf 54), some (rf 55), some (rf 56), some (rf 57), some (rf 58), some (rf 59), some (rf 60), some (rf 61)]), (5, 5, [some (.inl 0), some (.inl 0), some (rf 6), some (rf 7), some (rf 8)]), (100, 60, []), (100, 60, []), (100, 60, []), (6, 9, [some (.inl 0), some (.inl (-1)), some (.inl (-1)), some (.inl 0), some (.inl 0), some (.inl 0), some (.inl 0), some (.inl 0), some (rf 10)]), (100, 4, []), (6, 9, [some (.inl 0), some (.inl (-1)), some (.inl (-1)), some (.inl 0), some (.inl 0), some (.inl 0), some (.inl 0), some (.inl 0), some (rf 12)]), (100, 4, []), (6, 9, [some (.inl 0), some (.inl (-1)), some (.inl (-1)), some (.inl 0), some (.inl 0), some (.inl 0), some (.inl 0), some (.inl 0), some (rf 14)]), (100, 4, []), (6, 9, [some (.inl 0), some (.inl (-1)), some (.inl (-1)), some (.inl 0), some (.inl 0), some (.inl 0), some (.inl 0), some (.inl 0), some (rf 16)]), (100, 4, []), (6, 9, [some (.inl 0), some (.inl (-1)), some (.inl (-1)), some (.inl 0), some (.inl 0), some (.inl 0), some (.inl 0), some (.inl 0), some (rf 18)]), (100, 4, []), (6, 9, [some (.inl 0), some (.inl (-1)), some (.inl (-1)), some (.inl 0), some (.inl 0), some (.inl 0), some (.inl 0), some (.inl 0), some (rf 20)]), (100, 4, []), (6, 9, [some (.inl 0), some (.inl (-1)), some (.inl (-1)), some (.inl 0), some (.inl 0), some (.inl 0), some (.inl 0), some (.inl 0), some (rf 22)]), (100, 4, []), (6, 9, [some (.inl 0), some (.inl (-1)), some (.inl (-1)), some (.inl 0), some (.inl 0), some (.inl 0), some (.inl 0), some (.inl 0), some (rf 24)]), (100, 4, []), (6, 9, [some (.inl 0), some (.inl (-1)), some (.inl (-1)), some (.inl 0), some (.inl 0), some (.inl 0), some (.inl 0), some (.inl 0), some (rf 26)]), (100, 4, []), (6, 9, [some (.inl 0), some (.inl (-1)), some (.inl (-1)), some (.inl 0), some (.inl 0), some (.inl 0), some (.inl 0), some (.inl 0), some (rf 28)]), (100, 4, []), (7, 9, [some (.inl 0), some (.inl 0), some (.inl 0), some (.inl 0), some (.inl 0), some (.inl 0), some (.inl 0), some (rf 30), some (rf 31)]), (100, 8, []), (100, 8, []), (7, 9, [some (.inl 0), some (.inl 0), some (.inl 0), some (.inl 0), some (.inl 0), some (.inl 0), some (.inl 0), some (rf 33), some (rf 34)]), (100, 8, []), (100, 8, []), (7, 9, [some (.inl 0), some (.inl 0), some (.inl 0), some (.inl 0), some (.inl 0), some (.inl 0), some (.inl 0), some (rf 36), some (rf 37)]), (100, 8, []), (100, 8, []), (7, 9, [some (.inl 0), some (.inl 0), some (.inl 0), some (.inl 0), some (.inl 0), some (.inl 0), some (.inl 0), some (rf 39), some (rf 40)]), (100, 8, []), (100, 8, []), (8, 7, [some (.inl 0), some (.inl (-1)), some (.inl (-1)), some (.inl (-1)), some (.inl 0), some (rf 42), some (rf 43)]), (100, 3, []), (100, 3, []), (8, 7, [some (.inl 0), some (.inl (-1)), some (.inl (-1)), some (.inl (-1)), some (.inl 0), some (rf 45), some (rf 46)]), (100, 3, []), (100, 3, []), (8, 7, [some (.inl 0), some (.inl (-1)), some (.inl (-1)), some (.inl (-1)), some (.inl 0), some (rf 48), some (rf 49)]), (100, 3, []), (100, 3, []), (9, 9, [some (.inl 0), some (.inl 0), some (.inl (-1)), some (.inl 0), some (.inl 0), some (.inl 0), some (.inl 0), some (.inl 0), some (.inl 0)]), (9, 9, [some (.inl 0), some (.inl 0), some (.inl (-1)), some (.inl 0), some (.inl 0), some (.inl 0), some (.inl 0), some (.inl 0), some (.inl 0)]), (9, 9, [some (.inl 0), some (.inl 0), some (.inl (-1)), some (.inl 0), some (.inl 0), some (.inl 0), some (.inl 0), some (.inl 0), some (.inl 0)]), (9, 9, [some (.inl 0), some (.inl 0), some (.inl (-1)), some (.inl 0), some (.inl 0), some (.inl 0), some (.inl 0), some (.inl 0), some (.inl 0)]), (9, 9, [some (.inl 0), some (.inl 0), some (.inl (-1)), some (.inl 0), some (.inl 0), some (.inl 0), some (.inl 0), some (.inl 0), some (.inl 0)]), (9, 9, [some (.inl 0), some (.inl 0), some (.inl (-1)), some (.inl 0), some (.inl 0), some (.inl 0), some (.inl 0), some (.inl 0), some (.inl 0)]), (9, 9, [some (.inl 0), some (.inl 0), some (.inl (-1)), some (.inl 0), some (.inl 0), some (.inl 0), some (.inl 0), some (.inl 0), some (.inl 0)]), (9, 9, [some (.inl 0), some (.inl 0), some (.inl (-1)), some (.inl 0), some (.inl 0), some (.inl 0), some (.inl 0), some (.inl 0), some (.inl 0)]), (9, 9, [some (.inl 0), some (.inl 0), some (.inl (-1)), some (.inl 0), some (.inl 0), some (.inl 0), some (.inl 0), some (.inl 0), some (.inl 0)]), (9, 9, [some (.inl 0), some (.inl 0), some (.inl (-1)), some (.inl 0), some (.inl 0), some (.inl 0), some (.inl 0), some (.inl 0), some (.inl 0)]), (9, 9, [some (.inl 0), some (.inl 0), some (.inl (-1)), some (.inl 0), some (.inl 0), some (.inl 0), some (.inl 0), some (.inl 0), some (.inl 0)]), (9, 9, [some (.inl 0), some (.inl 0), some (.inl (-1)), some (.inl 0), some (.inl 0), some (.inl 0), some (.inl 0), some (.inl 0), some (.inl 0)])]), 61, 591)
  | 8 => (([some (rf 1), some (.inl (-1))], [(4, 10, [some (.inl 0), some (.inl 0), some (.inl 0), some (.inl 0), some (.inl 0), some (rf 2), some (rf 3), some (rf 4), some (rf 5), some (rf 6)]), (115, 10, [some (rf 10), some (rf 12), some (rf 14), some (rf 16), some (rf 18), some (rf 20), some (rf 22), some (rf 24), some (rf 26), some (rf 28)]), (118, 4, [some (rf 30), some (rf 33), some (rf 36), some (rf 39)]), (122, 3, [some (rf 42), some (rf 45), some (rf 48)]), (126, 12, [some (rf 51), some (rf 52), some (rf 53), some (rf 54), some (rf 55), some (rf 56), some (rf 57), some (rf 58), some (rf 59), some (rf 60), some (rf 61), some (rf 62)]), (5, 5, [some (.inl 0), some (.inl 0), some (rf 7), some (rf 8), some (rf 9)]), (100, 60, []), (100, 60, []), (100, 60, []), (6, 9, [some (.inl 0), some (.inl (-1)), some (.inl (-1)), some (.inl 0), some (.inl 0), some (.inl 0), some (.inl 0), some (.inl 0), some (rf 11)]), (100, 4, []), (6, 9, [some (.inl 0), some (.inl (-1)), some (.inl (-1)), some (.inl 0), some (.inl 0), some (.inl 0), some (.inl 0), some (.inl 0), some (rf 13)]), (100, 4, []), (6, 9, [some (.inl 0), some (.inl (-1)), some (.inl (-1)), some (.inl 0), some (.inl 0), some (.inl 0), some (.inl 0), some (.inl 0), some (rf 15)]), (100, 4, []), (6, 9, [some (.inl 0), some (.inl (-1)), some (.inl (-1)), some (.inl 0), some (.inl 0), some (.inl 0), some (.inl 0), some (.inl 0), some (rf 17)]), (100, 4, []), (6, 9, [some (.inl 0), some (.inl (-1)), some (.inl (-1)), some (.inl 0), some (.inl 0), some (.inl 0), some (.inl 0), some (.inl 0), some (rf 19)]), (100, 4, []), (6, 9, [some (.inl 0), some (.inl (-1)), some (.inl (-1)), some (.inl 0), some (.inl 0), some (.inl 0), some (.inl 0), some (.inl 0), some (rf 21)]), (100, 4, []), (6, 9, [some (.inl 0), some (.inl (-1)), some (.inl (-1)), some (.inl 0), some (.inl 0), some (.inl 0), some (.inl 0), some (.inl 0), some (rf 23)]), (100, 4, []), (6, 9, [some (.inl 0), some (.inl (-1)), some (.inl (-1)), some (.inl 0), some (.inl 0), some (.inl 0), some (.inl 0), some (.inl 0), some (rf 25)]), (100, 4, []), (6, 9, [some (.inl 0), some (.inl (-1)), some (.inl (-1)), some (.inl 0), some (.inl 0), some (.inl 0), some (.inl 0), some (.inl 0), some (rf 27)]), (100, 4, []), (6, 9, [some (.inl 0), some (.inl (-1)), some (.inl (-1)), some (.inl 0), some (.inl 0), some (.inl 0), some (.inl 0), some (.inl 0), some (rf 29)]), (100, 4, []), (7, 9, [some (.inl 0), some (.inl 0), some (.inl 0), some (.inl 0), some (.inl 0), some (.inl 0), some (.inl 0), some (rf 31), some (rf 32)]), (100, 8, []), (100, 8, []), (7, 9, [some (.inl 0), some (.inl 0), some (.inl 0), some (.inl 0), some (.inl 0), some (.inl 0), some (.inl 0), some (rf 34), some (rf 35)]), (100, 8, []), (100, 8, []), (7, 9, [some (.inl 0), some (.inl 0), some (.inl 0), some (.inl 0), some (.inl 0), some (.inl 0), some (.inl 0), some (rf 37), some (rf 38)]), (100, 8, []), (100, 8, []), (7, 9, [some (.inl 0), some (.inl 0), some (.inl 0), some (.inl 0), some (.inl 0), some (.inl 0), some (.inl 0), some (rf 40), some (rf 41)]), (100, 8, []), (100, 8, []), (8, 7, [some (.inl 0), some (.inl (-1)), some (.inl (-1)), some (.inl (-1)), some (.inl 0), some (rf 43), some (rf 44)]), (100, 3, []), (100, 3, []), (8, 7, [some (.inl 0), some (.inl (-1)), some (.inl (-1)), some (.inl (-1)), some (.inl 0), some (rf 46), some (rf 47)]), (100, 3, []), (100, 3, []), (8, 7, [some (.inl 0), some (.inl (-1)), some (.inl (-1)), some (.inl (-1)), some (.inl 0), some (rf 49), some (rf 50)]), (100, 3, []), (100, 3, []), (9, 9, [some (.inl 0), some (.inl 0), some (.inl (-1)), some (.inl 0), some (.inl 0), some (.inl 0), some (.inl 0), some (.inl 0), some (.inl 0)]), (9, 9, [some (.inl 0), some (.inl 0), some (.inl (-1)), some (.inl 0), some (.inl 0), some (.inl 0), some (.inl 0), some (.inl 0), some (.inl 0)]), (9, 9, [some (.inl 0), some (.inl 0), some (.inl (-1)), some (.inl 0), some (.inl 0), some (.inl 0), some (.inl 0), some (.inl 0), some (.inl 0)]), (9, 9, [some (.inl 0), some (.inl 0), some (.inl (-1)), some (.inl 0), some (.inl 0), some (.inl 0), some (.inl 0), some (.inl 0), some (.inl 0)]), (9, 9, [some (.inl 0), some (.inl 0), some (.inl (-1)), some (.inl 0), some (.inl 0), some (.inl 0), some (.inl 0), some (.inl 0), some (.inl 0)]), (9, 9, [some (.inl 0), some (.inl 0), some (.inl (-1)), some (.inl 0), some (.inl 0), some (.inl 0), some (.inl 0), some (.inl 0), some (.inl 0)]), (9, 9, [some (.inl 0), some (.inl 0), some (.inl (-1)), some (.inl 0), some (.inl 0), some (.inl 0), some (.inl 0), some (.inl 0), some (.inl 0)]), (9, 9, [some (.inl 0), some (.inl 0), some (.inl (-1)), some (.inl 0), some (.inl 0), some (.inl 0), some (.inl 0), some (.inl 0), some (.inl 0)]), (9, 9, [some (.inl 0), some (.inl 0), some (.inl (-1)), some (.inl 0), some (.inl 0), some (.inl 0), some (.inl 0), some (.inl 0), some (.inl 0)]), (9, 9, [some (.inl 0), some (.inl 0), some (.inl (-1)), some (.inl 0), some (.inl 0), some (.inl 0), some (.inl 0), some (.inl 0), some (.inl 0)]), (9, 9, [some (.inl 0), some (.inl 0), some (.inl (-1)), some (.inl 0), some (.inl 0), some (.inl 0), some (.inl 0), some (.inl 0), some (.inl 0)]), (9, 9, [some (.inl 0), some (.inl 0), some (.inl (-1)), some (.inl 0), some (.inl 0), some (.inl 0), some (.inl 0), some (.inl 0), some (.inl 0)])]), 62, 601)
  | 9 => (([some (.inl 0), some (rf 1), some (.inl 0), some (rf 2), some (rf 3), some (rf 4)], [(100, 320, []), (100, 4, []), (101, 4, []), (2, 2, [some (.inl 0), some (rf 5)]), (100, 72, [])]), 5, 402)
  | _ => (([], []), 0, 0)
def kEnt (n : Nat) : KX := (0, [some (rf 0)] ++ List.replicate (kMx n - 1) none, [], (dfs (kO n), []), 0, 0)
def vEq (a b : Option AV) : Bool := match a, b with
  | none, none => true
  | some (.inl x), some (.inl y) => decide (x = y)
  | some (.inr (.inl x)), some (.inr (.inl y)) => decide (x = y)
  | some (.inr (.inr (m, x, y))), some (.inr (.inr (k, x', y'))) => Nat.beq m k && (decide (x = x') && decide (y = y'))
  | _, _ => false
theorem vEq_eq {a b : Option AV} (h : vEq a b = true) : a = b := by
  unfold vEq at h
  split at h
  · rfl
  · rw [of_decide_eq_true h]
  · rw [of_decide_eq_true h]
  · simp only [Bool.and_eq_true, decide_eq_true_eq] at h
    rw [Nat.eq_of_beq_eq_true h.1, h.2.1, h.2.2]
  · cases h
def lEq {α : Type} (f : α → α → Bool) : List α → List α → Bool
  | [], [] => true
  | a :: l, b :: k => f a b && lEq f l k
  | _, _ => false
theorem lEq_eq {α : Type} {f : α → α → Bool} (hf : ∀ a b, f a b = true → a = b) : ∀ {l k : List α}, lEq f l k = true → l = k
  | [], [], _ => rfl
  | a :: l, b :: k, h => by
    simp only [lEq, Bool.and_eq_true] at h
    rw [hf _ _ h.1, lEq_eq hf h.2]
  | [], b :: k, h => by cases h
  | a :: l, [], h => by cases h
def cEq (a b : CC) : Bool := Nat.beq a.1 b.1 && (Nat.beq a.2.1 b.2.1 && lEq vEq a.2.2 b.2.2)
theorem cEq_eq {a b : CC} (h : cEq a b = true) : a = b := by
  obtain ⟨a1, a2, a3⟩ := a
  obtain ⟨b1, b2, b3⟩ := b
  simp only [cEq, Bool.and_eq_true] at h
  rw [Nat.eq_of_beq_eq_true h.1, Nat.eq_of_beq_eq_true h.2.1, lEq_eq (fun _ _ => vEq_eq) h.2.2]
def sEq (a : Option CS) (b : CS) : Bool := match a with
  | some a => lEq vEq a.1 b.1 && lEq cEq a.2 b.2
  | none => false
theorem sEq_eq {a : Option CS} {b : CS} (h : sEq a b = true) : a = some b := by
  rcases a with _ | ⟨a1, a2⟩
  · cases h
  obtain ⟨b1, b2⟩ := b
  simp only [sEq, Bool.and_eq_true] at h
  rw [lEq_eq (fun _ _ => vEq_eq) h.1, lEq_eq (fun _ _ => cEq_eq) h.2]
theorem cfV_all : [1, 2, 3, 4, 5, 6, 7, 8, 9].all (fun n => sEq (crun cfV 500 n (cfV n).2.1 (cfV n).2.2 (kEnt n)) (cfV n).1) = true := by decide +kernel
theorem cfV_run {n : Nat} (h0 : 0 < n) (h : n < 10) : crun cfV 500 n (cfV n).2.1 (cfV n).2.2 (kEnt n) = some (cfV n).1 := by
  refine sEq_eq (List.all_eq_true.mp cfV_all n ?_)
  rcases (by omega : n = 1 ∨ n = 2 ∨ n = 3 ∨ n = 4 ∨ n = 5 ∨ n = 6 ∨ n = 7 ∨ n = 8 ∨ n = 9) with rfl | rfl | rfl | rfl | rfl | rfl | rfl | rfl | rfl <;> decide
theorem cf_all {D : va_G} {dA : Nat → ClassId} {l : Launch} : ∀ (v m' q0' z' : Nat), v ≤ 5 → 0 < m' → m' < 12 → kLv m' < v → CM D dA l m' [rf 0] q0' z' (cfV m').2.1 (cfV m').2.2 (dfs (kO m'), []) (cfV m').1
  | 0, _, _, _, _, _, _, h => absurd h (Nat.not_lt_zero _)
  | v + 1, m', q0', z', hv, h0, h1, h => by
    have hm : m' < 10 := by
      rcases (by omega : m' < 10 ∨ m' = 10 ∨ m' = 11) with hm | rfl | rfl
      · exact hm
      · have h : 5 < v + 1 := h
        omega
      · have h : 5 < v + 1 := h
        omega
    exact con_cm h0 h1 (fun m'' q z a b c => cf_all v m'' q z (by omega) a b (by omega)) (cfV_run h0 hm)
theorem kLv_5 (n : Nat) : kLv n ≤ 5 := by
  unfold kLv
  split <;> decide
/-! ### the names of the cells -/
def adW (k : Nat) : Nat := match k with
  | 0 => 10
  | 1 => 73
  | 2 => 135
  | j + 3 => 207 + 62 * j
def adn (h : HD) : Nat := match h.1 with
  | 0 => 0
  | 1 => 1
  | 2 => 2
  | 3 => 3
  | 4 => 4
  | 5 => bif Nat.beq h.2.1.toNat 4 then 5 else 199 + 2 * h.2.1.toNat
  | 6 => bif Nat.beq h.2.1.toNat 4 then 6 else 200 + 2 * h.2.1.toNat
  | 7 => 7
  | 8 => 8
  | 9 => 197
  | 10 => 198
  | 11 => bif Nat.beq h.2.1.toNat 0 then 9 else 72
  | 12 => adW h.2.1.toNat
  | 13 => adW h.2.1.toNat + 1
  | 16 => adW h.2.1.toNat + 2
  | 20 => adW h.2.1.toNat + 3
  | 24 => adW h.2.1.toNat + 4
  | 26 => adW h.2.1.toNat + 5
  | 27 => adW h.2.1.toNat + 6
  | 28 => adW h.2.1.toNat + 7
  | 29 => adW h.2.1.toNat + 8
  | 14 => adW h.2.1.toNat + (9 + 2 * h.2.2.toNat)
  | 15 => adW h.2.1.toNat + (10 + 2 * h.2.2.toNat)
  | 17 => adW h.2.1.toNat + (29 + 3 * h.2.2.toNat)
  | 18 => adW h.2.1.toNat + (30 + 3 * h.2.2.toNat)
  | 19 => adW h.2.1.toNat + (31 + 3 * h.2.2.toNat)
  | 21 => adW h.2.1.toNat + (41 + 3 * h.2.2.toNat)
  | 22 => adW h.2.1.toNat + (42 + 3 * h.2.2.toNat)
  | 23 => adW h.2.1.toNat + (43 + 3 * h.2.2.toNat)
  | 25 => adW h.2.1.toNat + (50 + h.2.2.toNat)
  | t => bif Nat.ble 40 t then 2709 + t else 9999
def hdW (k r : Nat) : HD := match r with
  | 0 => (12, (k : Int), 0)
  | 1 => (13, (k : Int), 0)
  | 2 => (16, (k : Int), 0)
  | 3 => (20, (k : Int), 0)
  | 4 => (24, (k : Int), 0)
  | 5 => (26, (k : Int), 0)
  | 6 => (27, (k : Int), 0)
  | 7 => (28, (k : Int), 0)
  | 8 => (29, (k : Int), 0)
  | r => bif Nat.blt r 29 then (14 + (r - 9) % 2, (k : Int), (((r - 9) / 2 : Nat) : Int)) else bif Nat.blt r 41 then (17 + (r - 29) % 3, (k : Int), (((r - 29) / 3 : Nat) : Int)) else bif Nat.blt r 50 then (21 + (r - 41) % 3, (k : Int), (((r - 41) / 3 : Nat) : Int)) else (25, (k : Int), ((r - 50 : Nat) : Int))
def hdOf (n : Nat) : HD := bif Nat.blt n 10 then (match n with
    | 0 => (0, 0, 0)
    | 1 => (1, 0, 0)
    | 2 => (2, 0, 0)
    | 3 => (3, 0, 0)
    | 4 => (4, 0, 0)
    | 5 => (5, 4, 0)
    | 6 => (6, 4, 0)
    | 7 => (7, 0, 0)
    | 8 => (8, 0, 0)
    | _ => (11, 0, 0))
  else bif Nat.blt n 72 then hdW 0 (n - 10) else bif Nat.blt n 73 then (11, 1, 0) else bif Nat.blt n 135 then hdW 1 (n - 73) else bif Nat.blt n 197 then hdW 2 (n - 135) else bif Nat.blt n 198 then (9, 0, 0) else bif Nat.blt n 199 then (10, 0, 0)
  else bif Nat.blt n 207 then (5 + (n - 199) % 2, (((n - 199) / 2 : Nat) : Int), 0) else bif Nat.blt n 2749 then hdW (3 + (n - 207) / 62) ((n - 207) % 62) else (n - 2709, 0, 0)
def nAll : Nat := 2761
def vwb (h : HD) : Bool := Nat.blt (adn h) nAll && decide (hdOf (adn h) = h)
def VW0 (h : HD) : Prop := adn h < nAll ∧ hdOf (adn h) = h
theorem vwb_of {h : HD} (hb : vwb h = true) : VW0 h := by
  simp only [vwb, Bool.and_eq_true, decide_eq_true_eq, Nat.blt_eq] at hb
  exact hb
def hok (n : Nat) : Bool := match hdOf n with
  | (t, k, i) => Nat.beq (adn (t, k, i)) n && (!(Nat.beq t 70) && (!(Nat.beq (ek t) 7) && ((List.range (nfd t)).all (fun b => !(Nat.beq (kd t b) 3) || vwb (chf t k i b)) && (!(Nat.beq (ek t) 3) || (List.range (al t).toNat).all (fun j => vwb (cha t k (j : Int)))))))
theorem hok_all : (List.range nAll).all hok = true := by decide +kernel
theorem hok_at {t : Nat} {k i : Int} (h : VW0 (t, k, i)) : t ≠ 70 ∧ ek t ≠ 7 ∧ (∀ b, b < nfd t → kd t b = 3 → VW0 (chf t k i b)) ∧ (ek t = 3 → ∀ j : Nat, j < (al t).toNat → VW0 (cha t k (j : Int))) := by
  have h1 := List.all_eq_true.mp hok_all _ (List.mem_range.mpr h.1)
  unfold hok at h1
  rw [h.2] at h1
  simp only [Bool.and_eq_true, Bool.not_eq_true', Bool.or_eq_true, List.all_eq_true, List.mem_range] at h1
  obtain ⟨-, h2, h3, h4, h5⟩ := h1
  have nb : ∀ {a b : Nat}, Nat.beq a b = false → a ≠ b := fun {a b} h e => by rw [e, Nat.beq_refl] at h; cases h
  refine ⟨nb h2, nb h3, fun b hb hk => ?_, fun he j hj => ?_⟩
  · rcases h4 b hb with q | q
    · exact absurd hk (nb q)
    · exact vwb_of q
  · rcases h5 with q | q
    · exact absurd he (nb q)
    · exact vwb_of (q j hj)
theorem kd_nfd {t b : Nat} (h : kd t b = 3) : b < nfd t := by
  unfold kd at h
  split at h <;> first | (cases h; done) | decide
def adr (b0 : Nat) (adK adT : Nat → Nat) (h : HD) : Nat := if h.1 = 70 then adK h.2.1.toNat else if ek h.1 = 7 then adT h.1 else b0 + adn h
theorem adr_V {b0 : Nat} {adK adT : Nat → Nat} {h : HD} (hV : VW0 h) : adr b0 adK adT h = b0 + adn h := by
  obtain ⟨t, k, i⟩ := h
  obtain ⟨h1, h2, -, -⟩ := hok_at hV
  unfold adr
  rw [if_neg h1, if_neg h2]
theorem EV0 (b0 : Nat) (adK adT : Nat → Nat) : EV (adr b0 adK adT) VW0 b0 adK adT := by
  refine ⟨fun h h' hV hV' e => ?_, fun h hV => ?_, fun t k i b hV hk => (hok_at hV).2.2.1 b (kd_nfd hk) hk, fun t k i j hV he h0 h1 => ?_, fun k i => ?_, fun t k i he => ?_⟩
  · rw [adr_V hV, adr_V hV'] at e
    have e : adn h = adn h' := by omega
    rw [← hV.2, ← hV'.2, e]
  · rw [adr_V hV]
    have h1 := hV.1
    unfold nAll at h1
    exact ⟨by omega, by omega⟩
  · have := (hok_at hV).2.2.2 he j.toNat (by omega)
    rwa [Int.toNat_of_nonneg h0] at this
  · unfold adr
    rw [if_pos rfl]
  · unfold adr
    have h7 : t ≠ 70 := fun q => by rw [q] at he; exact absurd he (by decide)
    rw [if_neg h7, if_pos he]
def σ0 : ST := fun t _ _ s => if (t = 14 ∧ (s = 1 ∨ s = 2)) ∨ (t = 21 ∧ (s = 1 ∨ s = 2 ∨ s = 3)) ∨ (t = 25 ∧ s = 2) ∨ (t = 11 ∧ s = 1) then -1 else 0
theorem σ0_0 {t : Nat} (h : t ≠ 14 ∧ t ≠ 21 ∧ t ≠ 25 ∧ t ≠ 11) (k i s : Int) : σ0 t k i s = 0 := by
  unfold σ0
  rw [if_neg]
  rintro (q | q | q | q)
  · exact h.1 q.1
  · exact h.2.1 q.1
  · exact h.2.2.1 q.1
  · exact h.2.2.2 q.1
theorem σ0_Cn : Cn σ0 := by
  intro t k i s
  have h : σ0 t k i s = -1 ∨ σ0 t k i s = 0 := by
    unfold σ0
    split
    · exact Or.inl rfl
    · exact Or.inr rfl
  split
  · rcases h with h | h <;> rw [h] <;> constructor <;> decide
  · rcases h with h | h <;> rw [h] <;> constructor <;> decide
def ckv (base t : Nat) (k i : Int) (b : Nat) (v : Option AV) : Bool := match kd t b, v with
  | 0, some (.inl x) => decide (x = σ0 t k i (b : Int))
  | 1, some (.inl x) => decide (x = bz (σ0 t k i (b : Int)))
  | 2, some (.inr (.inl x)) => decide (x = σ0 t k i (b : Int))
  | 3, some (.inr (.inr (m, _, _))) => Nat.beq (base + m) (adn (chf t k i b))
  | _, _ => false
def ckc (base n : Nat) (c : CC) : Bool := match hdOf n with
  | (t, k, i) => bif Nat.blt (cof t) 11 then Nat.beq c.1 (cof t) && (Nat.beq c.2.2.length (nfd t) && (List.range (nfd t)).all (fun b => ckv base t k i b (c.2.2.getD b none))) else (match ek t with
    | 0 => Nat.beq c.1 100 && Nat.beq c.2.1 (al t).toNat
    | 1 => Nat.beq c.1 101 && Nat.beq c.2.1 (al t).toNat
    | 3 => Nat.beq c.1 (102 + t) && (Nat.beq c.2.1 (al t).toNat && (List.range (al t).toNat).all (fun j => match c.2.2.getD j none with
      | some (.inr (.inr (m, _, _))) => Nat.beq (base + m) (adn (cha t k (j : Int)))
      | _ => false))
    | _ => false)
def ckl (base : Nat) : Nat → List CC → Bool
  | _, [] => true
  | n, c :: l => ckc base n c && fNat (n + 1) (fun n => ckl base n l)
theorem ckl_at {base : Nat} : ∀ {l : List CC} {n : Nat}, ckl base n l = true → ∀ (i : Nat) (c : CC), l[i]? = some c → ckc base (n + i) c = true
  | [], _, _, i, c, hc => by simp at hc
  | x :: l, n, h, i, c, hc => by
    have h : (ckc base n x && fNat (n + 1) (fun n => ckl base n l)) = true := h
    rw [fNat_eq, Bool.and_eq_true] at h
    rcases i with _ | i
    · cases hc
      exact h.1
    · have h2 := ckl_at h.2 i c hc
      rwa [show n + 1 + i = n + (i + 1) by omega] at h2
def ckR (base ci len : Nat) (r : CS) : Bool := ckc base base (ci, 0, r.1) && (ckl base (base + 1) r.2 && Nat.beq r.2.length len)
theorem run11 : (match crun cfV 1000 11 11 24135 (kEnt 11) with
    | some r => ckR 2749 10 11 r
    | none => false) = true := by decide +kernel
/-- what is made is what the names say -/
def CkR (base ci len : Nat) (r : CS) : Prop := ckc base base (ci, 0, r.1) = true ∧ (∀ (i : Nat) (c : CC), r.2[i]? = some c → ckc base (base + 1 + i) c = true) ∧ r.2.length = len
theorem CkR_of {base ci len : Nat} {r : CS} (h : ckR base ci len r = true) : CkR base ci len r := by
  simp only [ckR, Bool.and_eq_true] at h
  exact ⟨h.1, ckl_at h.2.1, Nat.eq_of_beq_eq_true h.2.2⟩
theorem con_Z : ∃ r, CkR 2749 10 11 r ∧ ∀ (D : va_G) (dA : Nat → ClassId) (l : Launch) (q0 z : Nat), CM D dA l 11 [rf 0] q0 z 11 24135 (dfs 10, []) r := by
  have h := run11
  split at h
  · rename_i r hr
    exact ⟨r, CkR_of h, fun D dA l q0 z => con_cm (by omega) (by omega) (fun m' q z a b c => cf_all 5 m' q z (by omega) a b (Nat.lt_of_lt_of_le c (kLv_5 _))) hr⟩
  · cases h
theorem arrV_to {cI : ClassId} {N : Nat} {f g : Nat → Value} (h : ∀ j, j < N → f j = g j) : arrV cI N f = arrV cI N g := by
  unfold arrV
  congr 1
  congr 1
  funext j
  exact h j.val j.isLt
section INI
variable {D : va_G} {dA : Nat → ClassId} {b0 : Nat} {adK adT : Nat → Nat} {H : Heap} {base : Nat}
theorem ck_ref {h : HD} {m : Nat} {u w : Int} (hV : VW0 h) (hm : base + m = adn h) : cvo (b0 + base) (b0 + base + 1) (some (.inr (.inr (m, u, w)))) = .ref (adr b0 adK adT h) := by
  rw [adr_V hV]
  show Value.ref (cad (b0 + base) (b0 + base + 1) (m, u, w)) = _
  congr 1
  rcases m with _ | m
  · show b0 + base = _
    omega
  · show b0 + base + 1 + m = _
    omega
theorem ckv_val {t b : Nat} {k i : Int} {v : Option AV} (hV : VW0 (t, k, i)) (h : ckv base t k i b v = true) : cvo (b0 + base) (b0 + base + 1) v = oval (adr b0 adK adT) σ0 t k i b := by
  unfold oval gfv
  unfold ckv at h
  split at h
  · rename_i x hk
    rw [hk, of_decide_eq_true h]
    rfl
  · rename_i x hk
    rw [hk, of_decide_eq_true h]
    rfl
  · rename_i x hk
    rw [hk, of_decide_eq_true h]
    rfl
  · rename_i m u w hk
    rw [hk]
    exact ck_ref ((hok_at hV).2.2.1 b (kd_nfd hk) hk) (Nat.eq_of_beq_eq_true h)
  · cases h
theorem cof_ek {t : Nat} (h : cof t < 11) : ek t = 9 := by
  have h2 := cof_tags h
  simp only [List.mem_cons, List.not_mem_nil, or_false] at h2
  rcases h2 with rfl | rfl | rfl | rfl | rfl | rfl | rfl | rfl | rfl | rfl | rfl <;> rfl
theorem ckc_RC {n : Nat} {c : CC} {t : Nat} {k i : Int} (hV : VW0 (t, k, i)) (hn : adn (t, k, i) = n) (hk : ckc base n c = true) (hK : KC D dA (b0 + base) (b0 + base + 1) (b0 + n) c H) : RC D dA (adr b0 adK adT) σ0 H t k i := by
  have hh : hdOf n = (t, k, i) := by rw [← hn]; exact hV.2
  have had : adr b0 adK adT (t, k, i) = b0 + n := by rw [adr_V hV, hn]
  unfold ckc at hk
  rw [hh] at hk
  replace hk : (bif Nat.blt (cof t) 11 then Nat.beq c.1 (cof t) && (Nat.beq c.2.2.length (nfd t) && (List.range (nfd t)).all (fun b => ckv base t k i b (c.2.2.getD b none))) else (match ek t with
    | 0 => Nat.beq c.1 100 && Nat.beq c.2.1 (al t).toNat
    | 1 => Nat.beq c.1 101 && Nat.beq c.2.1 (al t).toNat
    | 3 => Nat.beq c.1 (102 + t) && (Nat.beq c.2.1 (al t).toNat && (List.range (al t).toNat).all (fun j => match c.2.2.getD j none with
      | some (.inr (.inr (m, _, _))) => Nat.beq (base + m) (adn (cha t k (j : Int)))
      | _ => false))
    | _ => false)) = true := hk
  cases hc : Nat.blt (cof t) 11 with
  | true =>
    rw [hc] at hk
    have hct : cof t < 11 := by simpa only [Nat.blt_eq] using hc
    have he := cof_ek hct
    simp only [cond_true, Bool.and_eq_true, List.all_eq_true, List.mem_range] at hk
    obtain ⟨k1, k2, k3⟩ := hk
    replace k1 := Nat.eq_of_beq_eq_true k1
    replace k2 := Nat.eq_of_beq_eq_true k2
    refine ⟨fun _ => ?_, fun q => ?_, fun q => ?_, fun q => ?_⟩
    · rw [had]
      have h1 := hK.1 (by rw [k1]; exact hct)
      rw [k1] at h1
      have h2 : c.2.2.map (cvo (b0 + base) (b0 + base + 1)) = ofs (adr b0 adK adT) σ0 t k i := by
        refine List.ext_getElem (by unfold ofs; simp only [List.length_map, List.length_range]; exact k2) fun b hb1 hb2 => ?_
        have hb : b < nfd t := by rw [List.length_map] at hb1; omega
        have h3 := ckv_val (b0 := b0) (adK := adK) (adT := adT) hV (k3 b hb)
        have h4 : c.2.2.getD b none = c.2.2[b]'(by omega) := by
          rw [List.getD_eq_getElem?_getD, List.getElem?_eq_getElem (by omega)]
          rfl
        rw [h4] at h3
        simp only [List.getElem_map, ofs, List.getElem_range]
        exact h3
      rw [h2] at h1
      exact h1
    · rw [he] at q; cases q
    · rw [he] at q; cases q
    · rw [he] at q; cases q
  | false =>
    rw [hc] at hk
    have hct : ¬ cof t < 11 := fun q => by rw [(by simpa only [Nat.blt_eq] using q : Nat.blt (cof t) 11 = true)] at hc; cases hc
    rw [cond_false] at hk
    have hz : ∀ s, σ0 t k i s = 0 := σ0_0 ⟨fun q => hct (by rw [q]; decide), fun q => hct (by rw [q]; decide), fun q => hct (by rw [q]; decide), fun q => hct (by rw [q]; decide)⟩ k i
    refine ⟨fun q => absurd q hct, fun q => ?_, fun q => ?_, fun q => ?_⟩
    · rw [q] at hk
      simp only [Bool.and_eq_true] at hk
      rw [had, hK.2.1 (Nat.eq_of_beq_eq_true hk.1), Nat.eq_of_beq_eq_true hk.2]
      simp only [hz]
      rfl
    · rw [q] at hk
      simp only [Bool.and_eq_true] at hk
      rw [had, hK.2.2.1 (Nat.eq_of_beq_eq_true hk.1), Nat.eq_of_beq_eq_true hk.2]
      simp only [hz]
      rfl
    · rw [q] at hk
      simp only [Bool.and_eq_true, List.all_eq_true, List.mem_range] at hk
      obtain ⟨k1, k2, k3⟩ := hk
      replace k1 := Nat.eq_of_beq_eq_true k1
      have h1 := hK.2.2.2 (by omega)
      rw [k1, Nat.add_sub_cancel_left, Nat.eq_of_beq_eq_true k2] at h1
      rw [had, h1]
      refine congrArg some (arrV_to fun j hj => ?_)
      have h3 := k3 j hj
      split at h3
      · rename_i m u w hm
        rw [hm]
        exact ck_ref ((hok_at hV).2.2.2 q j hj) (Nat.eq_of_beq_eq_true h3)
      · cases h3
theorem ck_obj {ci : Nat} {r : CS} {z : Nat} (hc : ci < 11) (hz : z = b0 + base + 1) (h : HN D dA (b0 + base) z ci r H) : KC D dA (b0 + base) (b0 + base + 1) (b0 + base) (ci, 0, r.1) H := by
  subst hz
  exact KC_obj hc h.1
/-- both objects made: the worlds at the start -/
theorem Rel0 {rX rZ : CS} (hX : CkR 0 0 2748 rX) (hZ : CkR 2749 10 11 rZ) (oX : va_at D crC (b0, .inr (0, rX.1.map (cvo b0 (b0 + 1)))) H) (cX : ∀ (i : Nat) (c : CC), rX.2[i]? = some c → KC D dA b0 (b0 + 1) (b0 + 1 + i) c H)
    (oZ : va_at D crC (b0 + 2749, .inr (10, rZ.1.map (cvo (b0 + 2749) (b0 + 2750)))) H) (cZ : ∀ (i : Nat) (c : CC), rZ.2[i]? = some c → KC D dA (b0 + 2749) (b0 + 2750) (b0 + 2750 + i) c H) : Rel D dA (adr b0 adK adT) VW0 σ0 H := by
  obtain ⟨x1, x2, x3⟩ := hX
  obtain ⟨z1, z2, z3⟩ := hZ
  intro t k i hV
  have hlt := hV.1
  unfold nAll at hlt
  have hcs : adn (t, k, i) = 0 ∨ (∃ j, adn (t, k, i) = 1 + j ∧ j < 2748) ∨ adn (t, k, i) = 2749 ∨ ∃ j, adn (t, k, i) = 2749 + 1 + j ∧ j < 11 := by
    by_cases c1 : adn (t, k, i) = 0
    · exact Or.inl c1
    · by_cases c2 : adn (t, k, i) < 2749
      · exact Or.inr (Or.inl ⟨adn (t, k, i) - 1, by omega, by omega⟩)
      · by_cases c3 : adn (t, k, i) = 2749
        · exact Or.inr (Or.inr (Or.inl c3))
        · exact Or.inr (Or.inr (Or.inr ⟨adn (t, k, i) - 2750, by omega, by omega⟩))
  rcases hcs with h | ⟨j, h, hj⟩ | h | ⟨j, h, hj⟩
  · exact ckc_RC (base := 0) hV h x1 (KC_obj (by decide) oX)
  · have hg : rX.2[j]? = some (rX.2[j]'(by omega)) := List.getElem?_eq_getElem _
    have h1 := x2 j _ hg
    have h2 := cX j _ hg
    rw [show b0 + 1 + j = b0 + (1 + j) by omega] at h2
    rw [show 0 + 1 + j = 1 + j by omega] at h1
    exact ckc_RC (base := 0) hV h h1 h2
  · exact ckc_RC (base := 2749) hV h z1 (KC_obj (by decide) oZ)
  · have hg : rZ.2[j]? = some (rZ.2[j]'(by omega)) := List.getElem?_eq_getElem _
    have h1 := z2 j _ hg
    have h2 := cZ j _ hg
    rw [show b0 + 2750 + j = b0 + (2749 + 1 + j) by omega] at h2
    exact ckc_RC (base := 2749) hV h h1 h2
end INI
