/-! the tape's parts, read by pure functions of its bytes -/
theorem wl_id {x : Int} (h : -9223372036854775808 ≤ x ∧ x < 9223372036854775808) : wl x = x := by
  unfold wl
  exact Int.bmod_eq_of_le (by omega) (by omega)
def HH (h : Int → Int) (L : Int) : Prop := (0 ≤ L) ∧ (L ≤ 320) ∧ (∀ x, L ≤ x → h x = -1) ∧ (∀ x, 0 ≤ x → x < L → 1 ≤ h x ∧ h x ≤ 255)
theorem HH.l0 {h : Int → Int} {L : Int} (hZ : HH h L) : 0 ≤ L := hZ.1
theorem HH.l1 {h : Int → Int} {L : Int} (hZ : HH h L) : L ≤ 320 := hZ.2.1
theorem HH.out {h : Int → Int} {L : Int} (hZ : HH h L) : ∀ x, L ≤ x → h x = -1 := hZ.2.2.1
theorem HH.byt {h : Int → Int} {L : Int} (hZ : HH h L) : ∀ x, 0 ≤ x → x < L → 1 ≤ h x ∧ h x ≤ 255 := hZ.2.2.2
abbrev isBl (c : Int) : Prop := c = 32
abbrev isLt (c : Int) : Prop := 97 ≤ c ∧ c ≤ 122
abbrev isDg (c : Int) : Prop := 48 ≤ c ∧ c ≤ 57
def skF (p : Int → Prop) [DecidablePred p] (h : Int → Int) : Nat → Int → Int
  | 0, i => i
  | d + 1, i => if p (h i) then skF p h d (i + 1) else i
def sk (p : Int → Prop) [DecidablePred p] (h : Int → Int) (i : Int) : Int := skF p h 321 i
theorem skF_st {p : Int → Prop} [DecidablePred p] {h : Int → Int} : ∀ (d : Nat) (i : Int), ¬ p (h (i + d)) → skF p h (d + 1) i = skF p h d i
  | 0, i, hn => by
    unfold skF
    rw [Int.natCast_zero, Int.add_zero] at hn
    rw [if_neg hn]
  | d + 1, i, hn => by
    have e := skF_st (p := p) (h := h) d (i + 1) (by rw [show i + 1 + (d : Int) = i + ((d + 1 : Nat) : Int) by omega]; exact hn)
    rw [show skF p h (d + 1 + 1) i = if p (h i) then skF p h (d + 1) (i + 1) else i from rfl, show skF p h (d + 1) i = if p (h i) then skF p h d (i + 1) else i from rfl, e]
theorem sk_y {p : Int → Prop} [DecidablePred p] {h : Int → Int} {L i : Int} (H : HH h L) (hp : ¬ p (-1)) (i0 : 0 ≤ i) (e : p (h i)) : sk p h i = sk p h (i + 1) := by
  have l1 := H.l1
  have o := H.out (i + 1 + (320 : Nat)) (by omega)
  unfold sk
  rw [show skF p h 321 i = if p (h i) then skF p h 320 (i + 1) else i from rfl, if_pos e]
  exact (skF_st 320 (i + 1) (by rw [o]; exact hp)).symm
theorem sk_n {p : Int → Prop} [DecidablePred p] {h : Int → Int} {i : Int} (e : ¬ p (h i)) : sk p h i = i := by
  unfold sk
  rw [show skF p h 321 i = if p (h i) then skF p h 320 (i + 1) else i from rfl, if_neg e]
theorem skF_in {p : Int → Prop} [DecidablePred p] {h : Int → Int} {L : Int} (H : HH h L) (hp : ¬ p (-1)) : ∀ (d : Nat) (i : Int), 0 ≤ i → i ≤ L → i ≤ skF p h d i ∧ skF p h d i ≤ L ∧ ∀ x, i ≤ x → x < skF p h d i → p (h x)
  | 0, i, _, hL => ⟨Int.le_refl _, hL, fun x a b => absurd (show x < i from b) (by omega)⟩
  | d + 1, i, h0, hL => by
    rw [show skF p h (d + 1) i = if p (h i) then skF p h d (i + 1) else i from rfl]
    by_cases e : p (h i)
    · rw [if_pos e]
      have lt : i < L := by
        by_cases q : i < L
        · exact q
        · exact absurd (by have := H.out i (by omega); rw [this] at e; exact e) hp
      obtain ⟨a, b, c⟩ := skF_in H hp d (i + 1) (by omega) (by omega)
      refine ⟨by omega, b, fun x h1 h2 => ?_⟩
      by_cases q : x = i
      · rw [q]; exact e
      · exact c x (by omega) h2
    · rw [if_neg e]
      exact ⟨Int.le_refl _, hL, fun x a b => absurd b (by omega)⟩
theorem sk_in {p : Int → Prop} [DecidablePred p] {h : Int → Int} {L i : Int} (H : HH h L) (hp : ¬ p (-1)) (h0 : 0 ≤ i) (hL : i ≤ L) : i ≤ sk p h i ∧ sk p h i ≤ L ∧ ∀ x, i ≤ x → x < sk p h i → p (h x) := skF_in H hp 321 i h0 hL
theorem bl_m1 : ¬ isBl (-1) := by decide
theorem lt_m1 : ¬ isLt (-1) := by decide
theorem dg_m1 : ¬ isDg (-1) := by decide
theorem hh_lt {h : Int → Int} {L i : Int} (H : HH h L) (e : h i ≠ -1) : i < L := by
  by_cases q : i < L
  · exact q
  · exact absurd (H.out i (by omega)) e
/-- a number, as far as bounds up to 999 see it -/
def cp9 (z : Int) : Int := if z ≤ 999 then z else 1000
def nmF (h : Int → Int) : Nat → Int → Int → Int
  | 0, _, a => a
  | d + 1, i, a => if isDg (h i) then nmF h d (i + 1) (cp9 (10 * a + h i - 48)) else a
def nmA (h : Int → Int) (i a : Int) : Int := nmF h 321 i a
def nm (h : Int → Int) (i : Int) : Int := if isDg (h i) then nmA h i 0 else -1
theorem nmF_st {h : Int → Int} : ∀ (d : Nat) (i a : Int), ¬ isDg (h (i + d)) → nmF h (d + 1) i a = nmF h d i a
  | 0, i, a, hn => by
    rw [Int.natCast_zero, Int.add_zero] at hn
    unfold nmF
    rw [if_neg hn]
  | d + 1, i, a, hn => by
    have e := nmF_st (h := h) d (i + 1) (cp9 (10 * a + h i - 48)) (by rw [show i + 1 + (d : Int) = i + ((d + 1 : Nat) : Int) by omega]; exact hn)
    rw [show nmF h (d + 1 + 1) i a = if isDg (h i) then nmF h (d + 1) (i + 1) (cp9 (10 * a + h i - 48)) else a from rfl, show nmF h (d + 1) i a = if isDg (h i) then nmF h d (i + 1) (cp9 (10 * a + h i - 48)) else a from rfl, e]
theorem nm_y {h : Int → Int} {L i : Int} (H : HH h L) (i0 : 0 ≤ i) (a : Int) (e : isDg (h i)) : nmA h i a = nmA h (i + 1) (cp9 (10 * a + h i - 48)) := by
  have l1 := H.l1
  have o := H.out (i + 1 + (320 : Nat)) (by omega)
  unfold nmA
  rw [show nmF h 321 i a = if isDg (h i) then nmF h 320 (i + 1) (cp9 (10 * a + h i - 48)) else a from rfl, if_pos e]
  exact (nmF_st 320 (i + 1) _ (by rw [o]; exact dg_m1)).symm
theorem nm_n {h : Int → Int} {i : Int} (a : Int) (e : ¬ isDg (h i)) : nmA h i a = a := by
  unfold nmA
  rw [show nmF h 321 i a = if isDg (h i) then nmF h 320 (i + 1) (cp9 (10 * a + h i - 48)) else a from rfl, if_neg e]
theorem nmF_in {h : Int → Int} : ∀ (d : Nat) (i a : Int), 0 ≤ a → a ≤ 1000 → 0 ≤ nmF h d i a ∧ nmF h d i a ≤ 1000
  | 0, _, a, h0, h1 => ⟨h0, h1⟩
  | d + 1, i, a, h0, h1 => by
    rw [show nmF h (d + 1) i a = if isDg (h i) then nmF h d (i + 1) (cp9 (10 * a + h i - 48)) else a from rfl]
    by_cases e : isDg (h i)
    · rw [if_pos e]
      exact nmF_in d (i + 1) _ (by unfold cp9; split <;> omega) (by unfold cp9; split <;> omega)
    · rw [if_neg e]
      exact ⟨h0, h1⟩
theorem nm_in (h : Int → Int) (i : Int) : (isDg (h i) → 0 ≤ nm h i ∧ nm h i ≤ 1000) ∧ (¬ isDg (h i) → nm h i = -1) := by
  unfold nm
  refine ⟨fun e => ?_, fun e => if_neg e⟩
  rw [if_pos e]
  exact nmF_in 321 i 0 (by omega) (by omega)
/-! words -/
def wL (k : Int) : Int := ((strs.getD (Int.toNat k) []).length : Int)
def wC (k x : Int) : Int := (strs.getD (Int.toNat k) []).getD (Int.toNat x) 0
def isWb (h : Int → Int) (a k : Int) : Nat → Int → Bool
  | 0, _ => true
  | n + 1, x => decide (h (a + x) = wC k x) && isWb h a k n (x + 1)
abbrev isW (h : Int → Int) (a e k : Int) : Prop := e - a = wL k ∧ isWb h a k (wL k).toNat 0 = true
def wd (h : Int → Int) (lo : Int) (n : Nat) (a e : Int) : Int := ff (fun j => isW h a e (lo + j)) n 0
theorem isWb_iff {h : Int → Int} {a k : Int} : ∀ (n : Nat) (x : Int), isWb h a k n x = true ↔ ∀ y, x ≤ y → y < x + n → h (a + y) = wC k y
  | 0, x => ⟨fun _ y a b => absurd b (by omega), fun _ => rfl⟩
  | n + 1, x => by
    unfold isWb
    rw [Bool.and_eq_true, decide_eq_true_iff, isWb_iff n (x + 1)]
    refine ⟨fun q y h1 h2 => ?_, fun q => ⟨q x (Int.le_refl _) (by omega), fun y h1 h2 => q y (by omega) (by omega)⟩⟩
    by_cases e : y = x
    · rw [e]; exact q.1
    · exact q.2 y (by omega) (by omega)
theorem wrd : ∀ k : Nat, k < 20 → 3 ≤ (strs.getD k []).length ∧ (strs.getD k []).length ≤ 6 ∧ ∀ x : Nat, x < (strs.getD k []).length → 97 ≤ (strs.getD k []).getD x 0 ∧ (strs.getD k []).getD x 0 ≤ 122 := by decide +kernel
theorem wL_in {k : Int} (h0 : 0 ≤ k) (h1 : k < 20) : 3 ≤ wL k ∧ wL k ≤ 6 := by
  have r := wrd k.toNat (by omega)
  unfold wL
  omega
theorem wC_in {k x : Int} (h0 : 0 ≤ k) (h1 : k < 20) (x0 : 0 ≤ x) (x1 : x < wL k) : 97 ≤ wC k x ∧ wC k x ≤ 122 := by
  have r := wrd k.toNat (by omega)
  unfold wL at x1
  exact r.2.2 x.toNat (by omega)
def pw (h : Int → Int) (a : Int) : Nat → Int
  | 0 => 0
  | n + 1 => 32 * pw h a n + h (a + n) - 96
def sw (k : Int) : Nat → Int
  | 0 => 0
  | n + 1 => 32 * sw k n + wC k n - 96
def mB : Nat → Int
  | 0 => 1
  | n + 1 => 32 * mB n
theorem mB_le {n : Nat} (h : n ≤ 7) : mB n ≤ 34359738368 := by
  have : n = 0 ∨ n = 1 ∨ n = 2 ∨ n = 3 ∨ n = 4 ∨ n = 5 ∨ n = 6 ∨ n = 7 := by omega
  rcases this with rfl | rfl | rfl | rfl | rfl | rfl | rfl | rfl <;> decide
theorem pw_in {h : Int → Int} {a : Int} : ∀ n : Nat, (∀ x : Nat, x < n → isLt (h (a + x))) → 0 ≤ pw h a n ∧ pw h a n < mB n
  | 0, _ => ⟨Int.le_refl _, Int.zero_lt_one⟩
  | n + 1, q => by
    have r := pw_in n (fun x hx => q x (by omega))
    have c := q n (by omega)
    unfold pw mB
    omega
theorem sw_in {k : Int} (h0 : 0 ≤ k) (h1 : k < 20) : ∀ n : Nat, (n : Int) ≤ wL k → 0 ≤ sw k n ∧ sw k n < mB n
  | 0, _ => ⟨Int.le_refl _, Int.zero_lt_one⟩
  | n + 1, q => by
    have r := sw_in h0 h1 n (by omega)
    have c := wC_in h0 h1 (x := n) (by omega) (by omega)
    unfold sw mB
    omega
theorem pw_eq {h : Int → Int} {a k : Int} (h0 : 0 ≤ k) (h1 : k < 20) : ∀ n m : Nat, (∀ x : Nat, x < n → isLt (h (a + x))) → (m : Int) ≤ wL k → (pw h a n = sw k m ↔ n = m ∧ ∀ x : Nat, x < n → h (a + x) = wC k x)
  | 0, 0, _, _ => ⟨fun _ => ⟨rfl, fun x hx => absurd hx (by omega)⟩, fun _ => rfl⟩
  | 0, m + 1, _, hm => by
    have r := sw_in h0 h1 m (by omega)
    have c := wC_in h0 h1 (x := m) (by omega) (by omega)
    refine ⟨fun e => ?_, fun e => absurd e.1 (by omega)⟩
    unfold pw sw at e
    omega
  | n + 1, 0, hn, _ => by
    have r := pw_in n (fun x hx => hn x (by omega))
    have c := hn n (by omega)
    refine ⟨fun e => ?_, fun e => absurd e.1 (by omega)⟩
    unfold pw sw at e
    omega
  | n + 1, m + 1, hn, hm => by
    have r := pw_eq h0 h1 n m (fun x hx => hn x (by omega)) (by omega)
    have c := hn n (by omega)
    have c2 := wC_in h0 h1 (x := m) (by omega) (by omega)
    unfold pw sw
    constructor
    · intro e
      have e0 : pw h a n = sw k m := by omega
      obtain ⟨e1, e2⟩ := r.1 e0
      subst e1
      refine ⟨rfl, fun x hx => ?_⟩
      by_cases q : x = n
      · rw [q]; omega
      · exact e2 x (by omega)
    · intro e
      have e1 : n = m := by omega
      subst e1
      rw [r.2 ⟨rfl, fun x hx => e.2 x (by omega)⟩, e.2 n (by omega)]
def pwv (h : Int → Int) (a : Int) (n : Nat) : Int := if n ≤ 7 then pw h a n else 0
theorem wd_pw {h : Int → Int} {L j k : Int} (H : HH h L) (j0 : 0 ≤ j) (j1 : j ≤ L) (h0 : 0 ≤ k) (h1 : k < 20) : pwv h j (sk isLt h j - j).toNat = sw k (wL k).toNat ↔ isW h j (sk isLt h j) k := by
  have wl := wL_in h0 h1
  obtain ⟨s1, s2, s3⟩ := sk_in H lt_m1 j0 j1
  unfold isW
  rw [isWb_iff]
  unfold pwv
  by_cases q : (sk isLt h j - j).toNat ≤ 7
  · rw [if_pos q, pw_eq h0 h1 _ _ (fun x hx => s3 (j + x) (by omega) (by omega)) (by omega)]
    constructor
    · intro e
      refine ⟨by omega, fun y a b => ?_⟩
      have := e.2 y.toNat (by omega)
      rw [show ((y.toNat : Nat) : Int) = y by omega] at this
      exact this
    · intro e
      exact ⟨by omega, fun x hx => e.2 x (by omega) (by omega)⟩
  · rw [if_neg q]
    refine ⟨fun e => ?_, fun e => absurd e.1 (by omega)⟩
    obtain ⟨m, hm⟩ : ∃ m : Nat, (wL k).toNat = m + 1 := ⟨(wL k).toNat - 1, by omega⟩
    rw [hm] at e
    have r := sw_in h0 h1 m (by omega)
    have c := wC_in h0 h1 (x := m) (by omega) (by omega)
    unfold sw at e
    omega
theorem wd_in (h : Int → Int) (lo : Int) (n : Nat) (a e : Int) : wd h lo n a e = -1 ∨ (0 ≤ wd h lo n a e ∧ wd h lo n a e < n ∧ isW h a e (lo + wd h lo n a e)) := by
  unfold wd
  have r := ff_at (c := fun j => isW h a e (lo + j)) n 0
  rw [Int.zero_add] at r
  exact r
/-! clauses, steps, texts -/
abbrev rA (h : Int → Int) (i : Int) : Int := sk isBl h i
abbrev rE (h : Int → Int) (i : Int) : Int := sk isLt h (rA h i)
def clK (h : Int → Int) (i : Int) : Int := wd h 0 4 (rA h i) (rE h i)
def stK (h : Int → Int) (i : Int) : Int := wd h 4 16 (rA h i) (rE h i)
abbrev clN (h : Int → Int) (i : Int) : Int := sk isBl h (rE h i)
theorem clK_in (h : Int → Int) (i : Int) : clK h i = -1 ∨ (0 ≤ clK h i ∧ clK h i < 4 ∧ isW h (rA h i) (rE h i) (0 + clK h i)) := by
  unfold clK
  rcases wd_in h 0 4 (rA h i) (rE h i) with z | z
  · exact Or.inl z
  · exact Or.inr ⟨z.1, by have := z.2.1; omega, z.2.2⟩
theorem stK_in (h : Int → Int) (i : Int) : stK h i = -1 ∨ (0 ≤ stK h i ∧ stK h i < 16 ∧ isW h (rA h i) (rE h i) (4 + stK h i)) := by
  unfold stK
  rcases wd_in h 4 16 (rA h i) (rE h i) with z | z
  · exact Or.inl z
  · exact Or.inr ⟨z.1, by have := z.2.1; omega, z.2.2⟩
def clF (h T : Int → Int) (i : Int) : Int := if clK h i < 0 ∨ T (clK h i) ≠ 0 then rA h i else if nm h (clN h i) < stv 62 (clK h i) ∨ stv 63 (clK h i) < nm h (clN h i) then clN h i else -1
abbrev clB (h : Int → Int) (i : Int) : Int := sk isBl h (sk isDg h (clN h i))
def maF (h : Int → Int) : Nat → Int → (Int → Int) → (Int → Int) → Int × (Int → Int)
  | 0, _, _, R => (0, R)
  | d + 1, i, T, R => if clF h T i ≠ -1 then (clF h T i, R) else if h (clB h i) = -1 then (-1, put R (clK h i) (nm h (clN h i))) else if h (clB h i) ≠ 59 then (clB h i, put R (clK h i) (nm h (clN h i))) else maF h d (clB h i + 1) (put T (clK h i) 1) (put R (clK h i) (nm h (clN h i)))
def nuQ (h : Int → Int) (x p : Int) : Int := if 1 < x then sk isBl h (sk isBl h p + 1) else sk isBl h p
def nuF (h : Int → Int) : Nat → Int → Int → (Int → Int) → Int × Int × (Int → Int)
  | 0, _, p, r => (-1, p, r)
  | d + 1, x, p, r => if 1 < x ∧ h (sk isBl h p) ≠ 44 then (sk isBl h p, p, r) else if nm h (nuQ h x p) < 0 ∨ 999 < nm h (nuQ h x p) then (nuQ h x p, p, r) else nuF h d (x + 1) (sk isDg h (nuQ h x p)) (put r x (nm h (nuQ h x p)))
def row0 (k : Int) : Int → Int := fun j => if j = 0 then k else -1
def stF (h : Int → Int) (i : Int) : Int × Int × (Int → Int) := if stK h i < 0 then (rA h i, i, row0 0) else nuF h (stv 65 (stK h i)).toNat 1 (rE h i) (row0 (stK h i))
def rowW (C : Int → Int) (m : Int) (r : Int → Int) : Int → Int := fun x => if 6 * m ≤ x ∧ x < 6 * m + 6 then r (x - 6 * m) else C x
abbrev stB2 (h : Int → Int) (i : Int) : Int := sk isBl h (stF h i).2.1
def scF (h : Int → Int) : Nat → Int → Int → (Int → Int) → Int × Int × (Int → Int)
  | 0, _, m, C => (0, m, C)
  | d + 1, i, m, C => if (stF h i).1 ≠ -1 then ((stF h i).1, m, C) else if h (stB2 h i) = -1 then (-1, m + 1, rowW C m (stF h i).2.2) else if h (stB2 h i) ≠ 59 ∨ 12 ≤ m + 1 then (stB2 h i, m + 1, C) else scF h d (stB2 h i + 1) (m + 1) (rowW C m (stF h i).2.2)
