/-! text: a machine on both -/
def gz (x : Int) : Int := if 0 ≤ x ∧ x < 110 then (if x % 11 = 1 ∨ x % 11 = 2 ∨ x % 11 = 5 then -1 else 0) else if 202 ≤ x ∧ x < 235 then (if (x - 202) % 11 = 1 ∨ (x - 202) % 11 = 2 ∨ (x - 202) % 11 = 3 then -1 else 0) else 0
theorem clrF_x {p x : Int} : ∀ (n : Nat) (i : Int) (g : Int → Int), clrF p n i g x = if 11 * p + i ≤ x ∧ x < 11 * p + i + n then (if x - 11 * p = 1 ∨ x - 11 * p = 2 ∨ x - 11 * p = 5 then -1 else 0) else g x
  | 0, i, g => by
    rw [if_neg (by omega)]
    rfl
  | n + 1, i, g => by
    show clrF p n (i + 1) (sp g p i (if i = 1 ∨ i = 2 ∨ i = 5 then -1 else 0)) x = _
    rw [clrF_x n (i + 1)]
    unfold sp put
    by_cases q : x = 11 * p + i
    · rw [if_neg (show ¬ (11 * p + (i + 1) ≤ x ∧ x < 11 * p + (i + 1) + n) by omega), if_pos q, if_pos (show 11 * p + i ≤ x ∧ x < 11 * p + i + ((n + 1 : Nat) : Int) by omega)]
      have e : x - 11 * p = i := by omega
      rw [e]
    · rw [if_neg q]
      by_cases z : 11 * p + (i + 1) ≤ x ∧ x < 11 * p + (i + 1) + n
      · rw [if_pos z, if_pos (show 11 * p + i ≤ x ∧ x < 11 * p + i + ((n + 1 : Nat) : Int) by omega)]
      · rw [if_neg z, if_neg (show ¬ (11 * p + i ≤ x ∧ x < 11 * p + i + ((n + 1 : Nat) : Int)) by omega)]
theorem clearG_x {g : Int → Int} {p x : Int} : clearG g p x = if 11 * p ≤ x ∧ x < 11 * p + 11 then (if x - 11 * p = 1 ∨ x - 11 * p = 2 ∨ x - 11 * p = 5 then -1 else 0) else g x := by
  unfold clearG
  rw [clrF_x 11 0 g, Int.add_zero]
  rfl
theorem outG_x {g : Int → Int} {c x : Int} : outG g c x = if x = 202 + 11 * c + 4 then 0 else if x = 202 + 11 * c + 3 then -1 else if x = 202 + 11 * c + 2 then -1 else if x = 202 + 11 * c + 1 then -1 else g x := rfl
section TXB
variable {σ0 σ s : ST} {P : MP} {g R : Int → Int} {n : Int}
theorem L_tm54 {Q : Option AV → ST → Prop} (K : ∀ s g, ZT σ0 s P g → (∀ x, 0 ≤ x → x < 526 → g x = if x < 110 then gz x else 0) → wp m_Z_takeMachine (73, [some zz, some (.inl 0)], [], s) Q) : ∀ (d : Nat) (i : Int) (g : Int → Int) (s : ST), i + d = 10 → 0 ≤ i → ZT σ0 s P g → (∀ x, 0 ≤ x → x < 526 → g x = if x < 11 * i then gz x else 0) → wp m_Z_takeMachine (54, [some zz, some (.inl i)], [], s) Q
  | d, i, g, s, hd, i0, hz, hg => by
    refine T_Z_takeMachine_54 _ _ _ _ _ ?_
    match d, hd with
    | 0, hd =>
      have e : i = 10 := by omega
      subst e
      exact And.intro (fun _ => K s g hz hg) (fun q => absurd (show (10 : Int) ≤ 10 by decide) q)
    | d + 1, hd =>
      refine And.intro (fun q => absurd q (by omega)) (fun _ => Z_clear hz i0 (by omega) (fun s1 h1 => ?_))
      rw [wr_id (x := i + 1) (by omega)]
      refine L_tm54 K d (i + 1) _ s1 (by omega) (by omega) h1 (fun x x0 x1 => ?_)
      rw [clearG_x, hg x x0 x1]
      unfold gz
      (repeat' split) <;> omega
theorem L_tm73 {Q : Option AV → ST → Prop} (K : ∀ s g, ZT σ0 s P g → (∀ x, 0 ≤ x → x < 526 → g x = gz x) → Q (some (.inl (s 43 0 0 0))) (up (up s 40 0 0 18 0) 40 0 0 23 0)) : ∀ (d : Nat) (i : Int) (g : Int → Int) (s : ST), i + d = 3 → 0 ≤ i → ZT σ0 s P g → (∀ x, 0 ≤ x → x < 526 → g x = if x < 202 + 11 * i then gz x else 0) → wp m_Z_takeMachine (73, [some zz, some (.inl i)], [], s) Q
  | d, i, g, s, hd, i0, hz, hg => by
    refine T_Z_takeMachine_73 _ _ _ _ _ ?_
    match d, hd with
    | 0, hd =>
      refine And.intro (fun _ => And.intro (Or.inl rfl) (And.intro ⟨by omega, by omega⟩ ?_)) (fun q => absurd (show 3 ≤ i by omega) q)
      rw [up_o (by decide), up_o (by decide)]
      refine K s g hz (fun x x0 x1 => ?_)
      rw [hg x x0 x1]
      unfold gz
      (repeat' split) <;> omega
    | d + 1, hd =>
      refine And.intro (fun q => absurd q (by omega)) (fun _ => A_Z_out hz i0 (by omega) (fun s1 h1 => ?_))
      rw [wr_id (x := i + 1) (by omega)]
      refine L_tm73 K d (i + 1) _ s1 (by omega) (by omega) h1 (fun x x0 x1 => ?_)
      rw [outG_x, hg x x0 x1]
      unfold gz
      (repeat' split) <;> omega
theorem L_tm32 {Q : Option AV → ST → Prop} (K : ∀ s, (∀ (t : Nat) (k i x : Int), t ≠ 46 → s t k i x = σ0 t k i x) → (∀ x, 0 ≤ x → x < 526 → s 46 0 0 x = 0) → wp m_Z_takeMachine (54, [some zz, some (.inl 0)], [], s) Q) : ∀ (d : Nat) (i : Int) (s : ST), i + d = 526 → 0 ≤ i → (∀ (t : Nat) (k i x : Int), t ≠ 46 → s t k i x = σ0 t k i x) → (∀ x, 0 ≤ x → x < i → s 46 0 0 x = 0) → wp m_Z_takeMachine (32, [some zz, some (.inl i)], [], s) Q
  | d, i, s, hd, i0, f, h0 => by
    refine T_Z_takeMachine_32 _ _ _ _ _ ?_
    match d, hd with
    | 0, hd => exact And.intro (fun _ => K s f (fun x a b => h0 x a (by omega))) (fun q => absurd (show 526 ≤ i by omega) q)
    | d + 1, hd =>
      refine And.intro (fun q => absurd q (by omega)) (fun _ => And.intro ⟨i0, by omega⟩ ?_)
      rw [wr_id (x := i + 1) (by omega)]
      refine L_tm32 K d (i + 1) _ (by omega) (by omega) (fun t k i x ht => by rw [up_o ht]; exact f t k i x ht) (fun x a b => ?_)
      rw [up_s]
      by_cases q : x = i
      · rw [if_pos q]
      · rw [if_neg q]; exact h0 x a (by omega)
theorem L_tm7 {Q : Option AV → ST → Prop} (K : ∀ s, (∀ (t : Nat) (k i x : Int), t ≠ 43 → s t k i x = σ0 t k i x) → (∀ x, 0 ≤ x → x < 4 → s 43 0 0 x = σ0 42 0 0 x) → wp m_Z_takeMachine (32, [some zz, some (.inl 0)], [], s) Q) : ∀ (d : Nat) (i : Int) (s : ST), i + d = 4 → 0 ≤ i → (∀ (t : Nat) (k i x : Int), t ≠ 43 → s t k i x = σ0 t k i x) → (∀ x, 0 ≤ x → x < i → s 43 0 0 x = σ0 42 0 0 x) → wp m_Z_takeMachine (7, [some zz, some (.inl i)], [], s) Q
  | d, i, s, hd, i0, f, h0 => by
    refine T_Z_takeMachine_7 _ _ _ _ _ ?_
    match d, hd with
    | 0, hd => exact And.intro (fun _ => K s f (fun x a b => h0 x a (by omega))) (fun q => absurd (show 4 ≤ i by omega) q)
    | d + 1, hd =>
      refine And.intro (fun q => absurd q (by omega)) (fun _ => And.intro ⟨i0, by omega⟩ (And.intro ⟨i0, by omega⟩ ?_))
      rw [wr_id (x := i + 1) (by omega)]
      refine L_tm7 K d (i + 1) _ (by omega) (by omega) (fun t k i x ht => by rw [up_o ht]; exact f t k i x ht) (fun x a b => ?_)
      rw [up_s]
      by_cases q : x = i
      · rw [if_pos q, q]; exact f _ _ _ _ (by decide)
      · rw [if_neg q]; exact h0 x a (by omega)
theorem Z_takeM (hok : MPok P) (hp : P.np ≠ 0) (e0 : s 42 0 0 0 = P.np) (e1 : s 42 0 0 1 = P.nc) (e2 : s 42 0 0 2 = P.nh) (e3 : s 42 0 0 3 = P.key) {F : Int → ST → Prop} (K : ∀ s', (∀ (t : Nat) (k i x : Int), ¬ (t = 43 ∨ t = 46 ∨ t = 40 ∧ (x = 11 ∨ x = 18 ∨ x = 23)) → s' t k i x = s t k i x) → ZS s' P gz → s' 40 0 0 18 = 0 → s' 40 0 0 23 = 0 → (∀ x, 0 ≤ x → x < 4 → s' 43 0 0 x = s 42 0 0 x) → F P.np s') : wpM m_Z_takeMachine [zz] s (asI F) := by
  refine T_Z_takeMachine _ _ _ _ ?_
  refine And.intro (Or.inr rfl) ?_
  refine L_tm7 (σ0 := up s 40 0 0 11 1) (fun s1 f1 h1 => ?_) 4 0 _ (by omega) (by omega) (fun _ _ _ _ _ => rfl) (fun x a b => absurd b (by omega))
  refine L_tm32 (σ0 := s1) (fun s2 f2 h2 => ?_) 526 0 _ (by omega) (by omega) (fun _ _ _ _ _ => rfl) (fun x a b => absurd b (by omega))
  have r2 : ∀ x, 0 ≤ x → x < 4 → s2 43 0 0 x = s 42 0 0 x := fun x a b => (f2 _ _ _ _ (by decide)).trans ((h1 x a b).trans (up_o (by decide)))
  have z2 : ZS s2 P (fun _ => 0) := by
    refine ⟨hok, h2, (r2 0 (by omega) (by omega)).trans e0, (r2 1 (by omega) (by omega)).trans e1, (r2 2 (by omega) (by omega)).trans e2, (r2 3 (by omega) (by omega)).trans e3, ?_, fun z => absurd z hp, fun z => absurd z hp⟩
    rw [f2 _ _ _ _ (by decide), f1 _ _ _ _ (by decide), up_s, if_pos rfl, ← b2_h hp]
    rfl
  refine L_tm54 (σ0 := s2) (P := P) (fun s3 g3 z3 h3 => ?_) 10 0 _ s2 (by omega) (by omega) (ZT.start z2 hp) (fun x a b => by rw [if_neg (by omega)])
  refine L_tm73 (σ0 := s2) (P := P) (fun s4 g4 z4 h4 => ?_) 3 0 _ s3 (by omega) (by omega) z3 (fun x a b => ?_)
  · have e4 : s4 43 0 0 0 = P.np := z4.1.np
    rw [e4]
    have f4 : ∀ (t : Nat) (k i x : Int), ¬ (t = 43 ∨ t = 46 ∨ t = 40 ∧ (x = 11 ∨ x = 18 ∨ x = 23)) → up (up s4 40 0 0 18 0) 40 0 0 23 0 t k i x = s t k i x := by
      intro t k i x hn
      unfold up
      rw [if_neg (by omega), if_neg (by omega), z4.2.2 _ _ _ _ (by omega), f2 _ _ _ _ (by omega), f1 _ _ _ _ (by omega)]
      unfold up
      rw [if_neg (by omega)]
    have z5 : ZS s4 P gz := ⟨z4.1.ok, fun x a b => (z4.1.now x a b).trans (h4 x a b), z4.1.np, z4.1.nc, z4.1.nh, z4.1.key, z4.1.mac, fun z => absurd z hp, fun z => absurd z hp⟩
    refine K _ f4 (z5.keepo (fun x => by rw [up_o (by decide), up_o (by decide)]) (fun x => by rw [up_o (by decide), up_o (by decide)]) (by rw [up_s, if_neg (by decide), up_s, if_neg (by decide)])) (by rw [up_s, if_neg (by decide), up_s, if_pos rfl]) (by rw [up_s, if_pos rfl]) (fun x a b => ?_)
    rw [up_o (by decide), up_o (by decide), z4.2.2 _ _ _ _ (by decide)]
    exact r2 x a b
  · rw [h3 x a b]
    unfold gz
    (repeat' split) <;> omega
/-! the component's world begun -/
abbrev Fw0 (σ s : ST) : Prop := ∀ (t : Nat) (k i x : Int), ¬ (12 ≤ t ∧ t ≤ 29 ∧ k = 0) → s t k i x = σ t k i x
theorem gz_pg {p k : Int} (h0 : 0 ≤ p) (h1 : p < 10) (h2 : 0 ≤ k) (h3 : k < 11) : pg gz p k = if k = 1 ∨ k = 2 ∨ k = 5 then -1 else 0 := by
  unfold pg gz
  rw [if_pos (by omega), show (11 * p + k) % 11 = k by omega]
theorem gz_rm {p k : Int} (h0 : 0 ≤ p) (h1 : p < 4) (h2 : 0 ≤ k) (h3 : k < 23) : rm gz p k = 0 := by
  unfold rm gz
  rw [if_neg (by omega), if_neg (by omega)]
theorem gz_co {p k : Int} (h0 : 0 ≤ p) (h1 : p < 3) (h2 : 0 ≤ k) (h3 : k < 11) : co gz p k = if k = 1 ∨ k = 2 ∨ k = 3 then -1 else 0 := by
  unfold co gz
  rw [if_neg (by omega), if_pos (by omega), show (202 + 11 * p + k - 202) % 11 = k by omega]
theorem gz_cp {p k : Int} (h0 : 0 ≤ p) (h1 : p < 12) (h2 : 0 ≤ k) (h3 : k < 9) : cp gz p k = 0 := by
  unfold cp gz
  rw [if_neg (by omega), if_neg (by omega)]
theorem gz_hi {x : Int} (h : 235 ≤ x) : gz x = 0 := by
  unfold gz
  rw [if_neg (by omega), if_neg (by omega)]
theorem L_wb28 {o1 o2 o3 : Option AV} {Q : Option AV → ST → Prop} (K : ∀ s, (∀ (t : Nat) (k i x : Int), ¬ ((t = 14 ∨ t = 15) ∧ k = 0) → s t k i x = σ t k i x) → (∀ p, 0 ≤ p → p < 10 → RPg s 0 p gz) → wp m_World_begin (56, [some (ww 0), o1, o2, o3, some (.inl 0)], [], s) Q) : ∀ (d : Nat) (i : Int) (s : ST), i + d = 10 → 0 ≤ i → (∀ (t : Nat) (k i x : Int), ¬ ((t = 14 ∨ t = 15) ∧ k = 0) → s t k i x = σ t k i x) → (∀ p, 0 ≤ p → p < i → RPg s 0 p gz) → wp m_World_begin (28, [some (ww 0), o1, o2, o3, some (.inl i)], [], s) Q
  | d, i, s, hd, i0, f, hg => by
    refine T_World_begin_28 _ _ _ _ _ _ _ _ ?_
    match d, hd with
    | 0, hd => exact And.intro (fun _ => K s f (fun p a b => hg p a (by omega))) (fun q => absurd (show 10 ≤ i by omega) q)
    | d + 1, hd =>
      refine And.intro (fun q => absurd q (by omega)) (fun _ => And.intro ⟨i0, by omega⟩ ?_)
      refine C_P_begin 0 i 0 (-1) s (fun s1 o k0 k1 k2 k3 k4 k5 k7 kv => ?_)
      rw [wr_id (x := i + 1) (by omega)]
      refine L_wb28 K d (i + 1) s1 (by omega) (by omega) (fun t k j x hn => by rw [o t k j x (fun z => hn ⟨z.1, z.2.1⟩)]; exact f t k j x hn) (fun p a b => ?_)
      by_cases q : p = i
      · subst q
        unfold RPg
        rw [gz_pg a (by omega) (by omega) (by omega), gz_pg a (by omega) (by omega) (by omega), gz_pg a (by omega) (by omega) (by omega), gz_pg a (by omega) (by omega) (by omega), gz_pg a (by omega) (by omega) (by omega), gz_pg a (by omega) (by omega) (by omega), gz_pg a (by omega) (by omega) (by omega)]
        refine ⟨k0, k1, k2, k3, k4, ?_, fun z => absurd rfl z, k7, fun j h0 h1 => ?_⟩
        · rw [k5]; rfl
        · rw [kv j h0 h1, gz_pg a (by omega) (by omega) (by omega), if_neg (by omega)]
      · exact (hg p a (by omega)).same (fun x => o _ _ _ _ (by omega)) (fun x => o _ _ _ _ (by omega)) (fun _ _ _ => rfl)
theorem L_wb56 {o1 o2 o3 : Option AV} {Q : Option AV → ST → Prop} (K : ∀ s, (∀ (t : Nat) (k i x : Int), ¬ (t = 17 ∧ k = 0) → s t k i x = σ t k i x) → (∀ r, 0 ≤ r → r < 4 → RRm s 0 r gz) → wp m_World_begin (82, [some (ww 0), o1, o2, o3, some (.inl 0)], [], s) Q) : ∀ (d : Nat) (i : Int) (s : ST), i + d = 4 → 0 ≤ i → (∀ (t : Nat) (k i x : Int), ¬ (t = 17 ∧ k = 0) → s t k i x = σ t k i x) → (∀ r, 0 ≤ r → r < i → RRm s 0 r gz) → wp m_World_begin (56, [some (ww 0), o1, o2, o3, some (.inl i)], [], s) Q
  | d, i, s, hd, i0, f, hg => by
    refine T_World_begin_56 _ _ _ _ _ _ _ _ ?_
    match d, hd with
    | 0, hd => exact And.intro (fun _ => K s f (fun p a b => hg p a (by omega))) (fun q => absurd (show 4 ≤ i by omega) q)
    | d + 1, hd =>
      refine And.intro (fun q => absurd q (by omega)) (fun _ => And.intro ⟨i0, by omega⟩ (And.intro (Or.inl rfl) ?_))
      rw [wr_id (x := i + 1) (by omega)]
      refine L_wb56 K d (i + 1) _ (by omega) (by omega) (fun t k j x hn => by rw [up_ne (by omega)]; exact f t k j x hn) (fun p a b => ?_)
      by_cases q : p = i
      · subst q
        unfold RRm
        rw [up_s, if_pos rfl, gz_rm a (by omega) (by omega) (by omega)]
        exact ⟨rfl, fun z => absurd z (by decide)⟩
      · exact (hg p a (by omega)).same (fun x => up_ne (by omega)) (fun x => up_ne (by omega)) (fun x => up_ne (by omega)) (fun _ _ _ => rfl)
theorem L_wb82 {o1 o2 o3 : Option AV} {Q : Option AV → ST → Prop} (K : ∀ s, (∀ (t : Nat) (k i x : Int), ¬ (t = 21 ∧ k = 0) → s t k i x = σ t k i x) → (∀ r, 0 ≤ r → r < 3 → RCo s 0 r gz) → wp m_World_begin (107, [some (ww 0), o1, o2, o3, some (.inl 0)], [], s) Q) : ∀ (d : Nat) (i : Int) (s : ST), i + d = 3 → 0 ≤ i → (∀ (t : Nat) (k i x : Int), ¬ (t = 21 ∧ k = 0) → s t k i x = σ t k i x) → (∀ r, 0 ≤ r → r < i → RCo s 0 r gz) → wp m_World_begin (82, [some (ww 0), o1, o2, o3, some (.inl i)], [], s) Q
  | d, i, s, hd, i0, f, hg => by
    refine T_World_begin_82 _ _ _ _ _ _ _ _ ?_
    match d, hd with
    | 0, hd => exact And.intro (fun _ => K s f (fun p a b => hg p a (by omega))) (fun q => absurd (show 3 ≤ i by omega) q)
    | d + 1, hd =>
      refine And.intro (fun q => absurd q (by omega)) (fun _ => And.intro ⟨i0, by omega⟩ ?_)
      refine T_Core_begin _ _ _ _ ?_
      refine C_C_out 0 i _ (fun s1 o k0 k1 k2 k3 k4 => ?_)
      show wp m_World_begin _ _
      rw [wr_id (x := i + 1) (by omega)]
      have o1 : ∀ (t : Nat) (k j x : Int), ¬ (t = 21 ∧ k = 0 ∧ j = i) → s1 t k j x = s t k j x := fun t k j x hn => by
        rw [o t k j x (by omega), up_ne (by omega)]
      refine L_wb82 K d (i + 1) s1 (by omega) (by omega) (fun t k j x hn => by rw [o1 t k j x (by omega)]; exact f t k j x hn) (fun p a b => ?_)
      by_cases q : p = i
      · subst q
        unfold RCo
        rw [gz_co a (by omega) (by omega) (by omega), gz_co a (by omega) (by omega) (by omega), gz_co a (by omega) (by omega) (by omega), gz_co a (by omega) (by omega) (by omega), gz_co a (by omega) (by omega) (by omega)]
        refine ⟨?_, k1, k2, k3, k4, fun j h0 h1 => absurd h1 (by show ¬ j < 0; omega), fun j h0 h1 => absurd h1 (by show ¬ j < 0; omega)⟩
        rw [k0, up_s, if_pos rfl]
        rfl
      · refine (hg p a (by omega)).same ?_ (fun x => o1 _ _ _ _ (by omega)) (fun x => o1 _ _ _ _ (by omega)) (fun x => o1 _ _ _ _ (by omega)) (fun _ _ _ => rfl)
        rw [gz_co a (by omega) (by omega) (by omega), if_neg (by omega)]
        omega
theorem L_wb107 {o1 o2 o3 : Option AV} {Q : Option AV → ST → Prop} (K : ∀ s, (∀ (t : Nat) (k i x : Int), ¬ ((t = 25 ∨ t = 26) ∧ k = 0) → s t k i x = σ t k i x) → (∀ r, 0 ≤ r → r < 12 → RCp s 0 r gz) → s 26 0 0 0 = 0 → s 26 0 0 1 = 0 → Q none s) : ∀ (d : Nat) (i : Int) (s : ST), i + d = 12 → 0 ≤ i → (∀ (t : Nat) (k i x : Int), ¬ ((t = 25 ∨ t = 26) ∧ k = 0) → s t k i x = σ t k i x) → (∀ r, 0 ≤ r → r < i → RCp s 0 r gz) → wp m_World_begin (107, [some (ww 0), o1, o2, o3, some (.inl i)], [], s) Q
  | d, i, s, hd, i0, f, hg => by
    refine T_World_begin_107 _ _ _ _ _ _ _ _ ?_
    match d, hd with
    | 0, hd =>
      refine And.intro (fun _ => ?_) (fun q => absurd (show 12 ≤ i by omega) q)
      refine T_Log_begin _ _ _ _ ?_
      refine K _ (fun t k j x hn => by rw [up_ne (by omega), up_ne (by omega)]; exact f t k j x hn) (fun p a b => ?_) (by rw [up_s, if_neg (by decide), up_s, if_pos rfl]) (by rw [up_s, if_pos rfl])
      exact (hg p a (by omega)).same (fun x => by rw [up_o (by decide), up_o (by decide)]) (fun _ _ _ => rfl)
    | d + 1, hd =>
      refine And.intro (fun q => absurd q (by omega)) (fun _ => And.intro ⟨i0, by omega⟩ (And.intro (Or.inl rfl) ?_))
      rw [wr_id (x := i + 1) (by omega)]
      refine L_wb107 K d (i + 1) _ (by omega) (by omega) (fun t k j x hn => by rw [up_ne (by omega)]; exact f t k j x hn) (fun p a b => ?_)
      by_cases q : p = i
      · subst q
        unfold RCp
        rw [up_s, if_pos rfl, gz_cp a (by omega) (by omega) (by omega)]
        exact ⟨rfl, fun z => absurd z (by decide)⟩
      · exact (hg p a (by omega)).same (fun x => up_ne (by omega)) (fun _ _ _ => rfl)
theorem C_Wbegin (hok : MPok P) {F : ST → Prop} (K : ∀ s', Fw0 s s' → RX s' 0 P gz → F s') : wpM m_World_begin [ww 0, .inl P.np, .inl P.nc, .inl P.nh] s (asV F) := by
  refine T_World_begin _ _ _ _ _ _ _ ?_
  refine L_wb28 (σ := up (up (up (up (up s 12 0 0 0 P.np) 12 0 0 1 P.nc) 12 0 0 2 P.nh) 12 0 0 3 0) 12 0 0 4 0) (fun s1 f1 h1 => ?_) 10 0 _ (by omega) (by omega) (fun _ _ _ _ _ => rfl) (fun p a b => absurd b (by omega))
  refine L_wb56 (σ := s1) (fun s2 f2 h2 => ?_) 4 0 _ (by omega) (by omega) (fun _ _ _ _ _ => rfl) (fun p a b => absurd b (by omega))
  refine L_wb82 (σ := s2) (fun s3 f3 h3 => ?_) 3 0 _ (by omega) (by omega) (fun _ _ _ _ _ => rfl) (fun p a b => absurd b (by omega))
  refine L_wb107 (σ := s3) (fun s4 f4 h4 e0 e1 => ?_) 12 0 _ (by omega) (by omega) (fun _ _ _ _ _ => rfl) (fun p a b => absurd b (by omega))
  have p1 := hok.p1
  have c1 := hok.c1
  have w : ∀ x, s4 12 0 0 x = up (up (up (up (up s 12 0 0 0 P.np) 12 0 0 1 P.nc) 12 0 0 2 P.nh) 12 0 0 3 0) 12 0 0 4 0 12 0 0 x := fun x => by
    rw [f4 _ _ _ _ (by omega), f3 _ _ _ _ (by omega), f2 _ _ _ _ (by omega), f1 _ _ _ _ (by omega)]
  refine K s4 (fun t k i x hn => ?_) ⟨⟨hok, ?_, ?_, ?_, ?_, ?_, fun p a b => ?_, fun r a b => ?_, fun c a b => ?_, h4, ?_⟩, fun c hc => ?_⟩
  · rw [f4 _ _ _ _ (by omega), f3 _ _ _ _ (by omega), f2 _ _ _ _ (by omega), f1 _ _ _ _ (by omega), up_ne (by omega), up_ne (by omega), up_ne (by omega), up_ne (by omega), up_ne (by omega)]
  · rw [w, up_s, if_neg (by decide), up_s, if_neg (by decide), up_s, if_neg (by decide), up_s, if_neg (by decide), up_s, if_pos rfl]
  · rw [w, up_s, if_neg (by decide), up_s, if_neg (by decide), up_s, if_neg (by decide), up_s, if_pos rfl]
  · rw [w, up_s, if_neg (by decide), up_s, if_neg (by decide), up_s, if_pos rfl]
  · rw [w, up_s, if_neg (by decide), up_s, if_pos rfl, gz_hi (by omega)]
  · rw [w, up_s, if_pos rfl, gz_hi (by omega)]
  · exact (h1 p a (by omega)).same (fun x => by rw [f4 _ _ _ _ (by omega), f3 _ _ _ _ (by omega), f2 _ _ _ _ (by omega)]) (fun x => by rw [f4 _ _ _ _ (by omega), f3 _ _ _ _ (by omega), f2 _ _ _ _ (by omega)]) (fun _ _ _ => rfl)
  · exact (h2 r a b).same (fun x => by rw [f4 _ _ _ _ (by omega), f3 _ _ _ _ (by omega)]) (fun x => by rw [f4 _ _ _ _ (by omega), f3 _ _ _ _ (by omega)]) (fun x => by rw [f4 _ _ _ _ (by omega), f3 _ _ _ _ (by omega)]) (fun _ _ _ => rfl)
  · refine (h3 c a (by omega)).same ?_ (fun x => f4 _ _ _ _ (by omega)) (fun x => f4 _ _ _ _ (by omega)) (fun x => f4 _ _ _ _ (by omega)) (fun _ _ _ => rfl)
    rw [gz_co a (by omega) (by omega) (by omega), if_neg (by omega)]
    omega
  · unfold RLg
    rw [gz_hi (by omega), e0, e1]
    exact ⟨rfl, by omega, by omega, by omega, by omega, fun i a b => absurd b (by omega)⟩
  · rw [gz_co hc.1 (by have := hc.2; omega) (by omega) (by omega), if_neg (by omega)]
    omega
end TXB
