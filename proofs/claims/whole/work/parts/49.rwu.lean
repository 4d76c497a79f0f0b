/-! which cells of the row were written; reads behind writes; a world after writes -/
theorem pg_s {g : Int → Int} {k v p : Int} : pg (sp g p k v) p k = v := by
  unfold pg sp put
  exact if_pos rfl
theorem rm_sc {g : Int → Int} {q k v p j : Int} (h : 0 ≤ p ∧ p < 4 ∧ 0 ≤ j ∧ j < 23 ∧ 0 ≤ q ∧ q < 3 ∧ 0 ≤ k ∧ k < 11) : rm (sc g q k v) p j = rm g p j := by
  unfold rm sc put
  exact if_neg (by omega)
theorem rm_s {g : Int → Int} {k v p : Int} : rm (sr g p k v) p k = v := by
  unfold rm sr put
  exact if_pos rfl
theorem co_sp {g : Int → Int} {q k v p j : Int} (h : 0 ≤ p ∧ p < 3 ∧ 0 ≤ j ∧ j < 11 ∧ 0 ≤ q ∧ q < 10 ∧ 0 ≤ k ∧ k < 11) : co (sp g q k v) p j = co g p j := by
  unfold co sp put
  exact if_neg (by omega)
theorem co_sr {g : Int → Int} {q k v p j : Int} (h : 0 ≤ p ∧ p < 3 ∧ 0 ≤ j ∧ j < 11 ∧ 0 ≤ q ∧ q < 4 ∧ 0 ≤ k ∧ k < 23) : co (sr g q k v) p j = co g p j := by
  unfold co sr put
  exact if_neg (by omega)
theorem co_sc {g : Int → Int} {q k v p j : Int} (h : 0 ≤ k ∧ k < 11 ∧ 0 ≤ j ∧ j < 11 ∧ (p ≠ q ∨ j ≠ k)) : co (sc g q k v) p j = co g p j := by
  unfold co sc put
  exact if_neg (by omega)
theorem co_sy {g : Int → Int} {q k v p j : Int} (h : 0 ≤ p ∧ p < 3 ∧ 0 ≤ j ∧ j < 11 ∧ 0 ≤ q ∧ q < 12 ∧ 0 ≤ k ∧ k < 9) : co (sy g q k v) p j = co g p j := by
  unfold co sy put
  exact if_neg (by omega)
theorem co_v {g : Int → Int} {w v p j : Int} (h : 0 ≤ p ∧ p < 3 ∧ 0 ≤ j ∧ j < 11 ∧ 343 ≤ w) : co (put g w v) p j = co g p j := by
  unfold co put
  exact if_neg (by omega)
theorem co_s {g : Int → Int} {k v p : Int} : co (sc g p k v) p k = v := by
  unfold co sc put
  exact if_pos rfl
theorem cp_sc {g : Int → Int} {q k v p j : Int} (h : 0 ≤ p ∧ p < 12 ∧ 0 ≤ j ∧ j < 9 ∧ 0 ≤ q ∧ q < 3 ∧ 0 ≤ k ∧ k < 11) : cp (sc g q k v) p j = cp g p j := by
  unfold cp sc put
  exact if_neg (by omega)
theorem cp_sy {g : Int → Int} {q k v p j : Int} (h : 0 ≤ k ∧ k < 9 ∧ 0 ≤ j ∧ j < 9 ∧ (p ≠ q ∨ j ≠ k)) : cp (sy g q k v) p j = cp g p j := by
  unfold cp sy put
  exact if_neg (by omega)
theorem cp_v {g : Int → Int} {w v p j : Int} (h : 0 ≤ p ∧ p < 12 ∧ 0 ≤ j ∧ j < 9 ∧ 343 ≤ w) : cp (put g w v) p j = cp g p j := by
  unfold cp put
  exact if_neg (by omega)
theorem cp_s {g : Int → Int} {k v p : Int} : cp (sy g p k v) p k = v := by
  unfold cp sy put
  exact if_pos rfl
theorem at_sp {g : Int → Int} {q k v w : Int} (h : q < 10 ∧ k < 11 ∧ 343 ≤ w) : sp g q k v w = g w := by
  unfold sp put
  exact if_neg (by omega)
theorem at_sr {g : Int → Int} {q k v w : Int} (h : q < 4 ∧ k < 23 ∧ 343 ≤ w) : sr g q k v w = g w := by
  unfold sr put
  exact if_neg (by omega)
theorem at_sc {g : Int → Int} {q k v w : Int} (h : q < 3 ∧ k < 11 ∧ 343 ≤ w) : sc g q k v w = g w := by
  unfold sc put
  exact if_neg (by omega)
theorem at_put_o {g : Int → Int} {v w u : Int} (h : u ≠ w) : put g w v u = g u := if_neg h
theorem co_clear {g : Int → Int} {p r j : Int} (h : 0 ≤ r ∧ r < 3 ∧ 0 ≤ j ∧ j < 11 ∧ 0 ≤ p ∧ p < 10) : co (clearG g p) r j = co g r j :=
  clr_o (fun f => co f r j = co g r j) (fun f k v h0 h1 hf => by rw [co_sp (by omega)]; exact hf) 11 0 g (by omega) (by omega) rfl
theorem at_clear {g : Int → Int} {p w : Int} (h : p < 10 ∧ 343 ≤ w) : clearG g p w = g w :=
  clr_o (fun f => f w = g w) (fun f k v h0 h1 hf => by rw [at_sp (by omega)]; exact hf) 11 0 g (by omega) (by omega) rfl
theorem clr_at {p j : Int} : ∀ (n : Nat) (i : Int) (g : Int → Int), i + n = 11 → 0 ≤ i → i ≤ j → j < 11 → pg (clrF p n i g) p j = if j = 1 ∨ j = 2 ∨ j = 5 then -1 else 0
  | 0, i, g, e, hi, h1, h2 => by omega
  | n + 1, i, g, e, hi, h1, h2 => by
    rcases (show j = i ∨ i + 1 ≤ j by omega) with z | z
    · subst z
      exact clr_o2 n (j + 1) (sp g p j (if j = 1 ∨ j = 2 ∨ j = 5 then -1 else 0)) (by omega) (by omega) (by omega) pg_s
    · exact clr_at n (i + 1) _ (by omega) (by omega) z h2
where
  clr_o2 {w : Int} (n : Nat) (i : Int) (g : Int → Int) (e : i + n = 11) (hi : 0 ≤ i) (hj : 0 ≤ j ∧ j < i) (h : pg g p j = w) : pg (clrF p n i g) p j = w := by
    induction n generalizing i g with
    | zero => exact h
    | succ n ih => exact ih (i + 1) _ (by omega) (by omega) (by omega) (by rw [pg_sp (by omega)]; exact h)
theorem pg_clear_s {g : Int → Int} {p j : Int} (h : 0 ≤ j ∧ j < 11) : pg (clearG g p) p j = if j = 1 ∨ j = 2 ∨ j = 5 then -1 else 0 := clr_at 11 0 g (by omega) (by omega) h.1 h.2
theorem pg_clear_0 {g : Int → Int} {p : Int} : pg (clearG g p) p 0 = 0 := pg_clear_s (by omega)
theorem pg_clear_1 {g : Int → Int} {p : Int} : pg (clearG g p) p 1 = -1 := pg_clear_s (by omega)
theorem pg_clear_2 {g : Int → Int} {p : Int} : pg (clearG g p) p 2 = -1 := pg_clear_s (by omega)
theorem pg_clear_3 {g : Int → Int} {p : Int} : pg (clearG g p) p 3 = 0 := pg_clear_s (by omega)
theorem pg_clear_4 {g : Int → Int} {p : Int} : pg (clearG g p) p 4 = 0 := pg_clear_s (by omega)
theorem pg_clear_5 {g : Int → Int} {p : Int} : pg (clearG g p) p 5 = -1 := pg_clear_s (by omega)
theorem pg_clear_6 {g : Int → Int} {p : Int} : pg (clearG g p) p 6 = 0 := pg_clear_s (by omega)
theorem pg_clear_7 {g : Int → Int} {p : Int} : pg (clearG g p) p 7 = 0 := pg_clear_s (by omega)
theorem pg_clear_8 {g : Int → Int} {p : Int} : pg (clearG g p) p 8 = 0 := pg_clear_s (by omega)
theorem pg_clear_9 {g : Int → Int} {p : Int} : pg (clearG g p) p 9 = 0 := pg_clear_s (by omega)
theorem pg_clear_10 {g : Int → Int} {p : Int} : pg (clearG g p) p 10 = 0 := pg_clear_s (by omega)
theorem pg_clear_sl {g : Int → Int} {p s : Int} (h : 0 ≤ s ∧ s < 4) : pg (clearG g p) p (7 + s) = 0 := (pg_clear_s (by omega)).trans (if_neg (by omega))
theorem co_shF {c q : Int} : ∀ (n : Nat) (i : Int) (g : Int → Int), i + n ≤ 6 → 2 ≤ i → ∀ j, 0 ≤ j → j < 11 → (q ≠ c ∨ j < 5) → 0 ≤ q → q < 3 → 0 ≤ c → c < 3 → co (shF c n i g) q j = co g q j
  | 0, _, _, _, _, _, _, _, _, _, _, _, _ => rfl
  | n + 1, i, g, h1, h2, j, a, b, h, e1, e2, e3, e4 => by
    show co (shF c n (i + 1) _) q j = _
    rw [co_shF n (i + 1) _ (by omega) (by omega) j a b h e1 e2 e3 e4, co_sc (by omega)]
abbrev NO : Int := 1000
abbrev RG (p p2 r c y s : Int) : Prop := (11 * p ≤ s ∧ s < 11 * p + 11) ∨ (11 * p2 ≤ s ∧ s < 11 * p2 + 11) ∨ (110 + 23 * r ≤ s ∧ s < 110 + 23 * r + 23) ∨ (202 + 11 * c ≤ s ∧ s < 202 + 11 * c + 11) ∨ (235 + 9 * y ≤ s ∧ s < 235 + 9 * y + 9) ∨ s = 343 ∨ s = 344
def EF (g g' : Int → Int) (p p2 r c y : Int) : Prop := ∀ s, ¬ RG p p2 r c y s → g' s = g s
def OKR (p p2 r c y : Int) : Prop := ((0 ≤ p ∧ p < 10) ∨ p = 1000) ∧ ((0 ≤ p2 ∧ p2 < 10) ∨ p2 = 1000) ∧ ((0 ≤ r ∧ r < 4) ∨ r = 1000) ∧ ((0 ≤ c ∧ c < 3) ∨ c = 1000) ∧ ((0 ≤ y ∧ y < 12) ∨ y = 1000)
section EFS
variable {g g' f : Int → Int} {p p2 r c y : Int}
theorem EF.rf (g : Int → Int) (p p2 r c y : Int) : EF g g p p2 r c y := fun _ _ => rfl
theorem EF.put {i v : Int} (h : EF g f p p2 r c y) (hr : RG p p2 r c y i) : EF g (put f i v) p p2 r c y := by
  intro s hs
  show (if s = i then v else f s) = g s
  rw [if_neg (show ¬ s = i from fun e => hs (by rw [e]; exact hr))]
  exact h s hs
theorem EF.sp {q k v : Int} (h : EF g f p p2 r c y) (hq : (q = p ∨ q = p2) ∧ 0 ≤ k ∧ k < 11) : EF g (sp f q k v) p p2 r c y := h.put (by rcases hq.1 with e | e <;> subst e <;> omega)
theorem EF.sr {k v : Int} (h : EF g f p p2 r c y) (hq : 0 ≤ k ∧ k < 23) : EF g (sr f r k v) p p2 r c y := h.put (by omega)
theorem EF.sc {k v : Int} (h : EF g f p p2 r c y) (hq : 0 ≤ k ∧ k < 11) : EF g (sc f c k v) p p2 r c y := h.put (by omega)
theorem EF.sy {k v : Int} (h : EF g f p p2 r c y) (hq : 0 ≤ k ∧ k < 9) : EF g (sy f y k v) p p2 r c y := h.put (by omega)
theorem EF.cl {q : Int} (h : EF g f p p2 r c y) (hq : q = p ∨ q = p2) : EF g (clearG f q) p p2 r c y :=
  clr_o (fun f' => EF g f' p p2 r c y) (fun f k v h0 h1 hf => hf.sp ⟨hq, h0, h1⟩) 11 0 f (by omega) (by omega) h
theorem EF.pg (h : EF g g' p p2 r c y) (ok : OKR p p2 r c y) {q j : Int} (h0 : 0 ≤ q) (h1 : q < 10) (h2 : 0 ≤ j) (h3 : j < 11) (h4 : q ≠ p) (h5 : q ≠ p2) : pg g' q j = pg g q j := by
  obtain ⟨o1, o2, o3, o4, o5⟩ := ok
  refine h _ (fun hR => ?_)
  rcases hR with z | z | z | z | z | z | z <;> omega
theorem EF.rm (h : EF g g' p p2 r c y) (ok : OKR p p2 r c y) {q j : Int} (h0 : 0 ≤ q) (h1 : q < 4) (h2 : 0 ≤ j) (h3 : j < 23) (h4 : q ≠ r) : rm g' q j = rm g q j := by
  obtain ⟨o1, o2, o3, o4, o5⟩ := ok
  refine h _ (fun hR => ?_)
  rcases hR with z | z | z | z | z | z | z <;> omega
theorem EF.co (h : EF g g' p p2 r c y) (ok : OKR p p2 r c y) {q j : Int} (h0 : 0 ≤ q) (h1 : q < 3) (h2 : 0 ≤ j) (h3 : j < 11) (h4 : q ≠ c) : co g' q j = co g q j := by
  obtain ⟨o1, o2, o3, o4, o5⟩ := ok
  refine h _ (fun hR => ?_)
  rcases hR with z | z | z | z | z | z | z <;> omega
theorem EF.cp (h : EF g g' p p2 r c y) (ok : OKR p p2 r c y) {q j : Int} (h0 : 0 ≤ q) (h1 : q < 12) (h2 : 0 ≤ j) (h3 : j < 9) (h4 : q ≠ y) : cp g' q j = cp g q j := by
  obtain ⟨o1, o2, o3, o4, o5⟩ := ok
  refine h _ (fun hR => ?_)
  rcases hR with z | z | z | z | z | z | z <;> omega
theorem EF.lg (h : EF g g' p p2 r c y) (ok : OKR p p2 r c y) {s : Int} (h0 : 345 ≤ s) (h1 : s < 526) : g' s = g s := by
  obtain ⟨o1, o2, o3, o4, o5⟩ := ok
  refine h _ (fun hR => ?_)
  rcases hR with z | z | z | z | z | z | z <;> omega
end EFS
abbrev SU (k p p2 r c y : Int) : Nat → Int → Int → Prop := fun t k' i => k' = k ∧ (((t = 14 ∨ t = 15) ∧ (i = p ∨ i = p2)) ∨ ((t = 17 ∨ t = 18 ∨ t = 19) ∧ i = r) ∨ ((t = 21 ∨ t = 22 ∨ t = 23) ∧ i = c) ∨ (t = 25 ∧ i = y) ∨ (t = 12 ∧ i = 0))
abbrev SWd (k : Int) : Nat → Int → Int → Prop := fun t k' _ => k' = k ∧ 12 ≤ t ∧ t ≤ 29
theorem Off_sub {S T : Nat → Int → Int → Prop} {σ0 σ : ST} (h : Off S σ0 σ) (hT : ∀ t k i, S t k i → T t k i) : Off T σ0 σ := fun t k i s hn => h t k i s (fun z => hn (hT t k i z))
theorem Off_cat {S : Nat → Int → Int → Prop} {σ0 σ1 σ2 : ST} (h : Off S σ0 σ1) (h2 : Off S σ1 σ2) : Off S σ0 σ2 := fun t k i s hn => (h2 t k i s hn).trans (h t k i s hn)
theorem SU_W (k p p2 r c y : Int) : ∀ t k' i, SU k p p2 r c y t k' i → SWd k t k' i := by
  intro t k' i h
  refine ⟨h.1, ?_⟩
  have h2 := h.2
  omega
section RWU
variable {σ σ' : ST} {k : Int} {P : MP} {g g' : Int → Int} {p p2 r c y : Int}
theorem RW_upd (ok : OKR p p2 r c y) (hw : RW σ k P g) (hn : ∀ c, isCo P c → co g c 4 ≤ 3) (ho : Off (SU k p p2 r c y) σ σ') (he : EF g g' p p2 r c y) (n0 : σ' 12 k 0 0 = σ 12 k 0 0) (n1 : σ' 12 k 0 1 = σ 12 k 0 1) (n2 : σ' 12 k 0 2 = σ 12 k 0 2) (n3 : σ' 12 k 0 3 = g' 343) (n4 : σ' 12 k 0 4 = g' 344)
    (hp : p < P.np → RPg σ' k p g') (hp2 : p2 < P.np → RPg σ' k p2 g') (hr : r < 4 → RRm σ' k r g') (hc : c < P.nc → RCo σ' k c g') (hy : y < 12 → RCp σ' k y g') : RW σ' k P g' := by
  have o : ∀ (t : Nat) (k' i s : Int), ¬ (k' = k ∧ (((t = 14 ∨ t = 15) ∧ (i = p ∨ i = p2)) ∨ ((t = 17 ∨ t = 18 ∨ t = 19) ∧ i = r) ∨ ((t = 21 ∨ t = 22 ∨ t = 23) ∧ i = c) ∨ (t = 25 ∧ i = y) ∨ (t = 12 ∧ i = 0))) → σ' t k' i s = σ t k' i s := ho
  have P1 := hw.ok.p1
  have C1 := hw.ok.c1
  unfold RW
  rw [n0, n1, n2]
  refine ⟨hw.ok, hw.np, hw.nc, hw.nh, n3, n4, fun q a b => ?_, fun q a b => ?_, fun q a b => ?_, fun q a b => ?_, ?_⟩
  · by_cases e : q = p
    · rw [e]; exact hp (by omega)
    · by_cases e2 : q = p2
      · rw [e2]; exact hp2 (by omega)
      · exact (hw.pg q a b).same (fun s => o 14 k q s (by omega)) (fun s => o 15 k q s (by omega)) (fun j x y => he.pg ok a (by omega) x y e e2)
  · by_cases e : q = r
    · rw [e]; exact hr (by omega)
    · exact (hw.rm q a b).same (fun s => o 17 k q s (by omega)) (fun s => o 18 k q s (by omega)) (fun s => o 19 k q s (by omega)) (fun j x y => he.rm ok a b x y e)
  · by_cases e : q = c
    · rw [e]; exact hc (by omega)
    · exact (hw.co q a b).same (hn q ⟨a, b⟩) (fun s => o 21 k q s (by omega)) (fun s => o 22 k q s (by omega)) (fun s => o 23 k q s (by omega)) (fun j x y => he.co ok a (by omega) x y e)
  · by_cases e : q = y
    · rw [e]; exact hy (by omega)
    · exact (hw.cp q a b).same (fun s => o 25 k q s (by omega)) (fun j x y => he.cp ok a b x y e)
  · have l := hw.lg
    have l0 := l.l0
    have l1 := l.l1
    unfold RLg
    rw [o 26 k 0 0 (by omega), o 26 k 0 1 (by omega), he.lg ok (s := 345) (by omega) (by omega)]
    refine ⟨l.len, l.l0, l.l1, l.n0, l.n1, fun i x y => ?_⟩
    rw [o 27 k 0 _ (by omega), o 28 k 0 _ (by omega), o 29 k 0 _ (by omega), he.lg ok (s := 346 + 3 * (g 345 - 1 - i)) (by omega) (by omega), he.lg ok (s := 347 + 3 * (g 345 - 1 - i)) (by omega) (by omega), he.lg ok (s := 348 + 3 * (g 345 - 1 - i)) (by omega) (by omega)]
    exact l.row i x y
end RWU
theorem bz_iff {x : Int} {c : Prop} [Decidable c] (h : bz x = b2 c) : bz x = 0 ↔ ¬ c := by
  rw [h, b2_e0]
abbrev aa (k : Int) : AV := .inr (.inr (11, k, 0))
def ACK (σ : ST) (k : Int) (P : MP) (w : Int) (g' : Int → Int) (a : Int) (F : Int → ST → Prop) : Prop := (w ≠ -1 → F (-1) (up σ 11 k 0 1 w)) ∧ (w = -1 → ∀ s, Off (SWd k) σ s → RW s k P g' → F a s)
theorem ACK.no {σ : ST} {k : Int} {P : MP} {w a x : Int} {g' : Int → Int} {F : Int → ST → Prop} (K : ACK σ k P w g' a F) (hx : w = x) (h : x ≠ -1) : wpM m_Acts_refuse [aa k, .inl x] σ (asI fun r s => F r s) := by
  refine T_Acts_refuse _ _ _ _ _ ?_
  rw [← hx]
  exact K.1 (by rw [hx]; exact h)
theorem ACK.yes {σ s : ST} {k : Int} {P : MP} {w a v : Int} {g' : Int → Int} {F : Int → ST → Prop} (K : ACK σ k P w g' a F) (hd : w = -1) (hv : v = a) (ho : Off (SWd k) σ s) (hr : RW s k P g') : F v s := by
  rw [hv]
  exact K.2 hd s ho hr
theorem bz1 {c : Prop} [Decidable c] (h : c) : bz 1 = b2 c := (if_neg (by decide)).trans (if_pos h).symm
theorem bz0 {c : Prop} [Decidable c] (h : ¬ c) : bz 0 = b2 c := (if_pos rfl).trans (if_neg h).symm
theorem ACK.up {σ s : ST} {k : Int} {P : MP} {w a v n : Int} {g g' : Int → Int} {F : Int → ST → Prop} {p p2 r c y : Int} (K : ACK σ k P w g' a F) (ok : OKR p p2 r c y) (hw : RW σ k P g) (hg : GW P g n) (hd : w = -1) (hv : v = a) (ho : Off (SU k p p2 r c y) σ s) (he : EF g g' p p2 r c y) (n5 : s 12 k 0 0 = σ 12 k 0 0 ∧ s 12 k 0 1 = σ 12 k 0 1 ∧ s 12 k 0 2 = σ 12 k 0 2 ∧ s 12 k 0 3 = g' 343 ∧ s 12 k 0 4 = g' 344)
    (hp : p < P.np → RPg s k p g') (hp2 : p2 < P.np → RPg s k p2 g') (hr : r < 4 → RRm s k r g') (hc : c < P.nc → RCo s k c g') (hy : y < 12 → RCp s k y g') : F v s :=
  K.yes hd hv (Off_sub ho (SU_W k p p2 r c y)) (RW_upd ok hw (fun c hc => by have := hg.c.cnt c hc; have := hw.ok.h1; omega) ho he n5.1 n5.2.1 n5.2.2.1 n5.2.2.2.1 n5.2.2.2.2 hp hp2 hr hc hy)
