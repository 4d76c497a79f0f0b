/-! the twenty acts of the face, on both -/
def PRf (mx mz : Nat) (as : List AV) : Prop := ∀ (σ : ST) (n : Int), INV σ n → n + 20 ≤ 100000 → ∀ F : Int → Int → ST → Prop, (∀ r s, INV s (n + 20) → F r r s) → wpM mx (xx :: as) σ (asI fun r s => wpM mz (zz :: as) s (asI fun r' s' => F r r' s'))
theorem IVg.mono {σ : ST} {P : MP} {g : Int → Int} {n m : Int} (h : IVg σ P g n) (h1 : n ≤ m) (h2 : m ≤ 100000) : IVg σ P g m := ⟨h.z, h.x, h.w.mono h1 h2, h.m, h.r, h.t, h.s, h.u.keep h1 h2 rfl rfl rfl (fun _ => rfl) (fun _ _ _ _ _ _ _ _ => rfl), h.i.keep h1 h2 rfl rfl (fun _ => rfl) (fun _ _ _ _ _ => rfl)⟩
theorem INV.mono {σ : ST} {n m : Int} (h : INV σ n) (h1 : n ≤ m) (h2 : m ≤ 100000) : INV σ m := by
  obtain ⟨P, g, h⟩ := h
  exact ⟨P, g, h.mono h1 h2⟩
theorem PR_pu {mx mz : Nat} {as : List AV} (v : (σ : ST) → MP → (Int → Int) → Int) (hx : ∀ σ P g n, IVg σ P g n → PU mx (xx :: as) σ (v σ P g)) (hz : ∀ σ P g n, IVg σ P g n → PU mz (zz :: as) σ (v σ P g)) : PRf mx mz as := by
  intro σ n hI hn F K
  obtain ⟨P, g, h⟩ := hI
  exact (hx σ P g n h).I ((hz σ P g n h).I (K _ _ ⟨P, g, h.mono (by omega) (by omega)⟩))
theorem PR_create (a : Int) : PRf m_X_create m_Z_create [.inl a] := by
  intro σ n hI hn F K
  obtain ⟨P, g, h⟩ := hI
  refine T_X_create _ _ _ _ _ ?_
  refine wpM_mono ?_ (PR_act (F := F) h (by omega) (t := 0) (a' := a) (by omega) (by omega) (fun q => rfl) (fun q => absurd q (by decide)) (fun r s hs => K r s (hs.mono (by omega) (by omega))))
  intro r s hr
  match r, hr with
  | some (.inl x), hr => exact T_Z_create _ _ _ _ _ hr
theorem PR_slots : PRf m_X_slots m_Z_slots [] := by
  intro σ n hI hn F K
  obtain ⟨P, g, h⟩ := hI
  refine T_X_slots _ _ _ _ ?_
  refine wpM_mono ?_ (PR_act (F := F) h (by omega) (t := 1) (a' := 0) (by omega) (by omega) (fun q => absurd rfl q) (fun q => rfl) (fun r s hs => K r s (hs.mono (by omega) (by omega))))
  intro r s hr
  match r, hr with
  | some (.inl x), hr => exact T_Z_slots _ _ _ _ hr
theorem PR_add (a b c d e : Int) : PRf m_X_add m_Z_add [.inl a, .inl b, .inl c, .inl d, .inl e] := by
  intro σ n hI hn F K
  obtain ⟨P, g, h⟩ := hI
  refine T_X_add _ _ _ _ _ _ _ _ _ ?_
  refine wpM_mono ?_ (PR_act (F := F) h (by omega) (t := 2) (a' := a) (by omega) (by omega) (fun q => rfl) (fun q => absurd q (by decide)) (fun r s hs => K r s (hs.mono (by omega) (by omega))))
  intro r s hr
  match r, hr with
  | some (.inl x), hr => exact T_Z_add _ _ _ _ _ _ _ _ _ hr
theorem PR_extend (a b : Int) : PRf m_X_extend m_Z_extend [.inl a, .inl b] := by
  intro σ n hI hn F K
  obtain ⟨P, g, h⟩ := hI
  refine T_X_extend _ _ _ _ _ _ ?_
  refine wpM_mono ?_ (PR_act (F := F) h (by omega) (t := 3) (a' := a) (by omega) (by omega) (fun q => rfl) (fun q => absurd q (by decide)) (fun r s hs => K r s (hs.mono (by omega) (by omega))))
  intro r s hr
  match r, hr with
  | some (.inl x), hr => exact T_Z_extend _ _ _ _ _ _ hr
theorem PR_seal (a b : Int) : PRf m_X_seal m_Z_seal [.inl a, .inl b] := by
  intro σ n hI hn F K
  obtain ⟨P, g, h⟩ := hI
  refine T_X_seal _ _ _ _ _ _ ?_
  refine wpM_mono ?_ (PR_act (F := F) h (by omega) (t := 4) (a' := a) (by omega) (by omega) (fun q => rfl) (fun q => absurd q (by decide)) (fun r s hs => K r s (hs.mono (by omega) (by omega))))
  intro r s hr
  match r, hr with
  | some (.inl x), hr => exact T_Z_seal _ _ _ _ _ _ hr
theorem PR_enter (a b c : Int) : PRf m_X_enter m_Z_enter [.inl a, .inl b, .inl c] := by
  intro σ n hI hn F K
  obtain ⟨P, g, h⟩ := hI
  refine T_X_enter _ _ _ _ _ _ _ ?_
  refine wpM_mono ?_ (PR_act (F := F) h (by omega) (t := 5) (a' := a) (by omega) (by omega) (fun q => rfl) (fun q => absurd q (by decide)) (fun r s hs => K r s (hs.mono (by omega) (by omega))))
  intro r s hr
  match r, hr with
  | some (.inl x), hr => exact T_Z_enter _ _ _ _ _ _ _ hr
theorem PR_leave (a : Int) : PRf m_X_leave m_Z_leave [.inl a] := by
  intro σ n hI hn F K
  obtain ⟨P, g, h⟩ := hI
  refine T_X_leave _ _ _ _ _ ?_
  refine wpM_mono ?_ (PR_act (F := F) h (by omega) (t := 6) (a' := a) (by omega) (by omega) (fun q => rfl) (fun q => absurd q (by decide)) (fun r s hs => K r s (hs.mono (by omega) (by omega))))
  intro r s hr
  match r, hr with
  | some (.inl x), hr => exact T_Z_leave _ _ _ _ _ hr
theorem PR_trap (a : Int) : PRf m_X_trap m_Z_trap [.inl a] := by
  intro σ n hI hn F K
  obtain ⟨P, g, h⟩ := hI
  refine T_X_trap _ _ _ _ _ ?_
  refine wpM_mono ?_ (PR_act (F := F) h (by omega) (t := 7) (a' := a) (by omega) (by omega) (fun q => rfl) (fun q => absurd q (by decide)) (fun r s hs => K r s (hs.mono (by omega) (by omega))))
  intro r s hr
  match r, hr with
  | some (.inl x), hr => exact T_Z_trap _ _ _ _ _ hr
theorem PR_resume (a b c : Int) : PRf m_X_resume m_Z_resume [.inl a, .inl b, .inl c] := by
  intro σ n hI hn F K
  obtain ⟨P, g, h⟩ := hI
  refine T_X_resume _ _ _ _ _ _ _ ?_
  refine wpM_mono ?_ (PR_act (F := F) h (by omega) (t := 8) (a' := a) (by omega) (by omega) (fun q => rfl) (fun q => absurd q (by decide)) (fun r s hs => K r s (hs.mono (by omega) (by omega))))
  intro r s hr
  match r, hr with
  | some (.inl x), hr => exact T_Z_resume _ _ _ _ _ _ _ hr
theorem PR_touch (a b c : Int) : PRf m_X_touch m_Z_touch [.inl a, .inl b, .inl c] := by
  intro σ n hI hn F K
  obtain ⟨P, g, h⟩ := hI
  refine T_X_touch _ _ _ _ _ _ _ ?_
  refine wpM_mono ?_ (PR_act (F := F) h (by omega) (t := 9) (a' := a) (by omega) (by omega) (fun q => rfl) (fun q => absurd q (by decide)) (fun r s hs => K r s (hs.mono (by omega) (by omega))))
  intro r s hr
  match r, hr with
  | some (.inl x), hr => exact T_Z_touch _ _ _ _ _ _ _ hr
theorem PR_block (a : Int) : PRf m_X_block m_Z_block [.inl a] := by
  intro σ n hI hn F K
  obtain ⟨P, g, h⟩ := hI
  refine T_X_block _ _ _ _ _ ?_
  refine wpM_mono ?_ (PR_act (F := F) h (by omega) (t := 10) (a' := a) (by omega) (by omega) (fun q => rfl) (fun q => absurd q (by decide)) (fun r s hs => K r s (hs.mono (by omega) (by omega))))
  intro r s hr
  match r, hr with
  | some (.inl x), hr => exact T_Z_block _ _ _ _ _ hr
theorem PR_track (a : Int) : PRf m_X_track m_Z_track [.inl a] := by
  intro σ n hI hn F K
  obtain ⟨P, g, h⟩ := hI
  refine T_X_track _ _ _ _ _ ?_
  refine wpM_mono ?_ (PR_act (F := F) h (by omega) (t := 11) (a' := a) (by omega) (by omega) (fun q => rfl) (fun q => absurd q (by decide)) (fun r s hs => K r s (hs.mono (by omega) (by omega))))
  intro r s hr
  match r, hr with
  | some (.inl x), hr => exact T_Z_track _ _ _ _ _ hr
theorem PR_evict (a b c : Int) : PRf m_X_evict m_Z_evict [.inl a, .inl b, .inl c] := by
  intro σ n hI hn F K
  obtain ⟨P, g, h⟩ := hI
  refine T_X_evict _ _ _ _ _ _ _ ?_
  refine wpM_mono ?_ (PR_act (F := F) h (by omega) (t := 12) (a' := a) (by omega) (by omega) (fun q => rfl) (fun q => absurd q (by decide)) (fun r s hs => K r s (hs.mono (by omega) (by omega))))
  intro r s hr
  match r, hr with
  | some (.inl x), hr => exact T_Z_evict _ _ _ _ _ _ _ hr
theorem PR_load (a b c : Int) : PRf m_X_load m_Z_load [.inl a, .inl b, .inl c] := by
  intro σ n hI hn F K
  obtain ⟨P, g, h⟩ := hI
  refine T_X_load _ _ _ _ _ _ _ ?_
  refine wpM_mono ?_ (PR_act (F := F) h (by omega) (t := 13) (a' := a) (by omega) (by omega) (fun q => rfl) (fun q => absurd q (by decide)) (fun r s hs => K r s (hs.mono (by omega) (by omega))))
  intro r s hr
  match r, hr with
  | some (.inl x), hr => exact T_Z_load _ _ _ _ _ _ _ hr
theorem PR_remove (a : Int) : PRf m_X_remove m_Z_remove [.inl a] := by
  intro σ n hI hn F K
  obtain ⟨P, g, h⟩ := hI
  refine T_X_remove _ _ _ _ _ ?_
  refine wpM_mono ?_ (PR_act (F := F) h (by omega) (t := 14) (a' := a) (by omega) (by omega) (fun q => rfl) (fun q => absurd q (by decide)) (fun r s hs => K r s (hs.mono (by omega) (by omega))))
  intro r s hr
  match r, hr with
  | some (.inl x), hr => exact T_Z_remove _ _ _ _ _ hr
theorem PR_map (a b c : Int) : PRf m_X_map m_Z_map [.inl a, .inl b, .inl c] := by
  intro σ n hI hn F K
  obtain ⟨P, g, h⟩ := hI
  refine T_X_map _ _ _ _ _ _ _ ?_
  refine wpM_mono ?_ (PR_act (F := F) h (by omega) (t := 15) (a' := a) (by omega) (by omega) (fun q => rfl) (fun q => absurd q (by decide)) (fun r s hs => K r s (hs.mono (by omega) (by omega))))
  intro r s hr
  match r, hr with
  | some (.inl x), hr => exact T_Z_map _ _ _ _ _ _ _ hr
theorem PR_twice (a : Int) : PRf m_X_twice m_Z_twice [.inl a] := by
  intro σ n hI hn F K
  obtain ⟨P, g, h⟩ := hI
  refine T_X_twice _ _ _ _ _ ?_
  refine wpM_mono ?_ (PR_act (F := F) h (by omega) (t := 16) (a' := a) (by omega) (by omega) (fun q => rfl) (fun q => absurd q (by decide)) (fun r s hs => K r s (hs.mono (by omega) (by omega))))
  intro r s hr
  match r, hr with
  | some (.inl x), hr => exact T_Z_twice _ _ _ _ _ hr
theorem PR_change (a b : Int) : PRf m_X_change m_Z_change [.inl a, .inl b] := by
  intro σ n hI hn F K
  obtain ⟨P, g, h⟩ := hI
  refine T_X_change _ _ _ _ _ _ ?_
  refine wpM_mono ?_ (PR_act (F := F) h (by omega) (t := 17) (a' := a) (by omega) (by omega) (fun q => rfl) (fun q => absurd q (by decide)) (fun r s hs => K r s (hs.mono (by omega) (by omega))))
  intro r s hr
  match r, hr with
  | some (.inl x), hr => exact T_Z_change _ _ _ _ _ _ hr
theorem PR_drop (a : Int) : PRf m_X_drop m_Z_drop [.inl a] := by
  intro σ n hI hn F K
  obtain ⟨P, g, h⟩ := hI
  refine T_X_drop _ _ _ _ _ ?_
  refine wpM_mono ?_ (PR_act (F := F) h (by omega) (t := 18) (a' := a) (by omega) (by omega) (fun q => rfl) (fun q => absurd q (by decide)) (fun r s hs => K r s (hs.mono (by omega) (by omega))))
  intro r s hr
  match r, hr with
  | some (.inl x), hr => exact T_Z_drop _ _ _ _ _ hr
theorem PR_tell (a b : Int) : PRf m_X_tell m_Z_tell [.inl a, .inl b] := by
  intro σ n hI hn F K
  obtain ⟨P, g, h⟩ := hI
  refine T_X_tell _ _ _ _ _ _ ?_
  refine wpM_mono ?_ (PR_act (F := F) h (by omega) (t := 19) (a' := a) (by omega) (by omega) (fun q => rfl) (fun q => absurd q (by decide)) (fun r s hs => K r s (hs.mono (by omega) (by omega))))
  intro r s hr
  match r, hr with
  | some (.inl x), hr => exact T_Z_tell _ _ _ _ _ _ hr
