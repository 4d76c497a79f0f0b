/-! the component's constructor: its first part run, its last loop by hand -/
def isRet : Instr → Bool
  | .return_ => true
  | _ => false
def crunK (ke : KX → Option CS) (stop : Nat) (cf : Nat → CS × Nat × Nat) : Nat → Nat → Nat → Nat → KX → Option CS
  | 0, _, _, _, _ => none
  | f + 1, n, mc, ms, (pc, L, st, S, kc, ks) => bif Nat.beq pc stop then ke (pc, L, st, S, kc, ks) else (match kfind n pc with
    | none => none
    | some e => bif isRet e.2.1 then none else cstep (fK S.2.length e.2.1 (crunK ke stop cf f n mc ms)) (fun _ _ _ => none) cf n mc ms e L st S kc ks)
theorem cstep_out {K : KX → Option CS} {B : AV → AV → CS → Option CS} {cf : Nat → CS × Nat × Nat} {n mc ms : Nat} {e : KE} {L : LV} {st : List AV} {S : CS} {kc ks : Nat} {y : CS} (hr : isRet e.2.1 = false) (h : cstep K B cf n mc ms e L st S kc ks = some y) : ∃ x, K x = some y := by
  obtain ⟨pc, ins, len, a, b, hh⟩ := e
  unfold cstep at h
  dsimp only at h
  split at h
  all_goals first
    | (cases hr; done)
    | (repeat' (first | exact ⟨_, h⟩ | (cases h; done) | split at h | (rw [Bool.cond_eq_ite] at h)))
theorem crunK_out {ke : KX → Option CS} {stop : Nat} {cf : Nat → CS × Nat × Nat} {n mc ms : Nat} {r : CS} (hke : ∀ x y, ke x = some y → y = r) : ∀ (f : Nat) (x : KX) (y : CS), crunK ke stop cf f n mc ms x = some y → y = r
  | 0, x, y, h => by cases h
  | f + 1, (pc, L, st, S, kc, ks), y, h => by
    replace h : (bif Nat.beq pc stop then ke (pc, L, st, S, kc, ks) else (match kfind n pc with
      | none => none
      | some e => bif isRet e.2.1 then none else cstep (fK S.2.length e.2.1 (crunK ke stop cf f n mc ms)) (fun _ _ _ => none) cf n mc ms e L st S kc ks)) = some y := h
    rcases hb : Nat.beq pc stop with _ | _ <;> rw [hb] at h
    · rw [cond_false] at h
      rcases hk : kfind n pc with _ | e
      · rw [hk] at h
        cases h
      · rw [hk] at h
        replace h : (bif isRet e.2.1 then none else cstep (fK S.2.length e.2.1 (crunK ke stop cf f n mc ms)) (fun _ _ _ => none) cf n mc ms e L st S kc ks) = some y := h
        rcases hi : isRet e.2.1 with _ | _ <;> rw [hi] at h
        · rw [cond_false] at h
          obtain ⟨x, hx⟩ := cstep_out hi h
          exact crunK_out hke f x y ((fK_eq _ _ _ x).symm.trans hx)
        · cases h
    · exact hke _ y h
theorem crunK_snd {D : va_G} {dA : Nat → ClassId} {l : Launch} {cf : Nat → CS × Nat × Nat} {ke : KX → Option CS} {stop n mc ms q0 z : Nat} {r : CS} (h0 : 0 < n) (hn : n < 13) (hcf : ∀ m' q0' z', 0 < m' → m' < 12 → kLv m' < kLv n → CM D dA l m' [rf 0] q0' z' (cf m').2.1 (cf m').2.2 (dfs (kO m'), []) (cf m').1)
    {p : Program} {e : Env} {s : State} {m : MethodId} {args : Array Value} {below : List Frame} {meth : Method} {c : Code} (hF : FK n p s m args meth c) (hS : VC D dA s) (hke : ∀ x, ke x = some r → WK D dA q0 z p l e s m args below meth c n mc ms x r) :
    ∀ (f : Nat) (x : KX), crunK ke stop cf f n mc ms x = some r → WK D dA q0 z p l e s m args below meth c n mc ms x r
  | 0, x, h => by cases h
  | f + 1, (pc, L, st, S, kc, ks), h => by
    replace h : (bif Nat.beq pc stop then ke (pc, L, st, S, kc, ks) else (match kfind n pc with
      | none => none
      | some e => bif isRet e.2.1 then none else cstep (fK S.2.length e.2.1 (crunK ke stop cf f n mc ms)) (fun _ _ _ => none) cf n mc ms e L st S kc ks)) = some r := h
    rcases hb : Nat.beq pc stop with _ | _ <;> rw [hb] at h
    · rw [cond_false] at h
      rcases hk : kfind n pc with _ | ⟨pc', ins, len, a, b, hh⟩
      · rw [hk] at h
        cases h
      · rw [hk] at h
        replace h : (bif isRet ins then none else cstep (fK S.2.length ins (crunK ke stop cf f n mc ms)) (fun _ _ _ => none) cf n mc ms (pc', ins, len, a, b, hh) L st S kc ks) = some r := h
        rcases hi : isRet ins with _ | _ <;> rw [hi] at h
        · rw [cond_false] at h
          obtain ⟨hok, hpc⟩ := okKe_at h0 hn hk
          have hpc : pc' = pc := hpc
          subst hpc
          exact k_all (K := fK S.2.length ins (crunK ke stop cf f n mc ms)) (fun x hx => crunK_snd h0 hn hcf hF hS hke f x ((fK_eq _ _ _ x).symm.trans hx)) hF hS hcf (fun x y S' hx hy hB => by cases hB) hok h
        · cases h
    · exact hke _ h
def T10 : List (Option AV) := [some (rf 1), some (rf 7), some (.inl 0), some (rf 8), some (.inl 0), some (rf 9), some (rf 10), some (rf 72), some (rf 135), some (.inl 0), some (rf 197), some (.inl 0), some (.inl 0), some (rf 198)]
def n10_0 : List CC := [(1, 6, [some (.inl 0), some (rf 2), some (.inl 0), some (rf 3), some (rf 4), some (rf 5)]), (100, 320, []), (100, 4, []), (101, 4, []), (2, 2, [some (.inl 0), some (rf 6)]), (100, 72, []), (100, 4, []), (110, 4, [some (rf 199), some (rf 201), some (rf 203), some (rf 205)]), (3, 2, [some (rf 10), some (.inl (-1))]), (4, 10, [some (.inl 0), some (.inl 0), some (.inl 0), some (.inl 0), some (.inl 0), some (rf 11), some (rf 12), some (rf 13), some (rf 14), some (rf 15)]), (115, 10, [some (rf 19), some (rf 21), some (rf 23), some (rf 25), some (rf 27), some (rf 29), some (rf 31), some (rf 33), some (rf 35), some (rf 37)]), (118, 4, [some (rf 39), some (rf 42), some (rf 45), some (rf 48)]), (122, 3, [some (rf 51), some (rf 54), some (rf 57)]), (126, 12, [some (rf 60), some (rf 61), some (rf 62), some (rf 63), some (rf 64), some (rf 65), some (rf 66), some (rf 67), some (rf 68), some (rf 69), some (rf 70), some (rf 71)]), (5, 5, [some (.inl 0), some (.inl 0), some (rf 16), some (rf 17), some (rf 18)]), (100, 60, []), (100, 60, []), (100, 60, []), (6, 9, [some (.inl 0), some (.inl (-1)), some (.inl (-1)), some (.inl 0), some (.inl 0), some (.inl 0), some (.inl 0), some (.inl 0), some (rf 20)]), (100, 4, []), (6, 9, [some (.inl 0), some (.inl (-1)), some (.inl (-1)), some (.inl 0), some (.inl 0), some (.inl 0), some (.inl 0), some (.inl 0), some (rf 22)]), (100, 4, []), (6, 9, [some (.inl 0), some (.inl (-1)), some (.inl (-1)), some (.inl 0), some (.inl 0), some (.inl 0), some (.inl 0), some (.inl 0), some (rf 24)]), (100, 4, []), (6, 9, [some (.inl 0), some (.inl (-1)), some (.inl (-1)), some (.inl 0), some (.inl 0), some (.inl 0), some (.inl 0), some (.inl 0), some (rf 26)]), (100, 4, []), (6, 9, [some (.inl 0), some (.inl (-1)), some (.inl (-1)), some (.inl 0), some (.inl 0), some (.inl 0), some (.inl 0), some (.inl 0), some (rf 28)]), (100, 4, []), (6, 9, [some (.inl 0), some (.inl (-1)), some (.inl (-1)), some (.inl 0), some (.inl 0), some (.inl 0), some (.inl 0), some (.inl 0), some (rf 30)]), (100, 4, []), (6, 9, [some (.inl 0), some (.inl (-1)), some (.inl (-1)), some (.inl 0), some (.inl 0), some (.inl 0), some (.inl 0), some (.inl 0), some (rf 32)]), (100, 4, []), (6, 9, [some (.inl 0), some (.inl (-1)), some (.inl (-1)), some (.inl 0), some (.inl 0), some (.inl 0), some (.inl 0), some (.inl 0), some (rf 34)]), (100, 4, []), (6, 9, [some (.inl 0), some (.inl (-1)), some (.inl (-1)), some (.inl 0), some (.inl 0), some (.inl 0), some (.inl 0), some (.inl 0), some (rf 36)]), (100, 4, []), (6, 9, [some (.inl 0), some (.inl (-1)), some (.inl (-1)), some (.inl 0), some (.inl 0), some (.inl 0), some (.inl 0), some (.inl 0), some (rf 38)]), (100, 4, []), (7, 9, [some (.inl 0), some (.inl 0), some (.inl 0), some (.inl 0), some (.inl 0), some (.inl 0), some (.inl 0), some (rf 40), some (rf 41)]), (100, 8, []), (100, 8, []), (7, 9, [some (.inl 0), some (.inl 0), some (.inl 0), some (.inl 0), some (.inl 0), some (.inl 0), some (.inl 0), some (rf 43), some (rf 44)]), (100, 8, []), (100, 8, []), (7, 9, [some (.inl 0), some (.inl 0), some (.inl 0), some (.inl 0), some (.inl 0), some (.inl 0), some (.inl 0), some (rf 46), some (rf 47)]), (100, 8, []), (100, 8, []), (7, 9, [some (.inl 0), some (.inl 0), some (.inl 0), some (.inl 0), some (.inl 0), some (.inl 0), some (.inl 0), some (rf 49), some (rf 50)]), (100, 8, []), (100, 8, []), (8, 7, [some (.inl 0), some (.inl (-1)), some (.inl (-1)), some (.inl (-1)), some (.inl 0), some (rf 52), some (rf 53)]), (100, 3, [])]
def n10_1 : List CC := [(100, 3, []), (8, 7, [some (.inl 0), some (.inl (-1)), some (.inl (-1)), some (.inl (-1)), some (.inl 0), some (rf 55), some (rf 56)]), (100, 3, []), (100, 3, []), (8, 7, [some (.inl 0), some (.inl (-1)), some (.inl (-1)), some (.inl (-1)), some (.inl 0), some (rf 58), some (rf 59)]), (100, 3, []), (100, 3, []), (9, 9, [some (.inl 0), some (.inl 0), some (.inl (-1)), some (.inl 0), some (.inl 0), some (.inl 0), some (.inl 0), some (.inl 0), some (.inl 0)]), (9, 9, [some (.inl 0), some (.inl 0), some (.inl (-1)), some (.inl 0), some (.inl 0), some (.inl 0), some (.inl 0), some (.inl 0), some (.inl 0)]), (9, 9, [some (.inl 0), some (.inl 0), some (.inl (-1)), some (.inl 0), some (.inl 0), some (.inl 0), some (.inl 0), some (.inl 0), some (.inl 0)]), (9, 9, [some (.inl 0), some (.inl 0), some (.inl (-1)), some (.inl 0), some (.inl 0), some (.inl 0), some (.inl 0), some (.inl 0), some (.inl 0)]), (9, 9, [some (.inl 0), some (.inl 0), some (.inl (-1)), some (.inl 0), some (.inl 0), some (.inl 0), some (.inl 0), some (.inl 0), some (.inl 0)]), (9, 9, [some (.inl 0), some (.inl 0), some (.inl (-1)), some (.inl 0), some (.inl 0), some (.inl 0), some (.inl 0), some (.inl 0), some (.inl 0)]), (9, 9, [some (.inl 0), some (.inl 0), some (.inl (-1)), some (.inl 0), some (.inl 0), some (.inl 0), some (.inl 0), some (.inl 0), some (.inl 0)]), (9, 9, [some (.inl 0), some (.inl 0), some (.inl (-1)), some (.inl 0), some (.inl 0), some (.inl 0), some (.inl 0), some (.inl 0), some (.inl 0)]), (9, 9, [some (.inl 0), some (.inl 0), some (.inl (-1)), some (.inl 0), some (.inl 0), some (.inl 0), some (.inl 0), some (.inl 0), some (.inl 0)]), (9, 9, [some (.inl 0), some (.inl 0), some (.inl (-1)), some (.inl 0), some (.inl 0), some (.inl 0), some (.inl 0), some (.inl 0), some (.inl 0)]), (9, 9, [some (.inl 0), some (.inl 0), some (.inl (-1)), some (.inl 0), some (.inl 0), some (.inl 0), some (.inl 0), some (.inl 0), some (.inl 0)]), (9, 9, [some (.inl 0), some (.inl 0), some (.inl (-1)), some (.inl 0), some (.inl 0), some (.inl 0), some (.inl 0), some (.inl 0), some (.inl 0)]), (3, 2, [some (rf 73), some (.inl (-1))]), (4, 10, [some (.inl 0), some (.inl 0), some (.inl 0), some (.inl 0), some (.inl 0), some (rf 74), some (rf 75), some (rf 76), some (rf 77), some (rf 78)]), (115, 10, [some (rf 82), some (rf 84), some (rf 86), some (rf 88), some (rf 90), some (rf 92), some (rf 94), some (rf 96), some (rf 98), some (rf 100)]), (118, 4, [some (rf 102), some (rf 105), some (rf 108), some (rf 111)]), (122, 3, [some (rf 114), some (rf 117), some (rf 120)]), (126, 12, [some (rf 123), some (rf 124), some (rf 125), some (rf 126), some (rf 127), some (rf 128), some (rf 129), some (rf 130), some (rf 131), some (rf 132), some (rf 133), some (rf 134)]), (5, 5, [some (.inl 0), some (.inl 0), some (rf 79), some (rf 80), some (rf 81)]), (100, 60, []), (100, 60, []), (100, 60, []), (6, 9, [some (.inl 0), some (.inl (-1)), some (.inl (-1)), some (.inl 0), some (.inl 0), some (.inl 0), some (.inl 0), some (.inl 0), some (rf 83)]), (100, 4, []), (6, 9, [some (.inl 0), some (.inl (-1)), some (.inl (-1)), some (.inl 0), some (.inl 0), some (.inl 0), some (.inl 0), some (.inl 0), some (rf 85)]), (100, 4, []), (6, 9, [some (.inl 0), some (.inl (-1)), some (.inl (-1)), some (.inl 0), some (.inl 0), some (.inl 0), some (.inl 0), some (.inl 0), some (rf 87)]), (100, 4, []), (6, 9, [some (.inl 0), some (.inl (-1)), some (.inl (-1)), some (.inl 0), some (.inl 0), some (.inl 0), some (.inl 0), some (.inl 0), some (rf 89)]), (100, 4, []), (6, 9, [some (.inl 0), some (.inl (-1)), some (.inl (-1)), some (.inl 0), some (.inl 0), some (.inl 0), some (.inl 0), some (.inl 0), some (rf 91)]), (100, 4, []), (6, 9, [some (.inl 0), some (.inl (-1)), some (.inl (-1)), some (.inl 0), some (.inl 0), some (.inl 0), some (.inl 0), some (.inl 0), some (rf 93)]), (100, 4, []), (6, 9, [some (.inl 0), some (.inl (-1)), some (.inl (-1)), some (.inl 0), some (.inl 0), some (.inl 0), some (.inl 0), some (.inl 0), some (rf 95)]), (100, 4, []), (6, 9, [some (.inl 0), some (.inl (-1)), some (.inl (-1)), some (.inl 0), some (.inl 0), some (.inl 0), some (.inl 0), some (.inl 0), some (rf 97)]), (100, 4, []), (6, 9, [some (.inl 0), some (.inl (-1)), some (.inl (-1)), some (.inl 0), some (.inl 0), some (.inl 0), some (.inl 0), some (.inl 0), some (rf 99)]), (100, 4, []), (6, 9, [some (.inl 0), some (.inl (-1)), some (.inl (-1)), some (.inl 0), some (.inl 0), some (.inl 0), some (.inl 0), some (.inl 0), some (rf 101)]), (100, 4, []), (7, 9, [some (.inl 0), some (.inl 0), some (.inl 0), some (.inl 0), some (.inl 0), some (.inl 0), some (.inl 0), some (rf 103), some (rf 104)]), (100, 8, []), (100, 8, [])]
def n10_2 : List CC := [(7, 9, [some (.inl 0), some (.inl 0), some (.inl 0), some (.inl 0), some (.inl 0), some (.inl 0), some (.inl 0), some (rf 106), some (rf 107)]), (100, 8, []), (100, 8, []), (7, 9, [some (.inl 0), some (.inl 0), some (.inl 0), some (.inl 0), some (.inl 0), some (.inl 0), some (.inl 0), some (rf 109), some (rf 110)]), (100, 8, []), (100, 8, []), (7, 9, [some (.inl 0), some (.inl 0), some (.inl 0), some (.inl 0), some (.inl 0), some (.inl 0), some (.inl 0), some (rf 112), some (rf 113)]), (100, 8, []), (100, 8, []), (8, 7, [some (.inl 0), some (.inl (-1)), some (.inl (-1)), some (.inl (-1)), some (.inl 0), some (rf 115), some (rf 116)]), (100, 3, []), (100, 3, []), (8, 7, [some (.inl 0), some (.inl (-1)), some (.inl (-1)), some (.inl (-1)), some (.inl 0), some (rf 118), some (rf 119)]), (100, 3, []), (100, 3, []), (8, 7, [some (.inl 0), some (.inl (-1)), some (.inl (-1)), some (.inl (-1)), some (.inl 0), some (rf 121), some (rf 122)]), (100, 3, []), (100, 3, []), (9, 9, [some (.inl 0), some (.inl 0), some (.inl (-1)), some (.inl 0), some (.inl 0), some (.inl 0), some (.inl 0), some (.inl 0), some (.inl 0)]), (9, 9, [some (.inl 0), some (.inl 0), some (.inl (-1)), some (.inl 0), some (.inl 0), some (.inl 0), some (.inl 0), some (.inl 0), some (.inl 0)]), (9, 9, [some (.inl 0), some (.inl 0), some (.inl (-1)), some (.inl 0), some (.inl 0), some (.inl 0), some (.inl 0), some (.inl 0), some (.inl 0)]), (9, 9, [some (.inl 0), some (.inl 0), some (.inl (-1)), some (.inl 0), some (.inl 0), some (.inl 0), some (.inl 0), some (.inl 0), some (.inl 0)]), (9, 9, [some (.inl 0), some (.inl 0), some (.inl (-1)), some (.inl 0), some (.inl 0), some (.inl 0), some (.inl 0), some (.inl 0), some (.inl 0)]), (9, 9, [some (.inl 0), some (.inl 0), some (.inl (-1)), some (.inl 0), some (.inl 0), some (.inl 0), some (.inl 0), some (.inl 0), some (.inl 0)]), (9, 9, [some (.inl 0), some (.inl 0), some (.inl (-1)), some (.inl 0), some (.inl 0), some (.inl 0), some (.inl 0), some (.inl 0), some (.inl 0)]), (9, 9, [some (.inl 0), some (.inl 0), some (.inl (-1)), some (.inl 0), some (.inl 0), some (.inl 0), some (.inl 0), some (.inl 0), some (.inl 0)]), (9, 9, [some (.inl 0), some (.inl 0), some (.inl (-1)), some (.inl 0), some (.inl 0), some (.inl 0), some (.inl 0), some (.inl 0), some (.inl 0)]), (9, 9, [some (.inl 0), some (.inl 0), some (.inl (-1)), some (.inl 0), some (.inl 0), some (.inl 0), some (.inl 0), some (.inl 0), some (.inl 0)]), (9, 9, [some (.inl 0), some (.inl 0), some (.inl (-1)), some (.inl 0), some (.inl 0), some (.inl 0), some (.inl 0), some (.inl 0), some (.inl 0)]), (9, 9, [some (.inl 0), some (.inl 0), some (.inl (-1)), some (.inl 0), some (.inl 0), some (.inl 0), some (.inl 0), some (.inl 0), some (.inl 0)]), (4, 10, [some (.inl 0), some (.inl 0), some (.inl 0), some (.inl 0), some (.inl 0), some (rf 136), some (rf 137), some (rf 138), some (rf 139), some (rf 140)]), (115, 10, [some (rf 144), some (rf 146), some (rf 148), some (rf 150), some (rf 152), some (rf 154), some (rf 156), some (rf 158), some (rf 160), some (rf 162)]), (118, 4, [some (rf 164), some (rf 167), some (rf 170), some (rf 173)]), (122, 3, [some (rf 176), some (rf 179), some (rf 182)]), (126, 12, [some (rf 185), some (rf 186), some (rf 187), some (rf 188), some (rf 189), some (rf 190), some (rf 191), some (rf 192), some (rf 193), some (rf 194), some (rf 195), some (rf 196)]), (5, 5, [some (.inl 0), some (.inl 0), some (rf 141), some (rf 142), some (rf 143)]), (100, 60, []), (100, 60, []), (100, 60, []), (6, 9, [some (.inl 0), some (.inl (-1)), some (.inl (-1)), some (.inl 0), some (.inl 0), some (.inl 0), some (.inl 0), some (.inl 0), some (rf 145)]), (100, 4, []), (6, 9, [some (.inl 0), some (.inl (-1)), some (.inl (-1)), some (.inl 0), some (.inl 0), some (.inl 0), some (.inl 0), some (.inl 0), some (rf 147)]), (100, 4, []), (6, 9, [some (.inl 0), some (.inl (-1)), some (.inl (-1)), some (.inl 0), some (.inl 0), some (.inl 0), some (.inl 0), some (.inl 0), some (rf 149)]), (100, 4, []), (6, 9, [some (.inl 0), some (.inl (-1)), some (.inl (-1)), some (.inl 0), some (.inl 0), some (.inl 0), some (.inl 0), some (.inl 0), some (rf 151)]), (100, 4, []), (6, 9, [some (.inl 0), some (.inl (-1)), some (.inl (-1)), some (.inl 0), some (.inl 0), some (.inl 0), some (.inl 0), some (.inl 0), some (rf 153)]), (100, 4, []), (6, 9, [some (.inl 0), some (.inl (-1)), some (.inl (-1)), some (.inl 0), some (.inl 0), some (.inl 0), some (.inl 0), some (.inl 0), some (rf 155)]), (100, 4, []), (6, 9, [some (.inl 0), some (.inl (-1)), some (.inl (-1)), some (.inl 0), some (.inl 0), some (.inl 0), some (.inl 0), some (.inl 0), some (rf 157)])]
def n10_3 : List CC := [(100, 4, []), (6, 9, [some (.inl 0), some (.inl (-1)), some (.inl (-1)), some (.inl 0), some (.inl 0), some (.inl 0), some (.inl 0), some (.inl 0), some (rf 159)]), (100, 4, []), (6, 9, [some (.inl 0), some (.inl (-1)), some (.inl (-1)), some (.inl 0), some (.inl 0), some (.inl 0), some (.inl 0), some (.inl 0), some (rf 161)]), (100, 4, []), (6, 9, [some (.inl 0), some (.inl (-1)), some (.inl (-1)), some (.inl 0), some (.inl 0), some (.inl 0), some (.inl 0), some (.inl 0), some (rf 163)]), (100, 4, []), (7, 9, [some (.inl 0), some (.inl 0), some (.inl 0), some (.inl 0), some (.inl 0), some (.inl 0), some (.inl 0), some (rf 165), some (rf 166)]), (100, 8, []), (100, 8, []), (7, 9, [some (.inl 0), some (.inl 0), some (.inl 0), some (.inl 0), some (.inl 0), some (.inl 0), some (.inl 0), some (rf 168), some (rf 169)]), (100, 8, []), (100, 8, []), (7, 9, [some (.inl 0), some (.inl 0), some (.inl 0), some (.inl 0), some (.inl 0), some (.inl 0), some (.inl 0), some (rf 171), some (rf 172)]), (100, 8, []), (100, 8, []), (7, 9, [some (.inl 0), some (.inl 0), some (.inl 0), some (.inl 0), some (.inl 0), some (.inl 0), some (.inl 0), some (rf 174), some (rf 175)]), (100, 8, []), (100, 8, []), (8, 7, [some (.inl 0), some (.inl (-1)), some (.inl (-1)), some (.inl (-1)), some (.inl 0), some (rf 177), some (rf 178)]), (100, 3, []), (100, 3, []), (8, 7, [some (.inl 0), some (.inl (-1)), some (.inl (-1)), some (.inl (-1)), some (.inl 0), some (rf 180), some (rf 181)]), (100, 3, []), (100, 3, []), (8, 7, [some (.inl 0), some (.inl (-1)), some (.inl (-1)), some (.inl (-1)), some (.inl 0), some (rf 183), some (rf 184)]), (100, 3, []), (100, 3, []), (9, 9, [some (.inl 0), some (.inl 0), some (.inl (-1)), some (.inl 0), some (.inl 0), some (.inl 0), some (.inl 0), some (.inl 0), some (.inl 0)]), (9, 9, [some (.inl 0), some (.inl 0), some (.inl (-1)), some (.inl 0), some (.inl 0), some (.inl 0), some (.inl 0), some (.inl 0), some (.inl 0)]), (9, 9, [some (.inl 0), some (.inl 0), some (.inl (-1)), some (.inl 0), some (.inl 0), some (.inl 0), some (.inl 0), some (.inl 0), some (.inl 0)]), (9, 9, [some (.inl 0), some (.inl 0), some (.inl (-1)), some (.inl 0), some (.inl 0), some (.inl 0), some (.inl 0), some (.inl 0), some (.inl 0)]), (9, 9, [some (.inl 0), some (.inl 0), some (.inl (-1)), some (.inl 0), some (.inl 0), some (.inl 0), some (.inl 0), some (.inl 0), some (.inl 0)]), (9, 9, [some (.inl 0), some (.inl 0), some (.inl (-1)), some (.inl 0), some (.inl 0), some (.inl 0), some (.inl 0), some (.inl 0), some (.inl 0)]), (9, 9, [some (.inl 0), some (.inl 0), some (.inl (-1)), some (.inl 0), some (.inl 0), some (.inl 0), some (.inl 0), some (.inl 0), some (.inl 0)]), (9, 9, [some (.inl 0), some (.inl 0), some (.inl (-1)), some (.inl 0), some (.inl 0), some (.inl 0), some (.inl 0), some (.inl 0), some (.inl 0)]), (9, 9, [some (.inl 0), some (.inl 0), some (.inl (-1)), some (.inl 0), some (.inl 0), some (.inl 0), some (.inl 0), some (.inl 0), some (.inl 0)]), (9, 9, [some (.inl 0), some (.inl 0), some (.inl (-1)), some (.inl 0), some (.inl 0), some (.inl 0), some (.inl 0), some (.inl 0), some (.inl 0)]), (9, 9, [some (.inl 0), some (.inl 0), some (.inl (-1)), some (.inl 0), some (.inl 0), some (.inl 0), some (.inl 0), some (.inl 0), some (.inl 0)]), (9, 9, [some (.inl 0), some (.inl 0), some (.inl (-1)), some (.inl 0), some (.inl 0), some (.inl 0), some (.inl 0), some (.inl 0), some (.inl 0)]), (111, 41, [none, none, none, none, none, none, none, none, none, none, none, none, none, none, none, none, none, none, none, none, none, none, none, none, none, none, none, none, none, none, none, none, none, none, none, none, none, none, none, none, none]), (100, 5, []), (2, 2, [some (.inl 0), some (rf 200)]), (100, 72, []), (2, 2, [some (.inl 0), some (rf 202)]), (100, 72, []), (2, 2, [some (.inl 0), some (rf 204)]), (100, 72, []), (2, 2, [some (.inl 0), some (rf 206)]), (100, 72, [])]
def N10 : List CC := n10_0 ++ (n10_1 ++ (n10_2 ++ (n10_3)))
def X143 : KX := (143, [some (rf 0), some (.inl 0)], [], (T10, N10), 206, 2565)
def T7 : List (Option AV) := (cfV 7).1.1
def N7 : List CC := (cfV 7).1.2
theorem cf7 : cfV 7 = ((T7, N7), 61, 591) := rfl
theorem N7_len : N7.length = 61 := by decide +kernel
/-- one past world more -/
def xwC (N : List CC) : List CC := (N ++ [(4, cNn 4, dfs 4)]).set N.length (4, cNn 4, shl N.length (N ++ [(4, cNn 4, dfs 4)]).length T7) ++ N7.map (fun c => (c.1, c.2.1, shl N.length (N ++ [(4, cNn 4, dfs 4)]).length c.2.2))
def xnx (N : List CC) (vs : List (Option AV)) (j : Nat) : List CC := (xwC N).set 196 (111, 41, vs.set j (some (rf (N.length + 1))))
theorem xwC_eq (N : List CC) : xwC N = N ++ ((4, cNn 4, shl N.length (N.length + 1) T7) :: N7.map (fun c => (c.1, c.2.1, shl N.length (N.length + 1) c.2.2))) := by
  unfold xwC
  rw [List.length_append]
  rw [List.set_append_right _ _ (Nat.le_refl _), Nat.sub_self, List.append_assoc]
  rfl
theorem crun_st {cf : Nat → CS × Nat × Nat} {f n mc ms pc kc ks : Nat} {L : LV} {st : List AV} {S : CS} {e : KE} (h : kfind n pc = some e) : crun cf (f + 1) n mc ms (pc, L, st, S, kc, ks) = cstep (crun cf f n mc ms) (fun x y S => crun cf f 12 0 0 (0, [some (rf 0), some x, some y, none], [], S, 0, 0)) cf n mc ms e L st S kc ks := by
  show (match kfind n pc with
        | none => none
        | some e => cstep (fK S.2.length e.2.1 (crun cf f n mc ms)) (fun x y S => crun cf f 12 0 0 (0, [some (rf 0), some x, some y, none], [], S, 0, 0)) cf n mc ms e L st S kc ks) = _
  rw [h]
  show cstep (fK S.2.length e.2.1 (crun cf f n mc ms)) _ cf n mc ms e L st S kc ks = _
  rw [show fK S.2.length e.2.1 (crun cf f n mc ms) = crun cf f n mc ms from funext fun x => fK_eq _ _ _ x]
theorem ble_t {a b : Nat} (h : a ≤ b) : Nat.ble a b = true := Nat.ble_eq.mpr h
theorem kq143 : kfind 10 143 = some (143, .iload_n 1, 1, 0, 0, 0) := rfl
theorem kq144 : kfind 10 144 = some (144, .bipush 41, 2, 0, 0, 0) := rfl
theorem kq146 : kfind 10 146 = some (146, .if_icmp .ge 22, 3, 0, 0, 0) := rfl
theorem kq149 : kfind 10 149 = some (149, .aload_n 0, 1, 0, 0, 0) := rfl
theorem kq150 : kfind 10 150 = some (150, .getfield 58, 3, 0, 10, 2165) := rfl
theorem kq153 : kfind 10 153 = some (153, .iload_n 1, 1, 0, 0, 0) := rfl
theorem kq154 : kfind 10 154 = some (154, .new 49, 3, 4, 1089, 2151) := rfl
theorem kq157 : kfind 10 157 = some (157, .dup, 1, 0, 0, 0) := rfl
theorem kq158 : kfind 10 158 = some (158, .invokespecial 51, 3, 7, 0, 2152) := rfl
theorem kq161 : kfind 10 161 = some (161, .aastore, 1, 0, 0, 0) := rfl
theorem kq162 : kfind 10 162 = some (162, .iinc 1 1, 3, 0, 0, 0) := rfl
theorem kq165 : kfind 10 165 = some (165, .goto (-22), 3, 0, 0, 0) := rfl
theorem kq168 : kfind 10 168 = some (168, .return_, 1, 0, 0, 0) := rfl
theorem cs143 {K : KX → Option CS} {B : AV → AV → CS → Option CS} {x : Int} {N : List CC} {kc ks : Nat} : cstep K B cfV 10 2748 27206 (143, .iload_n 1, 1, 0, 0, 0) [some (rf 0), some (.inl x)] [] (T10, N) kc ks = K (144, [some (rf 0), some (.inl x)], [.inl x], (T10, N), kc, ks) := rfl
theorem cs144 {K : KX → Option CS} {B : AV → AV → CS → Option CS} {x : Int} {N : List CC} {kc ks : Nat} : cstep K B cfV 10 2748 27206 (144, .bipush 41, 2, 0, 0, 0) [some (rf 0), some (.inl x)] [.inl x] (T10, N) kc ks = K (146, [some (rf 0), some (.inl x)], [.inl 41, .inl x], (T10, N), kc, ks) := rfl
theorem cs146 {K : KX → Option CS} {B : AV → AV → CS → Option CS} {x : Int} {N : List CC} {kc ks : Nat} : cstep K B cfV 10 2748 27206 (146, .if_icmp .ge 22, 3, 0, 0, 0) [some (rf 0), some (.inl x)] [.inl 41, .inl x] (T10, N) kc ks = (bif decide ((41 : Int) ≤ x) then K (168, [some (rf 0), some (.inl x)], [], (T10, N), kc, ks) else K (149, [some (rf 0), some (.inl x)], [], (T10, N), kc, ks)) := rfl
theorem cs149 {K : KX → Option CS} {B : AV → AV → CS → Option CS} {x : Int} {N : List CC} {kc ks : Nat} : cstep K B cfV 10 2748 27206 (149, .aload_n 0, 1, 0, 0, 0) [some (rf 0), some (.inl x)] [] (T10, N) kc ks = K (150, [some (rf 0), some (.inl x)], [rf 0], (T10, N), kc, ks) := rfl
theorem cs150 {K : KX → Option CS} {B : AV → AV → CS → Option CS} {x : Int} {N : List CC} {kc ks : Nat} : cstep K B cfV 10 2748 27206 (150, .getfield 58, 3, 0, 10, 2165) [some (rf 0), some (.inl x)] [rf 0] (T10, N) kc ks = K (153, [some (rf 0), some (.inl x)], [rf 197], (T10, N), kc, ks) := rfl
theorem cs153 {K : KX → Option CS} {B : AV → AV → CS → Option CS} {x : Int} {N : List CC} {kc ks : Nat} : cstep K B cfV 10 2748 27206 (153, .iload_n 1, 1, 0, 0, 0) [some (rf 0), some (.inl x)] [rf 197] (T10, N) kc ks = K (154, [some (rf 0), some (.inl x)], [.inl x, rf 197], (T10, N), kc, ks) := rfl
theorem cs154 {K : KX → Option CS} {B : AV → AV → CS → Option CS} {x : Int} {N : List CC} {kc ks : Nat} : cstep K B cfV 10 2748 27206 (154, .new 49, 3, 4, 1089, 2151) [some (rf 0), some (.inl x)] [.inl x, rf 197] (T10, N) kc ks = (bif Nat.ble (kc + 1) 2748 && Nat.ble (ks + 10) 27206 then K (157, [some (rf 0), some (.inl x)], [rf (N.length + 1), .inl x, rf 197], (T10, N ++ [(4, 10, dfs 4)]), kc + 1, ks + 10) else none) := rfl
theorem cs157 {K : KX → Option CS} {B : AV → AV → CS → Option CS} {x : Int} {N : List CC} {kc ks m : Nat} : cstep K B cfV 10 2748 27206 (157, .dup, 1, 0, 0, 0) [some (rf 0), some (.inl x)] [rf m, .inl x, rf 197] (T10, N) kc ks = K (158, [some (rf 0), some (.inl x)], [rf m, rf m, .inl x, rf 197], (T10, N), kc, ks) := rfl
theorem cs158 {K : KX → Option CS} {B : AV → AV → CS → Option CS} {x : Int} {N : List CC} {kc ks m : Nat} : cstep K B cfV 10 2748 27206 (158, .invokespecial 51, 3, 7, 0, 2152) [some (rf 0), some (.inl x)] [rf (m + 1), rf (m + 1), .inl x, rf 197] (T10, N) kc ks = (match N[m]? with
          | some (ci, ln, vs) => match cfV 7 with
            | ((T', N'), mc', ms') => bif Nat.beq ci (kO 7) && (decide (vs = dfs ci) && (Nat.ble (kc + mc') 2748 && (Nat.ble (ks + ms') 27206 && (Nat.ble 3 4 && Nat.blt (kLv 7) (kLv 10))))) then K (161, [some (rf 0), some (.inl x)], [rf (m + 1), .inl x, rf 197], (T10, N.set m (ci, ln, shl m N.length T') ++ N'.map (fun c => (c.1, c.2.1, shl m N.length c.2.2))), kc + mc', ks + ms') else none
          | none => none) := rfl
theorem cs161 {K : KX → Option CS} {B : AV → AV → CS → Option CS} {x : Int} {N : List CC} {kc ks m : Nat} : cstep K B cfV 10 2748 27206 (161, .aastore, 1, 0, 0, 0) [some (rf 0), some (.inl x)] [rf (m + 1), .inl x, rf 197] (T10, N) kc ks = (match N[196]?, N[m]? with
        | some (t, ln, vs), some (ci, _, _) => bif Nat.ble 102 t && (Nat.beq (rci (t - 102)) ci && (Nat.blt ci 11 && (decide (0 ≤ x ∧ x < (ln : Int) ∧ x < 100000) && Nat.beq vs.length ln))) then K (162, [some (rf 0), some (.inl x)], [], (T10, N.set 196 (t, ln, vs.set x.toNat (some (rf (m + 1))))), kc, ks) else none
        | _, _ => none) := rfl
theorem cs162 {K : KX → Option CS} {B : AV → AV → CS → Option CS} {x : Int} {N : List CC} {kc ks : Nat} : cstep K B cfV 10 2748 27206 (162, .iinc 1 1, 3, 0, 0, 0) [some (rf 0), some (.inl x)] [] (T10, N) kc ks = (bif i32b (x + 1) then K (165, [some (rf 0), some (.inl (x + 1))], [], (T10, N), kc, ks) else none) := rfl
theorem cs165 {K : KX → Option CS} {B : AV → AV → CS → Option CS} {x : Int} {N : List CC} {kc ks : Nat} : cstep K B cfV 10 2748 27206 (165, .goto (-22), 3, 0, 0, 0) [some (rf 0), some (.inl x)] [] (T10, N) kc ks = K (143, [some (rf 0), some (.inl x)], [], (T10, N), kc, ks) := rfl
theorem cs168 {K : KX → Option CS} {B : AV → AV → CS → Option CS} {x : Int} {N : List CC} {kc ks : Nat} : cstep K B cfV 10 2748 27206 (168, .return_, 1, 0, 0, 0) [some (rf 0), some (.inl x)] [] (T10, N) kc ks = (bif Nat.ble kc 2748 && Nat.ble ks 27206 then some (T10, N) else none) := rfl
theorem xit {f kc ks j : Nat} {N : List CC} {vs : List (Option AV)} (hN : N[196]? = some (111, 41, vs)) (hv : vs.length = 41) (hj : j < 41) (h1 : kc + 62 ≤ 2748) (h2 : ks + 601 ≤ 27206) :
    crun cfV (f + 12) 10 2748 27206 (143, [some (rf 0), some (.inl (j : Int))], [], (T10, N), kc, ks) = crun cfV f 10 2748 27206 (143, [some (rf 0), some (.inl ((j : Int) + 1))], [], (T10, xnx N vs j), kc + 62, ks + 601) := by
  have hlt : 196 < N.length := (List.getElem?_eq_some_iff.mp hN).1
  have hg : (N ++ [((4, 10, dfs 4) : CC)])[N.length]? = some (4, 10, dfs 4) := List.getElem?_concat_length
  have ha : (xwC N)[196]? = some (111, 41, vs) := by rw [xwC_eq, List.getElem?_append_left hlt]; exact hN
  have hb : (xwC N)[N.length]? = some (4, cNn 4, shl N.length (N.length + 1) T7) := by rw [xwC_eq, List.getElem?_append_right (Nat.le_refl _), Nat.sub_self]; rfl
  rw [crun_st kq143, cs143, crun_st kq144, cs144, crun_st kq146, cs146, decide_eq_false (by omega), cond_false, crun_st kq149, cs149, crun_st kq150, cs150, crun_st kq153, cs153, crun_st kq154, cs154,
    ble_t (a := kc + 1) (by omega), ble_t (a := ks + 10) (by omega), Bool.and_self, cond_true, crun_st kq157, cs157, crun_st kq158, cs158, hg, cf7]
  generalize hK : crun cfV (f + 3) 10 2748 27206 = K3
  show (bif Nat.beq 4 (kO 7) && (decide (dfs 4 = dfs 4) && (Nat.ble (kc + 1 + 61) 2748 && (Nat.ble (ks + 10 + 591) 27206 && (Nat.ble 3 4 && Nat.blt (kLv 7) (kLv 10))))) then K3 (161, [some (rf 0), some (.inl (j : Int))], [rf (N.length + 1), .inl (j : Int), rf 197], (T10, xwC N), kc + 1 + 61, ks + 10 + 591) else none) = _
  rw [show Nat.beq 4 (kO 7) = true from rfl, decide_eq_true (p := dfs 4 = dfs 4) rfl, ble_t (a := kc + 1 + 61) (by omega), ble_t (a := ks + 10 + 591) (by omega), show (Nat.ble 3 4 && Nat.blt (kLv 7) (kLv 10)) = true from rfl, Bool.and_self, Bool.and_self, Bool.and_self, Bool.and_self, cond_true, ← hK]
  rw [crun_st kq161, cs161, ha, hb]
  generalize hK2 : crun cfV (f + 2) 10 2748 27206 = K2
  show (bif (Nat.ble 102 111 && (Nat.beq (rci (111 - 102)) 4 && (Nat.blt 4 11 && (decide (0 ≤ (j : Int) ∧ (j : Int) < ((41 : Nat) : Int) ∧ (j : Int) < 100000) && Nat.beq vs.length 41)))) then K2 (162, [some (rf 0), some (.inl (j : Int))], [], (T10, xnx N vs j), kc + 1 + 61, ks + 10 + 591) else none) = _
  rw [decide_eq_true (p := 0 ≤ (j : Int) ∧ (j : Int) < ((41 : Nat) : Int) ∧ (j : Int) < 100000) (by omega), hv, show (Nat.ble 102 111 && (Nat.beq (rci (111 - 102)) 4 && (Nat.blt 4 11 && (true && Nat.beq 41 41)))) = true from rfl, cond_true, ← hK2]
  rw [crun_st kq162, cs162, show i32b ((j : Int) + 1) = true from decide_eq_true (by omega), cond_true, crun_st kq165, cs165, show kc + 1 + 61 = kc + 62 by omega, show ks + 10 + 591 = ks + 601 by omega]
theorem xitE {f kc ks : Nat} {N : List CC} (h1 : kc ≤ 2748) (h2 : ks ≤ 27206) :
    crun cfV (f + 4) 10 2748 27206 (143, [some (rf 0), some (.inl ((41 : Nat) : Int))], [], (T10, N), kc, ks) = some (T10, N) := by
  rw [crun_st kq143, cs143, crun_st kq144, cs144, crun_st kq146, cs146, decide_eq_true (p := (41 : Int) ≤ ((41 : Nat) : Int)) (by omega), cond_true, crun_st kq168, cs168, ble_t h1, ble_t h2]
  rfl
def xwV : Nat → List (Option AV)
  | 0 => List.replicate 41 none
  | j + 1 => (xwV j).set j (some (rf (206 + 62 * j + 1)))
def xwN : Nat → List CC
  | 0 => N10
  | j + 1 => xnx (xwN j) (xwV j) j
theorem xwV_len : ∀ j, (xwV j).length = 41
  | 0 => rfl
  | j + 1 => by
    show ((xwV j).set j _).length = 41
    rw [List.length_set, xwV_len j]
theorem N10_len : N10.length = 206 := by decide +kernel
theorem N10_196' : (match N10[196]? with
    | some c => cEq c (111, 41, xwV 0)
    | none => false) = true := by decide +kernel
theorem N10_196 : N10[196]? = some (111, 41, xwV 0) := by
  have h := N10_196'
  rcases hc : N10[196]? with _ | c <;> rw [hc] at h
  · cases h
  · exact congrArg some (cEq_eq h)
theorem xwN_len : ∀ j, (xwN j).length = 206 + 62 * j
  | 0 => N10_len
  | j + 1 => by
    show ((xwC (xwN j)).set 196 _).length = _
    rw [List.length_set, xwC_eq, List.length_append, List.length_cons, List.length_map, N7_len, xwN_len j]
    omega
theorem xwN_196 : ∀ j, (xwN j)[196]? = some (111, 41, xwV j)
  | 0 => N10_196
  | j + 1 => by
    have hl := xwN_len j
    show ((xwC (xwN j)).set 196 (111, 41, (xwV j).set j (some (rf ((xwN j).length + 1)))))[196]? = some (111, 41, (xwV j).set j (some (rf (206 + 62 * j + 1))))
    rw [hl, List.getElem?_set_self]
    rw [xwC_eq, List.length_append]
    omega
theorem loop10 : ∀ (d j f : Nat), j + d = 41 → crun cfV (f + 12 * d + 4) 10 2748 27206 (143, [some (rf 0), some (.inl (j : Int))], [], (T10, xwN j), 206 + 62 * j, 2565 + 601 * j) = some (T10, xwN 41)
  | 0, j, f, h => by
    obtain rfl : j = 41 := h
    exact xitE (by omega) (by omega)
  | d + 1, j, f, h => by
    rw [show f + 12 * (d + 1) + 4 = (f + 12 * d + 4) + 12 by omega, xit (xwN_196 j) (xwV_len j) (by omega) (by omega) (by omega)]
    have := loop10 d (j + 1) f (by omega)
    rw [Int.natCast_succ] at this
    rw [show 206 + 62 * (j + 1) = 206 + 62 * j + 62 by omega, show 2565 + 601 * (j + 1) = 2565 + 601 * j + 601 by omega] at this
    exact this
def xblk (k r : Nat) : CC := match r with
  | 0 => (4, cNn 4, shl (206 + 62 * k) (206 + 62 * k + 1) T7)
  | r + 1 => match N7.getD r (0, 0, []) with
    | (a, b, vs) => (a, b, shl (206 + 62 * k) (206 + 62 * k + 1) vs)
theorem xwN_blk : ∀ (j k r : Nat), k < j → r < 62 → (xwN j)[206 + 62 * k + r]? = some (xblk k r)
  | 0, k, r, h, _ => absurd h (Nat.not_lt_zero _)
  | j + 1, k, r, h, hr => by
    have hl := xwN_len j
    show ((xwC (xwN j)).set 196 _)[206 + 62 * k + r]? = _
    rw [List.getElem?_set_ne (by omega), xwC_eq, hl]
    by_cases hk : k = j
    · subst hk
      rw [List.getElem?_append_right (by omega), hl, show 206 + 62 * k + r - (206 + 62 * k) = r by omega]
      rcases r with _ | r
      · rfl
      · have hN := N7_len
        show (N7.map _)[r]? = _
        rw [List.getElem?_map, List.getElem?_eq_getElem (by omega)]
        show some _ = some (match N7.getD r (0, 0, []) with
          | (a, b, vs) => (a, b, shl (206 + 62 * k) (206 + 62 * k + 1) vs))
        rw [List.getD_eq_getElem?_getD, List.getElem?_eq_getElem (by omega)]
        rfl
    · rw [List.getElem?_append_left (by omega)]
      exact xwN_blk j k r (by omega) hr
theorem xwN_old : ∀ (j i : Nat), i < 206 → i ≠ 196 → (xwN j)[i]? = N10[i]?
  | 0, _, _, _ => rfl
  | j + 1, i, h, hi => by
    have hl := xwN_len j
    show ((xwC (xwN j)).set 196 _)[i]? = _
    rw [List.getElem?_set_ne (by omega), xwC_eq, List.getElem?_append_left (by omega)]
    exact xwN_old j i h hi
def bok (k : Nat) : Bool := (List.range 62).all (fun r => ckc 0 (207 + 62 * k + r) (xblk k r))
theorem bok0 : (List.range 11).all (fun k => bok k) = true := by decide +kernel
theorem bok1 : (List.range 10).all (fun k => bok (11 + k)) = true := by decide +kernel
theorem bok2 : (List.range 10).all (fun k => bok (21 + k)) = true := by decide +kernel
theorem bok3 : (List.range 10).all (fun k => bok (31 + k)) = true := by decide +kernel
theorem bok_at {k r : Nat} (h : k < 41) (hr : r < 62) : ckc 0 (207 + 62 * k + r) (xblk k r) = true := by
  have h1 : bok k = true := by
    by_cases q1 : k < 11
    · exact List.all_eq_true.mp bok0 _ (List.mem_range.mpr q1)
    · by_cases q2 : k < 21
      · have := List.all_eq_true.mp bok1 (k - 11) (List.mem_range.mpr (by omega))
        rwa [show 11 + (k - 11) = k by omega] at this
      · by_cases q3 : k < 31
        · have := List.all_eq_true.mp bok2 (k - 21) (List.mem_range.mpr (by omega))
          rwa [show 21 + (k - 21) = k by omega] at this
        · have := List.all_eq_true.mp bok3 (k - 31) (List.mem_range.mpr (by omega))
          rwa [show 31 + (k - 31) = k by omega] at this
  exact List.all_eq_true.mp h1 _ (List.mem_range.mpr hr)
def oldk : Nat → List CC → Bool
  | _, [] => true
  | i, c :: l => (Nat.beq i 196 || ckc 0 (1 + i) c) && fNat (i + 1) (fun i => oldk i l)
theorem oldk_at : ∀ {l : List CC} {n : Nat}, oldk n l = true → ∀ (i : Nat) (c : CC), l[i]? = some c → n + i ≠ 196 → ckc 0 (1 + (n + i)) c = true
  | [], _, _, i, c, hc, _ => by simp at hc
  | x :: l, n, h, i, c, hc, hne => by
    have h : ((Nat.beq n 196 || ckc 0 (1 + n) x) && fNat (n + 1) (fun n => oldk n l)) = true := h
    rw [fNat_eq, Bool.and_eq_true, Bool.or_eq_true] at h
    rcases i with _ | i
    · cases hc
      rcases h.1 with q | q
      · exact absurd (Nat.eq_of_beq_eq_true q) hne
      · exact q
    · have h2 := oldk_at h.2 i c hc (by omega)
      rwa [show n + 1 + i = n + (i + 1) by omega] at h2
theorem old_ok : oldk 0 N10 = true := by decide +kernel
theorem old_196 : ckc 0 197 (111, 41, xwV 41) = true := by decide +kernel
theorem old_T : ckc 0 0 (0, 0, T10) = true := by decide +kernel
theorem CkR_mk {base ci len : Nat} {T : List (Option AV)} {N : List CC} (h1 : ckc base base (ci, 0, T) = true) (h2 : ∀ (i : Nat) (c : CC), N[i]? = some c → ckc base (base + 1 + i) c = true) (h3 : N.length = len) : CkR base ci len (T, N) := ⟨h1, h2, h3⟩
theorem CkR10 : CkR 0 0 2748 (T10, xwN 41) := by
  have hlen : (xwN 41).length = 2748 := (xwN_len 41).trans (by decide)
  refine CkR_mk old_T (fun i c hc => ?_) hlen
  have hi : i < 2748 := by
    have h9 : i < (xwN 41).length := (List.getElem?_eq_some_iff.mp hc).1
    omega
  by_cases h1 : i < 206
  · by_cases h2 : i = 196
    · subst h2
      rw [xwN_196 41] at hc
      cases hc
      exact old_196
    · rw [xwN_old 41 i h1 h2] at hc
      have := oldk_at old_ok i c hc (by omega)
      rwa [show 1 + (0 + i) = 0 + 1 + i by omega] at this
  · have e : i = 206 + 62 * ((i - 206) / 62) + (i - 206) % 62 := by omega
    have hk : (i - 206) / 62 < 41 := by omega
    have hr : (i - 206) % 62 < 62 := by omega
    generalize (i - 206) / 62 = k at *
    generalize (i - 206) % 62 = r at *
    subst e
    rw [xwN_blk 41 k r hk hr] at hc
    cases hc
    have := bok_at hk hr
    rwa [show 207 + 62 * k + r = 0 + 1 + (206 + 62 * k + r) by omega] at this
def kxEq (x y : KX) : Bool := Nat.beq x.1 y.1 && (lEq vEq x.2.1 y.2.1 && (lEq (fun a b => vEq (some a) (some b)) x.2.2.1 y.2.2.1 && (lEq vEq x.2.2.2.1.1 y.2.2.2.1.1 && (lEq cEq x.2.2.2.1.2 y.2.2.2.1.2 && (Nat.beq x.2.2.2.2.1 y.2.2.2.2.1 && Nat.beq x.2.2.2.2.2 y.2.2.2.2.2)))))
theorem kxEq_eq {x y : KX} (h : kxEq x y = true) : x = y := by
  obtain ⟨a1, a2, a3, ⟨a4, a5⟩, a6, a7⟩ := x
  obtain ⟨b1, b2, b3, ⟨b4, b5⟩, b6, b7⟩ := y
  simp only [kxEq, Bool.and_eq_true] at h
  obtain ⟨h1, h2, h3, h4, h5, h6, h7⟩ := h
  rw [Nat.eq_of_beq_eq_true h1, lEq_eq (fun _ _ => vEq_eq) h2, lEq_eq (fun _ _ q => Option.some.inj (vEq_eq q)) h3, lEq_eq (fun _ _ => vEq_eq) h4, lEq_eq (fun _ _ => cEq_eq) h5, Nat.eq_of_beq_eq_true h6, Nat.eq_of_beq_eq_true h7]
def ke10 (r : CS) (x : KX) : Option CS := bif kxEq x X143 then some r else none
def r10 : CS := (T10, xwN 41)
theorem run10 : (crunK (ke10 r10) 143 cfV 500 10 2748 27206 (kEnt 10)).isSome = true := by decide +kernel
theorem ke10_out {x : KX} {y : CS} (h : ke10 r10 x = some y) : y = r10 := by
  unfold ke10 at h
  rcases hb : kxEq x X143 with _ | _ <;> rw [hb] at h
  · cases h
  · exact (Option.some.inj h).symm
theorem ke10_in {x : KX} {y : CS} (h : ke10 r10 x = some y) : x = X143 := by
  unfold ke10 at h
  rcases hb : kxEq x X143 with _ | _ <;> rw [hb] at h
  · cases h
  · exact kxEq_eq hb
theorem con_X : ∃ r, CkR 0 0 2748 r ∧ ∀ (D : va_G) (dA : Nat → ClassId) (l : Launch) (q0 z : Nat), CM D dA l 10 [rf 0] q0 z 2748 27206 (dfs 0, []) r := by
  refine ⟨r10, CkR10, fun D dA l q0 z => ?_⟩
  have hcf : ∀ m' q0' z', 0 < m' → m' < 12 → kLv m' < kLv 10 → CM D dA l m' [rf 0] q0' z' (cfV m').2.1 (cfV m').2.2 (dfs (kO m'), []) (cfV m').1 := fun m' q z a b c => cf_all 5 m' q z (by omega) a b (Nat.lt_of_lt_of_le c (kLv_5 _))
  have hk := okKm_at (n := 10) (by omega) (by omega)
  simp only [okKm, Bool.and_eq_true, decide_eq_true_eq] at hk
  obtain ⟨k1, k2, k3, k4, k5, k6, k7, k8, k9, k10, k11⟩ := hk
  refine cm_of (av := [rf 0]) (by omega) (by omega) (fun w hw => ?_) (Nat.le_of_ble_eq_true k11) fun p e s m args below meth c hF hS => ?_
  · obtain rfl := List.mem_singleton.mp hw
    exact ⟨rfl, fun y h => by cases h⟩
  · obtain ⟨y, hy⟩ := Option.isSome_iff_exists.mp run10
    obtain rfl := crunK_out (fun _ _ => ke10_out) _ _ _ hy
    refine crunK_snd (by omega) (by omega) hcf hF hS (fun x hx => ?_) _ _ hy
    obtain rfl := ke10_in hx
    refine crun_snd 496 10 2748 27206 X143 r10 q0 z (by omega) (by omega) hcf ?_ p e s m args below meth c hF hS
    exact loop10 41 0 0 rfl
