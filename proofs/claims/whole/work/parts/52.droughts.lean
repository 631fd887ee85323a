/-! centuries of drawn droughts -/
theorem jlan_mod {z : Int} (h0 : 0 ≤ z) (h1 : z < 9223372036854775808) : jlan z 2147483647 = z % 2147483648 := by
  obtain ⟨n, rfl⟩ : ∃ n : Nat, z = (n : Int) := ⟨z.toNat, by omega⟩
  unfold jlan
  rw [← Int64.toInt_toBitVec, Int64.toBitVec_and, Int64.toBitVec_ofInt, Int64.toBitVec_ofInt]
  have e : (BitVec.ofInt 64 (n : Int) &&& BitVec.ofInt 64 2147483647).toNat = n % 2147483648 := by
    rw [BitVec.toNat_and, BitVec.toNat_ofInt, BitVec.toNat_ofInt]
    have q1 : ((n : Int) % ((2 ^ 64 : Nat) : Int)).toNat = n := by
      have : ((2 ^ 64 : Nat) : Int) = 18446744073709551616 := by decide
      rw [this]; omega
    have q2 : ((2147483647 : Int) % ((2 ^ 64 : Nat) : Int)).toNat = 2 ^ 31 - 1 := by decide
    rw [q1, q2, Nat.and_two_pow_sub_one_eq_mod]
  rw [BitVec.toInt_eq_toNat_of_lt (by rw [e]; omega), e]
  omega
/-- the next number that is drawn -/
def nxt (x : Int) : Int := (x * 1103515245 + 12345) % 2147483648
theorem nxt_in (x : Int) : 0 ≤ nxt x ∧ nxt x < 2147483648 := by unfold nxt; omega
theorem drawX_ok {N : Nat} {X : jMem} (h : 0 ≤ X 157 7 ∧ X 157 7 < 2147483648) : Fo_nextDraw N X = some (nxt (X 157 7) / 65536, up X 157 7 (nxt (X 157 7))) := by
  have hn := nxt_in (X 157 7)
  unfold Fo_nextDraw jlt
  rw [w64_id (x := X 157 7 * 1103515245) (by omega), w64_id (by omega), jlan_mod (by omega) (by omega), show (X 157 7 * 1103515245 + 12345) % 2147483648 = nxt (X 157 7) from rfl, w32_id (by omega)]
  dsimp only
  rw [up_hit rfl rfl, td_nn (by omega), w32_id (by omega)]
theorem drawY_ok {N : Nat} {Y : jMem} {a : Int} (h : 0 ≤ Y 0 37 ∧ Y 0 37 < 2147483648) (ha : 0 < a ∧ a ≤ 1000) : m_draw N a Y = some (nxt (Y 0 37) / 65536 % a, up Y 0 37 (nxt (Y 0 37))) := by
  have hn := nxt_in (Y 0 37)
  have hm : 0 ≤ nxt (Y 0 37) / 65536 % a ∧ nxt (Y 0 37) / 65536 % a < a := ⟨Int.emod_nonneg _ (by omega), Int.emod_lt_of_pos _ ha.1⟩
  unfold m_draw jlt
  rw [w64_id (x := Y 0 37 * 1103515245) (by omega), w64_id (x := Y 0 37 * 1103515245 + 12345) (by omega), tm_nn (x := Y 0 37 * 1103515245 + 12345) (by omega), show (Y 0 37 * 1103515245 + 12345) % 2147483648 = nxt (Y 0 37) from rfl]
  dsimp only
  rw [up_hit rfl rfl, td_nn (by omega), w64_id (by omega), tm_nn (by omega), w32_id (by omega), jchk_pos (by omega)]
theorem fdraw {X Y X' Y' : jMem} {rl v : Int} (F : FF X Y X' Y') (E : EE Y Y') (B : YB X' Y' 161 18 rl) : FF X Y (up X' 157 7 v) (up Y' 0 37 v) ∧ EE Y (up Y' 0 37 v) ∧ YB (up X' 157 7 v) (up Y' 0 37 v) 161 18 rl := by
  refine ⟨⟨fun p hp hs => by rw [up_ne (by omega)]; exact F.1 p hp hs, fun p hp => by rw [up_ne (by omega)]; exact F.2.1 p hp, fun j a b c d => by rw [up_col d]; exact F.2.2.1 j a b c d, fun k a b => by rw [up_row (by omega)]; exact F.2.2.2 k a b⟩, ⟨fun k hk => by rw [up_row (by omega)]; exact E.1 k hk, by rw [up_col (by omega)]; exact E.2⟩, ?_⟩
  obtain ⟨b1, b2, b3, b4, b5⟩ := B
  have h10 : up Y' 0 37 v 10 = Y' 10 := up_ne (by omega)
  exact ⟨by rw [h10]; exact SR_congr b1 (fun p _ _ => up_ne (by omega)), by rw [h10]; exact PK_congr b2 (up_ne (by omega)) (up_ne (by omega)), by rw [h10]; exact b3, fun i i0 i1 => by rw [h10, up_row (by omega)]; exact b4 i i0 i1, FR_congr b5 (fun p _ _ _ => up_ne (by omega)) (up_ne (by omega)) (up_ne (by omega)) (up_ne (by omega)) (up_col (by omega))⟩
theorem fdrain {X Y X' Y' : jMem} {rl w : Int} (F : FF X Y X' Y') (E : EE Y Y') (B : YB X' Y' 161 18 rl) (hw : 0 ≤ w ∧ w < 7) : FF X Y (up X' 164 w 0) (up Y' 10 (25 + w) 0) ∧ EE Y (up Y' 10 (25 + w) 0) ∧ YB (up X' 164 w 0) (up Y' 10 (25 + w) 0) 161 18 rl := by
  refine ⟨⟨fun p hp hs => by rw [up_ne (by omega)]; exact F.1 p hp hs, fun p hp => by rw [up_ne (by omega)]; exact F.2.1 p hp, fun j a b c d => by rw [up_row (by omega)]; exact F.2.2.1 j a b c d, fun k a b => by rw [up_row (by omega)]; exact F.2.2.2 k a b⟩, ⟨fun k hk => by rw [up_col (by omega)]; exact E.1 k hk, by rw [up_row (by omega)]; exact E.2⟩, ?_⟩
  obtain ⟨⟨s0, s1, sd, st, sw, sh, se⟩, ⟨p0, p1, p2⟩, b3, b4, b5⟩ := B
  refine ⟨⟨?_, ?_, fun i i0 i1 => ?_, fun i i0 i1 => ?_, fun i i0 i1 => ?_, fun i i0 i1 => ?_, fun i i0 i1 => ?_⟩, ⟨?_, ?_, fun i i0 i1 => ?_⟩, WS_of b3 (up_col (by omega)) (up_col (by omega)) (fun i i0 i1 => by rw [up_col (by omega)]; exact b3.2.2.1 i i0 i1) (fun i i0 i1 => by rw [up_col (by omega)]; exact b3.2.2.2.1 i i0 i1) (fun i i0 i1 => by
      by_cases ci : i = w
      · rw [up_hit rfl (by omega)]; omega
      · rw [up_col (by omega)]; exact b3.2.2.2.2.1 i i0 i1) (fun i i0 i1 => up_col (by omega)) (fun i i0 i1 => by rw [up_col (by omega)]; exact b3.2.2.2.2.2.2.1 i i0 i1) (fun i i0 i1 => by rw [up_col (by omega)]; exact b3.2.2.2.2.2.2.2.1 i i0 i1) (fun i i0 i1 => up_col (by omega)), fun i i0 i1 => ?_, FR_congr b5 (fun p _ _ _ => up_ne (by omega)) (up_ne (by omega)) (up_ne (by omega)) (up_ne (by omega)) (up_row (by omega))⟩
  · rw [up_row (by omega), up_col (by omega)]; exact s0
  · rw [up_row (by omega), up_col (by omega)]; exact s1
  · rw [up_row (by omega), up_col (by omega)]; exact sd i i0 i1
  · rw [up_row (by omega), up_col (by omega)]; exact st i i0 i1
  · by_cases ci : i = w
    · rw [up_hit (by omega) ci, up_hit rfl (by omega)]
    · rw [up_col ci, up_col (by omega)]; exact sw i i0 i1
  · rw [up_row (by omega), up_col (by omega)]; exact sh i i0 i1
  · rw [up_row (by omega), up_col (by omega)]; exact se i i0 i1
  · rw [up_row (by omega), up_col (by omega)]; exact p0
  · rw [up_row (by omega), up_col (by omega)]; exact p1
  · rw [up_row (by omega), up_col (by omega)]; exact p2 i i0 i1
  · rw [up_row (by omega), up_col (by omega)]; exact b4 i i0 i1
/-- one century of n years -/
theorem century_ok {N : Nat} (hN : 1000 ≤ N) {X Y X' Y' : jMem} {rl n c x8 x9 x10 : Int} {h78 : Int × Int × Int × jMem → Option (Int × jMem)} (h : Rel X Y) (hf : FR X Y rl) (hf2 : 2 ≤ Y 10 1) (F : FF X Y X' Y') (h10 : Y' 10 = Y 10) (h21 : Y' 0 21 = Y 0 21) (hx : X' 157 7 = Y' 0 37) (hr : 0 ≤ Y' 0 37 ∧ Y' 0 37 < 2147483648) (hn : 0 ≤ n ∧ n ≤ 60) :
    ∃ X2 Y2 f, Fo_afterDroughts N rl n c X' = some (161, X2) ∧ jfix N (m_droughts_L87 N n c x8 x9 x10 h78) (0, Y') = jfix (f + 1) (m_droughts_L87 N n c x8 x9 x10 h78) (n, Y2) ∧ FF X Y X2 Y2 ∧ EE Y Y2 ∧ YB X2 Y2 161 18 rl ∧ X2 157 7 = Y2 0 37 ∧ 0 ≤ Y2 0 37 ∧ Y2 0 37 < 2147483648 := by
  obtain ⟨X5, c1, F5, B5, c2⟩ := copy_ok (N := N) h hf F h10 h21
  have hyr := (Rel_s h).2.2.2.2.2.2.2.2.2.2.2
  have hW := (Rel_s h).2.1.1
  have E5 : EE Y Y' := ⟨fun k _ => by rw [h10], h21⟩
  have H : wp (jfix N (Fo_afterDroughts_L14 N rl n c) (0, X5)) (fun o => o.1 = 161 ∧ ∃ (Y2 : jMem) (f : Nat), jfix N (m_droughts_L87 N n c x8 x9 x10 h78) (0, Y') = jfix (f + 1) (m_droughts_L87 N n c x8 x9 x10 h78) (n, Y2) ∧ FF X Y o.2 Y2 ∧ EE Y Y2 ∧ YB o.2 Y2 161 18 rl ∧ o.2 157 7 = Y2 0 37 ∧ 0 ≤ Y2 0 37 ∧ Y2 0 37 < 2147483648) := by
    refine wp_fix (fun s => (n - s.1).toNat) (fun (s : Int × jMem) => (0 ≤ s.1 ∧ s.1 ≤ n) ∧ ∃ (Yk : jMem) (f : Nat), jfix N (m_droughts_L87 N n c x8 x9 x10 h78) (0, Y') = jfix f (m_droughts_L87 N n c x8 x9 x10 h78) (s.1, Yk) ∧ (N : Int) = (f : Int) + s.1 ∧ FF X Y s.2 Yk ∧ EE Y Yk ∧ YB s.2 Yk 161 18 rl ∧ s.2 157 7 = Yk 0 37 ∧ (0 ≤ Yk 0 37 ∧ Yk 0 37 < 2147483648) ∧ Yk 10 10 = Y 10 10 + s.1) ?_ N _ ⟨⟨by dsimp only; omega, by dsimp only; omega⟩, Y', N, rfl, by dsimp only; omega, F5, E5, B5, by dsimp only; rw [c2 157 (by omega)]; exact hx, hr, by dsimp only; rw [h10]; omega⟩ (by dsimp only; omega)
    rintro hh ⟨x, Xc⟩ ⟨hx, Yk, f, ej, en, Fc, Ec, Bc, xc, rc, yc⟩ ih
    dsimp only at hx ej en Fc Ec Bc xc yc
    obtain ⟨f', rfl⟩ : ∃ f', f = f' + 1 := ⟨f - 1, by omega⟩
    by_cases cx : x < n
    · have hnr := nxt_in (Yk 0 37)
      have hnr2 := nxt_in (nxt (Yk 0 37))
      obtain ⟨F1, E1, B1⟩ := fdraw (v := nxt (Yk 0 37)) Fc Ec Bc
      have k1 : Yk 10 1 = Y 10 1 := Ec.1 1 (by omega)
      have x161 : Xc 161 0 = Y 10 1 := by rw [← k1]; exact Bc.1.1
      rw [jfix_s] at ej
      have tail : ∀ Xa Ya, FF X Y Xa Ya → EE Y Ya → YB Xa Ya 161 18 rl → Xa 157 7 = Ya 0 37 → (0 ≤ Ya 0 37 ∧ Ya 0 37 < 2147483648) → Ya 10 10 = Y 10 10 + x → jfix N (m_droughts_L87 N n c x8 x9 x10 h78) (0, Y') = (jb1 (m_passes N Ya) fun r23 M24 => jfix f' (m_droughts_L87 N n c x8 x9 x10 h78) ((w32 (x + 1)), M24)) → wp ((Fo_goOn N rl 1 Xa).bind fun o => hh (w32 (x + 1), o.2)) (fun o => o.1 = 161 ∧ ∃ (Y2 : jMem) (f : Nat), jfix N (m_droughts_L87 N n c x8 x9 x10 h78) (0, Y') = jfix (f + 1) (m_droughts_L87 N n c x8 x9 x10 h78) (n, Y2) ∧ FF X Y o.2 Y2 ∧ EE Y Y2 ∧ YB o.2 Y2 161 18 rl ∧ o.2 157 7 = Y2 0 37 ∧ 0 ≤ Y2 0 37 ∧ Y2 0 37 < 2147483648) := by
        intro Xa Ya Fa Ea Ba xa ra ya ej
        obtain ⟨v, v', X2, Y2, p1, pp2, p3, p4, p5, p6, p7, -⟩ := fpass hN Fa Ba (Or.inl rfl) (by omega)
        rw [goOn1 hN p1, Option.bind_some]
        rw [pp2] at ej
        unfold jb1 at ej
        rw [Option.bind_some, w32_id (by omega)] at ej
        rw [w32_id (by omega)]
        have z37 : Y2 0 37 = Ya 0 37 := p5.2.1 37 (by omega) (by omega)
        exact ih _ ⟨⟨by dsimp only; omega, by dsimp only; omega⟩, Y2, f', ej, by dsimp only; omega, p3, EE_GY Ea p5, p4, by dsimp only; rw [p6 157 (by omega) (by omega) (by unfold Stk; omega), z37]; exact xa, by rw [z37]; exact ra, by dsimp only; omega⟩ (by dsimp only; omega)
      generalize jfix f' (m_droughts_L87 N n c x8 x9 x10 h78) = kk at ej tail
      generalize jfix N (m_droughts_L87 N n c x8 x9 x10 h78) (0, Y') = JJ at ej tail ⊢
      unfold m_droughts_L87 at ej
      unfold jlt at ej
      dsimp only at ej
      rw [if_pos cx, drawY_ok rc (by omega)] at ej
      unfold Fo_afterDroughts_L14 jlt
      dsimp only
      rw [if_pos cx, drawX_ok (by rw [xc]; exact rc), xc]
      generalize hv : nxt (Yk 0 37) = v at *
      have hv1 : jb1 (some (v / 65536 % 100, up Yk 0 37 v)) = fun (K : Int → jMem → Option (Int × jMem)) => K (v / 65536 % 100) (up Yk 0 37 v) := rfl
      rw [hv1] at ej
      dsimp only at ej
      have hv2 : ∀ (K : Int → jMem → Option (Int × jMem)), jb1 (some (v / 65536, up Xc 157 7 v)) K = K (v / 65536) (up Xc 157 7 v) := fun _ => rfl
      rw [hv2, tm_nn (by omega)]
      have u161 : up Xc 157 7 v 161 0 = Y 10 1 := by rw [up_row (by omega)]; exact x161
      by_cases cd : v / 65536 % 100 < c
      · rw [if_pos cd] at ej
        rw [if_pos cd, if_pos (by rw [u161]; omega), drawX_ok (by rw [up_hit rfl rfl]; exact hnr), up_hit rfl rfl]
        have u1 : up Yk 0 37 v 10 1 = Y 10 1 := by rw [up_row (by omega)]; exact k1
        rw [u1, drawY_ok (by rw [up_hit rfl rfl]; exact hnr) (by omega), up_hit rfl rfl] at ej
        obtain ⟨F2, E2, B2⟩ := fdraw (v := nxt v) F1 E1 B1
        generalize hXd : up (up Xc 157 7 v) 157 7 (nxt v) = Xd at *
        generalize hYd : up (up Yk 0 37 v) 0 37 (nxt v) = Yd at *
        have hv3 : ∀ (K : Int → jMem → Option (Int × jMem)), jb1 (some (nxt v / 65536, Xd)) K = K (nxt v / 65536) Xd := fun _ => rfl
        have hv4 : ∀ (K : Int → jMem → Option (Int × jMem)), jb1 (some (nxt v / 65536 % Y 10 1, Yd)) K = K (nxt v / 65536 % Y 10 1) Yd := fun _ => rfl
        rw [hv3]
        rw [hv4] at ej
        have hm : 0 ≤ nxt v / 65536 % Y 10 1 ∧ nxt v / 65536 % Y 10 1 < Y 10 1 := ⟨Int.emod_nonneg _ (by omega), Int.emod_lt_of_pos _ (by omega)⟩
        have d161 : Xd 161 0 = Y 10 1 := by rw [← hXd, up_row (by omega)]; exact u161
        have d37 : Yd 0 37 = nxt v := by rw [← hYd, up_hit rfl rfl]
        have d157 : Xd 157 7 = nxt v := by rw [← hXd, up_hit rfl rfl]
        have d10 : Yd 10 10 = Y 10 10 + x := by rw [← hYd, up_row (by omega), up_row (by omega)]; exact yc
        have hq := B2.2.2.1.2.2.2.2.2.1 _ hm.1 (by omega)
        have hq2 : Xd 165 (nxt v / 65536 % Y 10 1) = Yd 10 (32 + nxt v / 65536 % Y 10 1) := B2.1.2.2.2.2.2.1 _ hm.1 (by omega)
        obtain ⟨F3, E3, B3⟩ := fdrain (w := Yd 10 (32 + nxt v / 65536 % Y 10 1)) F2 E2 B2 hq
        rw [w32_id (x := 32 + nxt v / 65536 % Y 10 1) (by omega), w32_id (x := 25 + Yd 10 (32 + nxt v / 65536 % Y 10 1)) (by omega), jchk_pos (by omega), jchk_pos (by omega)] at ej
        simp only [d161, tm_nn (x := nxt v / 65536) (y := Y 10 1) (by omega), hq2]
        rw [jchk_pos (by omega), jchk_pos (by omega), jchk_pos hq]
        exact tail _ _ F3 E3 B3 (by rw [up_row (by omega), up_row (by omega), d37, d157]) (by rw [up_row (by omega), d37]; exact hnr2) (by rw [up_col (by omega)]; exact d10) ej
      · rw [if_neg cd] at ej
        rw [if_neg cd]
        exact tail _ _ F1 E1 B1 (by rw [up_hit rfl rfl, up_hit rfl rfl]) (by rw [up_hit rfl rfl]; exact hnr) (by rw [up_row (by omega)]; exact yc) ej
    · unfold Fo_afterDroughts_L14
      dsimp only
      rw [if_neg cx]
      rw [show x = n by omega] at ej
      exact wp_some ⟨rfl, Yk, f', ej, Fc, Ec, Bc, xc, rc⟩
  obtain ⟨⟨v, X2⟩, e, q1, Y2, f, q2⟩ := H
  dsimp only at q1 q2
  subst q1
  refine ⟨X2, Y2, f, ?_, q2⟩
  unfold Fo_afterDroughts jbv
  rw [c1, Option.bind_some]
  exact e
theorem inForce_eq {N : Nat} {X X' : jMem} (h0 : X' 0 = X 0) (h14 : X' 14 = X 14) : x_ruleInForce N X' = x_ruleInForce N X := by
  unfold x_ruleInForce x_isWithin
  rw [h0, h14]
theorem droughts_ok {N : Nat} (hN : 1000 ≤ N) (a b c d : Int) : OK (x_droughts N a b c d) (m_droughts N a b c d) := by
  intro X Y h
  obtain ⟨r1, e1, f1, g1⟩ := within_ok N a 1 10 X Y
  obtain ⟨r2, e2, f2, g2⟩ := within_ok N b 1 60 X Y
  obtain ⟨r4, e4, f4, g4⟩ := within_ok N c 0 100 X Y
  obtain ⟨r5, e5, f5, g5⟩ := within_ok N d 0 1 X Y
  obtain ⟨r3, e3, f3, g3⟩ := hasParish_ok N h
  obtain ⟨rl, i1, i2, i3⟩ := inForce_ok (N := N) h
  obtain ⟨s, w, pk, p, n, wt⟩ := Rel_s h
  have w1 := w.1
  unfold x_droughts m_droughts
  rw [e1, e2, e3, e4, e5, f1, f2, f3, f4, f5]
  simp only [Option.bind_some]
  have bad : r1 = 0 ∨ r2 = 0 ∨ r4 = 0 ∨ r5 = 0 ∨ r3 = 0 ∨ (r1 ≠ 0 ∧ r2 ≠ 0 ∧ r4 ≠ 0 ∧ r5 ≠ 0 ∧ r3 ≠ 0) := by omega
  by_cases hb : r1 ≠ 0 ∧ r2 ≠ 0 ∧ r4 ≠ 0 ∧ r5 ≠ 0 ∧ r3 ≠ 0
  · obtain ⟨c1, c2, c4, c5, c3⟩ := hb
    rw [if_neg c1, if_neg c2, if_neg c4, if_neg c5, if_neg c3, if_neg c3, if_neg c1, if_neg c2, if_neg c4, if_neg c5]
    have v14 : X 14 4 = Y 0 22 ∧ 0 ≤ Y 0 22 ∧ Y 0 22 < 2147483648 := h.2.2.1.2.2.2.2.2
    obtain ⟨Y1, k1, k2, k3⟩ := keeps_ok hN (up Y 0 37 (Y 0 22))
    have F0 : FF X Y (up X 157 7 (X 14 4)) Y1 := ⟨fun p hp _ => up_ne (by omega), fun p hp => by rw [k2 p (by omega), up_ne (by omega)], fun j _ _ _ z => by rw [k2 0 (by omega), up_col z], fun k q0 q1 => by rw [k3 k q0 q1, up_row (by omega)]⟩
    have H : wp2 (jfix N (x_droughts_L74 N a b c d) (0, 0, 0, up X 157 7 (X 14 4))) (jfix N (m_droughts_L78 N a b c d) (0, 0, 0, Y1)) (fun o o' => o.1 = o'.1 ∧ Rel o.2 o'.2 ∧ TF X o.2) := by
      refine wp2_fix (fun s => (a - s.2.2.1).toNat) (fun (s t : Int × Int × Int × jMem) => (s.1 = t.1 ∧ s.2.1 = t.2.1 ∧ s.2.2.1 = t.2.2.1) ∧ (0 ≤ s.2.2.1 ∧ s.2.2.1 ≤ a) ∧ (0 ≤ s.1 ∧ s.1 ≤ 7 * s.2.2.1 ∧ 0 ≤ s.2.1 ∧ s.2.1 ≤ 280 * s.2.2.1) ∧ FF X Y s.2.2.2 t.2.2.2 ∧ t.2.2.2 10 = Y 10 ∧ t.2.2.2 0 21 = Y 0 21 ∧ s.2.2.2 157 7 = t.2.2.2 0 37 ∧ (0 ≤ t.2.2.2 0 37 ∧ t.2.2.2 0 37 < 2147483648)) ?_ N N _ _ ⟨⟨rfl, rfl, rfl⟩, ⟨by dsimp only; omega, by dsimp only; omega⟩, ⟨by dsimp only; omega, by dsimp only; omega, by dsimp only; omega, by dsimp only; omega⟩, F0, by dsimp only; rw [k2 10 (by omega), up_ne (by omega)], by dsimp only; rw [k2 0 (by omega), up_col (by omega)], by dsimp only; rw [k2 0 (by omega), up_hit rfl rfl, up_hit rfl rfl]; exact v14.1, by dsimp only; rw [k2 0 (by omega), up_hit rfl rfl]; exact v14.2⟩ (by dsimp only; omega) (by dsimp only; omega)
      rintro h1 h2 ⟨x7, x8, x9, Xc⟩ ⟨y7, y8, y9, Yc⟩ ⟨⟨j1, j2, j3⟩, hx, hs, Fc, hc10, hc21, hcx, hcr⟩ ih
      dsimp only at j1 j2 j3 hx hs Fc hc10 hc21 hcx hcr
      subst j1; subst j2; subst j3
      unfold x_droughts_L74 m_droughts_L78
      dsimp only
      by_cases cx : x9 < a
      · obtain ⟨X2, Y2, f, q1, q2, F2, E2, B2, q3, q4⟩ := century_ok hN (c := c) (n := b) (x8 := x7) (x9 := x8) (x10 := x9) (h78 := h2) h i2 (by omega) Fc hc10 hc21 hcx hcr (by omega)
        obtain ⟨t, t1, t2, t3, -⟩ := homes_ok hN B2.1 B2.2.2.1
        obtain ⟨u, u1, u2, u3, u4⟩ := water_ok hN B2.1 B2.2.2.1
        obtain ⟨Y3, l1, l2, l3, F3, E3, l4, l5⟩ := back_to hN h F2 E2
        have pt := pcn_in (s := t)
        have y1 : Y2 10 1 = Y 10 1 := E2.1 1 (by omega)
        rw [if_pos cx, if_pos cx, q2, jfix_s, inForce_eq (Fc.1 0 (by omega) (by unfold Stk; omega)) (Fc.1 14 (by omega) (by unfold Stk; omega)), i1, Option.bind_some, jchk_pos i3, q1]
        unfold m_droughts_L87 jlt jb1 jbv
        dsimp only
        rw [if_neg (show ¬ b < b by omega), Option.bind_some]
        dsimp only
        rw [jchk_pos jkb161, t1, u1, t2, u2, l1]
        simp only [Option.bind_some, t3]
        rw [w32_id (x := x7 + pcn t) (by omega), w32_id (x := x8 + u) (by omega), w32_id (x := x9 + 1) (by omega)]
        exact ih _ _ ⟨⟨rfl, rfl, rfl⟩, ⟨by dsimp only; omega, by dsimp only; omega⟩, ⟨by dsimp only; omega, by dsimp only; omega, by dsimp only; omega, by dsimp only; omega⟩, F3, l4, E3.2, by dsimp only; rw [l5 0 (by omega)]; exact q3, by dsimp only; rw [l5 0 (by omega)]; exact q4⟩ (by dsimp only; omega)
      · rw [if_neg cx, if_neg cx]
        obtain ⟨R, T⟩ := fore_rel h Fc hc10 hc21
        exact wp2_ite Iff.rfl (fun _ => wp2_some ⟨rfl, R, T⟩) (fun _ => wp2_some ⟨rfl, R, T⟩)
    obtain ⟨⟨v, X2⟩, ⟨v', Y2⟩, p1, p2, p3, p4, p5⟩ := H
    dsimp only at p3 p4 p5
    subst p3
    refine ⟨v, X2, Y2, p1, ?_, p4, p5⟩
    unfold jlt jbv
    dsimp only
    rw [k1, Option.bind_some]
    exact p2
  · refine ⟨-1, X, Y, ?_, ?_, h, TF_refl⟩
    · by_cases c1 : r1 = 0
      · rw [if_pos c1]
      · rw [if_neg c1]
        by_cases c2 : r2 = 0
        · rw [if_pos c2]
        · rw [if_neg c2]
          by_cases c4 : r4 = 0
          · rw [if_pos c4]
          · rw [if_neg c4]
            by_cases c5 : r5 = 0
            · rw [if_pos c5]
            · rw [if_neg c5, if_pos (by omega)]
    · by_cases c3 : r3 = 0
      · rw [if_pos c3]
      · rw [if_neg c3]
        by_cases c1 : r1 = 0
        · rw [if_pos c1]
        · rw [if_neg c1]
          by_cases c2 : r2 = 0
          · rw [if_pos c2]
          · rw [if_neg c2]
            by_cases c4 : r4 = 0
            · rw [if_pos c4]
            · rw [if_neg c4, if_pos (by omega)]
