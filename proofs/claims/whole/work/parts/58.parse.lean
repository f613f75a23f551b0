def dig (x : Int32) : Prop := ∃ g, g ≤ 9 ∧ x = nI (48 + g)
/-- what the reading leaves -/
def AgR (M M' : Mem) : Prop := AgM M M' ∧ M' 0 13 = M 0 13 ∧ M' 0 14 = M 0 14
theorem AgR.rf {M : Mem} : AgR M M := ⟨AgM.rf, rfl, rfl⟩
theorem AgR.tr {M M' M'' : Mem} (h : AgR M M') (h2 : AgR M' M'') : AgR M M'' := ⟨h.1.tr h2.1, h2.2.1.trans h.2.1, h2.2.2.trans h.2.2⟩
theorem AgR.u {M : Mem} {k j : Nat} {v : Int32} (h : 9 ≤ k ∧ k ≤ 14) : AgR M (up M k j v) := ⟨um_ag h, by rw [up_n _ _ _ (by omega)], by rw [up_n _ _ _ (by omega)]⟩
theorem AgR.p {M : Mem} {v : Int32} : AgR M (up M 0 12 v) := ⟨⟨fun c a b => up_n M _ _ (by omega), fun i h => up_sn _ _ _ (by omega)⟩, up_sn _ _ _ (by decide), up_sn _ _ _ (by decide)⟩
theorem rs_t {M : Mem} {T : Nat → Int32} {z n j t κ : Nat} (hz : z + n ≤ 320) (hT : ∀ j, j < n → M 3 (z + j) = T j) (hp : M 0 12 = nI (z + j)) (hj : j < n) (ht : t < 30) (hκ : κ ≤ 2) : ∃ M', AgR M M' ∧ (∀ d, d ≠ t → M' 9 d = M 9 d ∧ M' 10 d = M 10 d) ∧ ((M' 0 12 = nI (z + (j + 1)) ∧ (j + 1 = n ∨ (j + 1 < n ∧ ¬ dig (T (j + 1)))) ∧ (nm (up M 9 t (nI κ)) fun M29 => if (M29 9 t) = (-9) then (some (0, M29)) else (nm (up M29 0 12 ((M29 0 12) + 1)) fun M31 => (f_X12_digit M31 (nI (z + n)) 0 9).bind fun q32 => nm (up q32.2 10 t q32.1) fun M33 => if (M33 10 t) = (-9) then (some (0, M33)) else (some ((1 : Int32), M33)))) = some (0, M')) ∨ (M' 0 12 = nI (z + (j + 2)) ∧ j + 1 < n ∧ M' 9 t = nI κ ∧ (∃ g, g ≤ 9 ∧ T (j + 1) = nI (48 + g) ∧ M' 10 t = nI g) ∧ (nm (up M 9 t (nI κ)) fun M29 => if (M29 9 t) = (-9) then (some (0, M29)) else (nm (up M29 0 12 ((M29 0 12) + 1)) fun M31 => (f_X12_digit M31 (nI (z + n)) 0 9).bind fun q32 => nm (up q32.2 10 t q32.1) fun M33 => if (M33 10 t) = (-9) then (some (0, M33)) else (some ((1 : Int32), M33)))) = some (1, M'))) := by
  have e9 : ¬ up M 9 t (nI κ) 9 t = -9 := by rw [up_ss]; exact ne9 (by omega)
  have ep : up M 9 t (nI κ) 0 12 + 1 = nI (z + (j + 1)) := by rw [up_n _ _ _ (by decide), hp, nI1]; rfl
  simp only [nmd, if_neg e9, ep]
  have hT2 : ∀ i, i < n → up (up M 9 t (nI κ)) 0 12 (nI (z + (j + 1))) 3 (z + i) = T i := fun i hi => by rw [up_n _ _ _ (by decide), up_n _ _ _ (by decide)]; exact hT i hi
  have ag : AgR M (up (up M 9 t (nI κ)) 0 12 (nI (z + (j + 1)))) := (AgR.u (by omega)).tr AgR.p
  rcases dg_m (lo := 0) (hi := 9) hz hT2 (up_ss _ _ _ _) (Nat.le_refl _) (by decide) (show j + 1 ≤ n by omega) with ⟨g, g1, g2, g3, g4, g5⟩ | ⟨g1, g5⟩
  · have g5' : f_X12_digit (up (up M 9 t (nI κ)) 0 12 (nI (z + (j + 1)))) (nI (z + n)) 0 9 = some (nI g, up (up (up M 9 t (nI κ)) 0 12 (nI (z + (j + 1)))) 0 12 (nI (z + (j + 1 + 1)))) := g5
    refine ⟨up (up (up (up M 9 t (nI κ)) 0 12 (nI (z + (j + 1)))) 0 12 (nI (z + (j + 1 + 1)))) 10 t (nI g), ag.tr (AgR.p.tr (AgR.u (by omega))), fun d hd => ?_, Or.inr ⟨?_, g3, ?_, ⟨g, g2, g4, up_ss _ _ _ _⟩, ?_⟩⟩
    · rw [up_sn _ _ _ hd, up_n _ _ _ (by decide), up_n _ _ _ (by decide), up_n _ _ _ (by decide), up_sn _ _ _ hd, up_n _ _ _ (by decide), up_n _ _ _ (by decide), up_n _ _ _ (by decide)]
      exact ⟨rfl, rfl⟩
    · rw [up_n _ _ _ (by decide), up_ss]
    · rw [up_n _ _ _ (by decide), up_n _ _ _ (by decide), up_n _ _ _ (by decide), up_ss]
    · rw [g5', bnd, if_neg (by rw [up_ss]; exact ne9 (by omega))]
  · have g5' : f_X12_digit (up (up M 9 t (nI κ)) 0 12 (nI (z + (j + 1)))) (nI (z + n)) 0 9 = some (-9, up (up M 9 t (nI κ)) 0 12 (nI (z + (j + 1)))) := g5
    refine ⟨up (up (up M 9 t (nI κ)) 0 12 (nI (z + (j + 1)))) 10 t (-9), ag.tr (AgR.u (by omega)), fun d hd => ?_, Or.inl ⟨?_, ?_, ?_⟩⟩
    · rw [up_sn _ _ _ hd, up_n _ _ _ (by decide), up_n _ _ _ (by decide), up_sn _ _ _ hd, up_n _ _ _ (by decide), up_n _ _ _ (by decide)]
      exact ⟨rfl, rfl⟩
    · rw [up_n _ _ _ (by decide), up_ss]
    · rcases g1 with g1 | ⟨g1, g2⟩
      · exact Or.inl g1
      · exact Or.inr ⟨g1, fun ⟨g, y1, y2⟩ => g2 g (Nat.zero_le _) y1 y2⟩
    · rw [g5', bnd, if_pos (by rw [up_ss])]
theorem rs_m {M : Mem} {T : Nat → Int32} {z n j t : Nat} (hz : z + n ≤ 320) (hT : ∀ j, j < n → M 3 (z + j) = T j) (hp : M 0 12 = nI (z + j)) (hj : j ≤ n) (ht : t < 30) : ∃ M', AgR M M' ∧ (∀ d, d ≠ t → M' 9 d = M 9 d ∧ M' 10 d = M 10 d) ∧ ((M' 0 12 = nI (z + j) ∧ (j = n ∨ (j < n ∧ ¬ okk (T j))) ∧ f_X12_readStone M (nI (z + n)) (nI t) = some (0, M')) ∨ (M' 0 12 = nI (z + (j + 1)) ∧ j < n ∧ okk (T j) ∧ (j + 1 = n ∨ (j + 1 < n ∧ ¬ dig (T (j + 1)))) ∧ f_X12_readStone M (nI (z + n)) (nI t) = some (0, M')) ∨ (M' 0 12 = nI (z + (j + 2)) ∧ j + 1 < n ∧ okk (T j) ∧ M' 9 t = nI (kN (T j)) ∧ (∃ g, g ≤ 9 ∧ T (j + 1) = nI (48 + g) ∧ M' 10 t = nI g) ∧ f_X12_readStone M (nI (z + n)) (nI t) = some (1, M'))) := by
  unfold f_X12_readStone
  by_cases e : j = n
  · subst e
    rw [hp, if_neg (nI_nlt (Nat.le_refl _) (by omega))]
    exact ⟨M, AgR.rf, fun _ _ => ⟨rfl, rfl⟩, Or.inl ⟨hp, Or.inl rfl, rfl⟩⟩
  · have hj2 : j < n := by omega
    have e1 : M 0 12 < nI (z + n) := by rw [hp]; exact nI_lt (by omega) (by omega)
    have e2 : inb (M 0 12) 320 := by rw [hp]; exact inbT (by omega) (by decide)
    have e3 : M 3 (M 0 12).toNatClampNeg = T j := by rw [hp, nI_clamp (by omega)]; exact hT j hj2
    rw [if_pos e1, if_pos e2, e3, nmd]
    simp only [if_pos (inbT ht (by decide)), nI_clamp (show t < 2 ^ 31 by omega)]
    have go : ∀ κ, κ ≤ 2 → okk (T j) → kN (T j) = κ → ∀ R : Option (Int32 × Mem), R = (nm (up M 9 t (nI κ)) fun M29 => if (M29 9 t) = (-9) then (some (0, M29)) else (nm (up M29 0 12 ((M29 0 12) + 1)) fun M31 => (f_X12_digit M31 (nI (z + n)) 0 9).bind fun q32 => nm (up q32.2 10 t q32.1) fun M33 => if (M33 10 t) = (-9) then (some (0, M33)) else (some ((1 : Int32), M33)))) → ∃ M', AgR M M' ∧ (∀ d, d ≠ t → M' 9 d = M 9 d ∧ M' 10 d = M 10 d) ∧ ((M' 0 12 = nI (z + j) ∧ (j = n ∨ (j < n ∧ ¬ okk (T j))) ∧ R = some (0, M')) ∨ (M' 0 12 = nI (z + (j + 1)) ∧ j < n ∧ okk (T j) ∧ (j + 1 = n ∨ (j + 1 < n ∧ ¬ dig (T (j + 1)))) ∧ R = some (0, M')) ∨ (M' 0 12 = nI (z + (j + 2)) ∧ j + 1 < n ∧ okk (T j) ∧ M' 9 t = nI (kN (T j)) ∧ (∃ g, g ≤ 9 ∧ T (j + 1) = nI (48 + g) ∧ M' 10 t = nI g) ∧ R = some (1, M'))) := by
      intro κ hκ ho hk R hR
      obtain ⟨M', r1, r2, r3⟩ := rs_t hz hT hp hj2 ht hκ
      refine ⟨M', r1, r2, ?_⟩
      rcases r3 with ⟨s1, s2, s3⟩ | ⟨s1, s2, s3, s4, s5⟩
      · exact Or.inr (Or.inl ⟨s1, hj2, ho, s2, hR.trans s3⟩)
      · exact Or.inr (Or.inr ⟨s1, s2, ho, by rw [hk]; exact s3, s4, hR.trans s5⟩)
    by_cases c1 : T j = 115
    · rw [if_pos c1]
      exact go 0 (by decide) (Or.inl c1) (by rw [c1]; decide) _ rfl
    · rw [if_neg c1]
      by_cases c2 : T j = 99
      · rw [if_pos c2]
        exact go 1 (by decide) (Or.inr (Or.inl c2)) (by rw [c2]; decide) _ rfl
      · rw [if_neg c2]
        by_cases c3 : T j = 102
        · rw [if_pos c3]
          exact go 2 (by decide) (Or.inr (Or.inr c3)) (by rw [c3]; decide) _ rfl
        · rw [if_neg c3, nmd, if_pos (by rw [up_ss])]
          refine ⟨up M 9 t (-9), AgR.u (by omega), fun d hd => ?_, Or.inl ⟨?_, Or.inr ⟨hj2, ?_⟩, rfl⟩⟩
          · rw [up_sn _ _ _ hd, up_n _ _ _ (by decide)]; exact ⟨rfl, rfl⟩
          · rw [up_n _ _ _ (by decide)]; exact hp
          · rintro (y | y | y)
            · exact c1 y
            · exact c2 y
            · exact c3 y
/-- where stone d stands in the text -/
def kp (W d : Nat) : Nat := 3 + (1 + 2 * W) * (d / W) + (2 * (d % W) + 1)
theorem kp_at {W r c : Nat} (hc : c < W) : kp W (W * r + c) = 3 + (1 + 2 * W) * r + (2 * c + 1) := by
  unfold kp
  rw [(dm hc).1, (dm hc).2]
def SD (M : Mem) (T : Nat → Int32) (W d : Nat) : Prop := okk (T (kp W d)) ∧ (∃ g, g ≤ 9 ∧ T (kp W d + 1) = nI (48 + g) ∧ M 10 d = nI g) ∧ M 9 d = nI (kN (T (kp W d)))
def PS (M0 M : Mem) (T : Nat → Int32) (z n H W j t : Nat) : Prop := AgM M0 M ∧ M 0 12 = nI (z + j) ∧ M 0 13 = nI H ∧ M 0 14 = nI W ∧ j ≤ n ∧ ∀ d, d < t → SD M T W d
theorem ag3 {M M' : Mem} (h : AgM M M') : M' 3 = M 3 := h.1 3 (by decide) (Or.inl (by decide))
section PARSE
variable {Mc M0 : Mem} {T : Nat → Int32} {k i n z H W : Nat}
theorem p125 (hn : i + n ≤ 80) (hz : z + n ≤ 320) (hTc : ∀ j, T j = Mc (13 + k) (i + j)) (hT : ∀ j, j < n → M0 3 (z + j) = T j) (hH : H ≤ 5) (hW : W ≤ 6) {r : Nat} (hr : r < H) (kc : Mem → Option (Int32 × Mem)) (N : Nat) : ∀ f c : Nat, ∀ M : Mem, c ≤ W → W - c < f → PS M0 M T z n H W (3 + (1 + 2 * W) * r + (2 * c + 1)) (W * r + c) → ∃ M', (∃ ft, ft ≤ n ∧ CLv Mc k i n H W (3 + (1 + 2 * W) * H) (3 + (1 + 2 * W) * r + (2 * c + 1)) = some (nI ft) ∧ M' 0 12 = nI (z + ft) ∧ AgM M0 M' ∧ f_X12_readSquare_l125 kc N (nI (z + n)) (nI r) f M (nI c) = some (0, M')) ∨ (PS M0 M' T z n H W (3 + (1 + 2 * W) * (r + 1)) (W * (r + 1)) ∧ CLv Mc k i n H W (3 + (1 + 2 * W) * H) (3 + (1 + 2 * W) * r + (2 * c + 1)) = CLv Mc k i n H W (3 + (1 + 2 * W) * H) (3 + (1 + 2 * W) * (r + 1)) ∧ f_X12_readSquare_l125 kc N (nI (z + n)) (nI r) f M (nI c) = kc M') := by
  have up1 : (1 + 2 * W) * (r + 1) ≤ (1 + 2 * W) * H := Nat.mul_le_mul (Nat.le_refl _) hr
  have up2 : W * (r + 1) ≤ W * H := Nat.mul_le_mul (Nat.le_refl _) hr
  have up3 : W * H ≤ 6 * 5 := Nat.mul_le_mul hW hH
  have up4 : (1 + 2 * W) * H ≤ 13 * 5 := Nat.mul_le_mul (by omega) hH
  rw [Nat.mul_succ] at up1 up2
  intro f
  induction f with
  | zero => intro c M _ h; omega
  | succ f ih =>
    intro c M h1 h2 hP
    obtain ⟨p1, p2, p3, p4, p5, p6⟩ := hP
    rw [f_X12_readSquare_l125, p4]
    by_cases e : c = W
    · subst e
      rw [if_pos (Int32.le_refl _)]
      have ej : 3 + (1 + 2 * c) * r + (2 * c + 1) = 3 + (1 + 2 * c) * (r + 1) := by rw [Nat.mul_succ]; omega
      have et : c * r + c = c * (r + 1) := by rw [Nat.mul_succ]
      rw [ej] at p2 p5
      rw [et] at p6
      exact ⟨M, Or.inr ⟨⟨p1, p2, p3, p4, p5, p6⟩, by rw [ej], rfl⟩⟩
    · have hc : c < W := by omega
      have e1 : ¬ nI W ≤ nI c := nI_ge hc (by omega)
      have kpa := kp_at (r := r) hc
      have hT2 : ∀ j, j < n → M 3 (z + j) = T j := fun j hj => by rw [ag3 p1]; exact hT j hj
      obtain ⟨M', r1, r2, r3⟩ := rs_m (t := W * r + c) hz hT2 p2 p5 (by omega)
      have q1 : AgM M0 M' := p1.tr r1.1
      rw [if_neg e1, pk_mul, nI_add]
      have c0 : CLv Mc k i n H W (3 + (1 + 2 * W) * H) n = some (nI n) ∨ 3 + (1 + 2 * W) * H ≤ n := by
        rw [cl_e (by omega) (by omega)]
        by_cases y : 3 + (1 + 2 * W) * H ≤ n
        · exact Or.inr y
        · rw [if_neg y]; exact Or.inl rfl
      have st1 : 3 + (1 + 2 * W) * r + (2 * c + 1) < n → CLv Mc k i n H W (3 + (1 + 2 * W) * H) (3 + (1 + 2 * W) * r + (2 * c + 1)) = (f_X3_kindBy (T (3 + (1 + 2 * W) * r + (2 * c + 1)))).bind fun r8 => if r8 = -9 then some (nI (3 + (1 + 2 * W) * r + (2 * c + 1))) else CLv Mc k i n H W (3 + (1 + 2 * W) * H) (3 + (1 + 2 * W) * r + (2 * c + 2)) := fun y => by
        rw [cl_r hn (by omega) y (by omega), if_neg (by omega), fr_1 hW (by omega) hc rfl, ← hTc]
        rcases kb (z := T (3 + (1 + 2 * W) * r + (2 * c + 1))) with ⟨w1, w2, w3⟩ | ⟨w1, w2⟩
        · rw [w2, bnd, bnd, if_neg w3, bnd, if_neg n10, if_neg w3]
          rfl
        · rw [w2, bnd, bnd, if_pos rfl, bnd, if_pos z00, if_pos rfl]
      have st2 : 3 + (1 + 2 * W) * r + (2 * c + 2) < n → CLv Mc k i n H W (3 + (1 + 2 * W) * H) (3 + (1 + 2 * W) * r + (2 * c + 2)) = ((f_X11_isWithin (T (3 + (1 + 2 * W) * r + (2 * c + 2))) 48 57).bind fun r6 => if r6 = 0 ∨ r6 = 1 then some r6 else none).bind fun r7 => if r7 = 0 then some (nI (3 + (1 + 2 * W) * r + (2 * c + 2))) else CLv Mc k i n H W (3 + (1 + 2 * W) * H) (3 + (1 + 2 * W) * r + (2 * (c + 1) + 1)) := fun y => by
        rw [cl_r hn (by omega) y (by omega), if_neg (by omega), fr_2 hW (by omega) hc rfl, ← hTc]
        rfl
      rcases r3 with ⟨s1, s2, s3⟩ | ⟨s1, s2, s3, s4, s5⟩ | ⟨s1, s2, s3, s4, s5, s6⟩
      · rw [s3, bnd, if_pos z00]
        refine ⟨M', Or.inl ⟨3 + (1 + 2 * W) * r + (2 * c + 1), p5, ?_, s1, q1, rfl⟩⟩
        rcases s2 with s2 | ⟨s2, s2'⟩
        · rcases c0 with y | y
          · rw [s2]; exact y
          · omega
        · rw [st1 s2]
          rcases kb (z := T (3 + (1 + 2 * W) * r + (2 * c + 1))) with ⟨w1, _⟩ | ⟨w1, w2⟩
          · exact absurd w1 s2'
          · rw [w2, bnd, if_pos rfl]
      · rw [s5, bnd, if_pos z00]
        refine ⟨M', Or.inl ⟨3 + (1 + 2 * W) * r + (2 * c + 2), by omega, ?_, s1, q1, rfl⟩⟩
        rw [st1 s2]
        rcases kb (z := T (3 + (1 + 2 * W) * r + (2 * c + 1))) with ⟨w1, w2, w3⟩ | ⟨w1, _⟩
        · rw [w2, bnd, if_neg w3]
          rcases s4 with s4 | ⟨s4, s4'⟩
          · have s4 : 3 + (1 + 2 * W) * r + (2 * c + 2) = n := s4
            rcases c0 with y | y
            · rw [s4]; exact y
            · omega
          · rw [st2 s4]
            rcases wi_g (x := T (3 + (1 + 2 * W) * r + (2 * c + 2))) (lo := 48) (hi := 57) (by decide) (by decide) with ⟨v, a1, a2, a3, _⟩ | ⟨_, a4, _⟩
            · exact absurd ⟨v - 48, by omega, by rw [show 48 + (v - 48) = v by omega]; exact a3⟩ s4'
            · have a4' : f_X11_isWithin (T (3 + (1 + 2 * W) * r + (2 * c + 2))) 48 57 = some 0 := a4
              rw [a4', bnd, if_pos (Or.inl rfl), bnd, if_pos z00]
        · exact absurd s3 w1
      · rw [s6, bnd, if_neg n10, nI1]
        have ecl : CLv Mc k i n H W (3 + (1 + 2 * W) * H) (3 + (1 + 2 * W) * r + (2 * c + 1)) = CLv Mc k i n H W (3 + (1 + 2 * W) * H) (3 + (1 + 2 * W) * r + (2 * (c + 1) + 1)) := by
          rw [st1 (by omega)]
          rcases kb (z := T (3 + (1 + 2 * W) * r + (2 * c + 1))) with ⟨w1, w2, w3⟩ | ⟨w1, _⟩
          · rw [w2, bnd, if_neg w3, st2 s2]
            obtain ⟨g, g1, g2, _⟩ := s5
            rcases wi_g (x := T (3 + (1 + 2 * W) * r + (2 * c + 2))) (lo := 48) (hi := 57) (by decide) (by decide) with ⟨v, a1, a2, a3, a4, _⟩ | ⟨a1, _⟩
            · have a4' : f_X11_isWithin (T (3 + (1 + 2 * W) * r + (2 * c + 2))) 48 57 = some 1 := a4
              rw [a4', bnd, if_pos (Or.inr rfl), bnd, if_neg n10]
            · exact absurd g2 (a1 (48 + g) (by omega) (by omega))
          · exact absurd s3 w1
        have hP2 : PS M0 M' T z n H W (3 + (1 + 2 * W) * r + (2 * (c + 1) + 1)) (W * r + (c + 1)) := by
          refine ⟨q1, s1, r1.2.1.trans p3, r1.2.2.trans p4, s2, fun d hd => ?_⟩
          by_cases ed : d = W * r + c
          · subst ed
            unfold SD
            rw [kpa]
            exact ⟨s3, s5, s4⟩
          · obtain ⟨y1, y2, y3⟩ := p6 d (by omega)
            obtain ⟨w1, w2⟩ := r2 d ed
            unfold SD
            rw [w1, w2]
            exact ⟨y1, y2, y3⟩
        obtain ⟨M2, t1⟩ := ih (c + 1) M' (by omega) (by omega) hP2
        rw [ecl]
        exact ⟨M2, t1⟩
theorem p81 (hn : i + n ≤ 80) (hz : z + n ≤ 320) (hTc : ∀ j, T j = Mc (13 + k) (i + j)) (hT : ∀ j, j < n → M0 3 (z + j) = T j) (hH : H ≤ 5) (hW : W ≤ 6) : ∀ f r : Nat, ∀ M : Mem, r ≤ H → H - r < f → PS M0 M T z n H W (3 + (1 + 2 * W) * r) (W * r) → ∃ M', (∃ ft, ft ≤ n ∧ CLv Mc k i n H W (3 + (1 + 2 * W) * H) (3 + (1 + 2 * W) * r) = some (nI ft) ∧ M' 0 12 = nI (z + ft) ∧ AgM M0 M' ∧ f_X12_readSquare_l81 NN (nI (z + n)) f M (nI r) = some (0, M')) ∨ (n = 3 + (1 + 2 * W) * H ∧ PS M0 M' T z n H W n (W * H) ∧ CLv Mc k i n H W (3 + (1 + 2 * W) * H) (3 + (1 + 2 * W) * r) = some (-9) ∧ f_X12_readSquare_l81 NN (nI (z + n)) f M (nI r) = some (1, M')) := by
  have up4 : (1 + 2 * W) * H ≤ 13 * 5 := Nat.mul_le_mul (by omega) hH
  intro f
  induction f with
  | zero => intro r M _ h; omega
  | succ f ih =>
    intro r M h1 h2 hP
    have hP0 := hP
    obtain ⟨p1, p2, p3, p4, p5, p6⟩ := hP
    rw [f_X12_readSquare_l81, p3]
    by_cases e : r = H
    · subst e
      rw [if_pos (Int32.le_refl _), p2]
      by_cases w : 3 + (1 + 2 * W) * r = n
      · rw [if_pos (by rw [w]), w]
        rw [w] at hP0
        refine ⟨M, Or.inr ⟨rfl, hP0, ?_, rfl⟩⟩
        rw [cl_e (by omega) (by omega), if_pos (Nat.le_refl _)]
      · rw [if_neg (fun y => w (by have := (nI_eq (by omega) (by omega)).mp y; omega))]
        refine ⟨M, Or.inl ⟨3 + (1 + 2 * W) * r, p5, ?_, p2, p1, rfl⟩⟩
        rw [cl_r hn (by omega) (by omega) (by omega), if_pos (Nat.le_refl _)]
    · have hr : r < H := by omega
      have up1 : (1 + 2 * W) * (r + 1) ≤ (1 + 2 * W) * H := Nat.mul_le_mul (Nat.le_refl _) hr
      rw [Nat.mul_succ] at up1
      rw [if_neg (nI_ge hr (by omega)), p2]
      by_cases w : 3 + (1 + 2 * W) * r = n
      · rw [if_pos (by rw [w]; exact Int32.le_refl _)]
        refine ⟨M, Or.inl ⟨n, Nat.le_refl _, ?_, by rw [p2, w], p1, rfl⟩⟩
        rw [w, cl_e (by omega) (by omega), if_neg (by omega)]
      · have hj : 3 + (1 + 2 * W) * r < n := by omega
        rw [if_neg (nI_ge (show z + (3 + (1 + 2 * W) * r) < z + n by omega) (by omega)), if_pos (inbT (show z + (3 + (1 + 2 * W) * r) < 320 by omega) (by decide)), nI_clamp (show z + (3 + (1 + 2 * W) * r) < 2 ^ 31 by omega), ag3 p1, hT _ hj]
        have st : CLv Mc k i n H W (3 + (1 + 2 * W) * H) (3 + (1 + 2 * W) * r) = (if T (3 + (1 + 2 * W) * r) = 59 then some 1 else some 0 : Option Int32).bind fun r7 => if r7 = 0 then some (nI (3 + (1 + 2 * W) * r)) else CLv Mc k i n H W (3 + (1 + 2 * W) * H) (3 + (1 + 2 * W) * r + (2 * 0 + 1)) := by
          rw [cl_r hn (by omega) hj (by omega), if_neg (by omega), fr_0 hW (by omega) rfl, ← hTc]
        by_cases w2 : T (3 + (1 + 2 * W) * r) = 59
        · rw [if_pos w2, nmx, nI1 (z + (3 + (1 + 2 * W) * r))]
          rw [if_pos w2, bnd, if_neg n10] at st
          have hP2 : PS M0 (up M 0 12 (nI (z + (3 + (1 + 2 * W) * r) + 1))) T z n H W (3 + (1 + 2 * W) * r + (2 * 0 + 1)) (W * r + 0) := ⟨p1.tr AgR.p.1, up_ss _ _ _ _, AgR.p.2.1.trans p3, AgR.p.2.2.trans p4, hj, fun d hd => by
            obtain ⟨y1, y2, y3⟩ := p6 d hd
            unfold SD
            rw [up_n _ _ _ (by decide), up_n _ _ _ (by decide)]
            exact ⟨y1, y2, y3⟩⟩
          obtain ⟨M1, q⟩ := p125 (Mc := Mc) (k := k) hn hz hTc hT hH hW hr (fun M20 => f_X12_readSquare_l81 NN (nI (z + n)) f M20 (nI r + 1)) NN NN 0 (up M 0 12 (nI (z + (3 + (1 + 2 * W) * r) + 1))) (Nat.zero_le _) (show _ < 1000 by omega) hP2
          rcases q with ⟨ft, q1, q2, q3, q4, q5⟩ | ⟨q1, q2, q3⟩
          · exact ⟨M1, Or.inl ⟨ft, q1, st.trans q2, q3, q4, q5⟩⟩
          · have q3' : f_X12_readSquare_l125 (fun M20 => f_X12_readSquare_l81 NN (nI (z + n)) f M20 (nI r + 1)) NN (nI (z + n)) (nI r) NN (up M 0 12 (nI (z + (3 + (1 + 2 * W) * r) + 1))) 0 = f_X12_readSquare_l81 NN (nI (z + n)) f M1 (nI r + 1) := q3
            rw [q3', nI1, st, q2]
            exact ih (r + 1) M1 (by omega) (by omega) q1
        · rw [if_neg w2]
          rw [if_neg w2, bnd, if_pos z00] at st
          exact ⟨M, Or.inl ⟨_, p5, st, p2, p1, rfl⟩⟩
end PARSE
