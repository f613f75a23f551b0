theorem agp {M : Mem} {j : Nat} {v : Int32} (h : 12 ≤ j ∧ j ≤ 14) : AgM M (up M 0 j v) := ⟨fun c a b => up_n M _ _ (by omega), fun i h => up_sn _ _ _ (by omega)⟩
theorem sq_read {Mc Mm : Mem} {T : Nat → Int32} {k i n z : Nat} (hn : i + n ≤ 80) (hz : z + n ≤ 320) (hTc : ∀ j, T j = Mc (13 + k) (i + j)) (hT : ∀ j, j < n → Mm 3 (z + j) = T j) : ∃ M', (∃ ft, ft ≤ n ∧ CLv Mc k i n 0 0 3 0 = some (nI ft) ∧ M' 0 12 = nI (z + ft) ∧ AgM Mm M' ∧ f_X12_readSquare NN (up Mm 0 12 (nI z)) (nI (z + n)) = some (0, M')) ∨ (∃ H W, 2 ≤ H ∧ H ≤ 5 ∧ 2 ≤ W ∧ W ≤ 6 ∧ T 1 = nI (48 + H) ∧ T 2 = nI (48 + W) ∧ n = 3 + (1 + 2 * W) * H ∧ PS Mm M' T z n H W n (W * H) ∧ CLv Mc k i n 0 0 3 0 = some (-9) ∧ f_X12_readSquare NN (up Mm 0 12 (nI z)) (nI (z + n)) = some (1, M')) := by
  unfold f_X12_readSquare
  rw [up_ss]
  by_cases e0 : n = 0
  · subst e0
    rw [if_pos (by exact Int32.le_refl _)]
    refine ⟨_, Or.inl ⟨0, Nat.le_refl _, ?_, up_ss _ _ _ _, agp (by omega), rfl⟩⟩
    rw [cl_e (by omega) (by decide), if_neg (by decide)]
  · have h0 : 0 < n := by omega
    have t0 : up Mm 0 12 (nI z) 3 z = T 0 := by rw [up_n _ _ _ (by decide)]; exact hT 0 h0
    rw [if_neg (nI_ge (show z < z + n by omega) (by omega)), if_pos (inbT (show z < 320 by omega) (by decide)), nI_clamp (show z < 2 ^ 31 by omega), t0, cl_0 hn h0, show Mc (13 + k) i = T 0 from (hTc 0).symm]
    by_cases e1 : T 0 = 113
    · rw [if_pos e1, if_pos e1, nmx, nI1]
      have ag1 : AgM Mm (up (up Mm 0 12 (nI z)) 0 12 (nI (z + 1))) := (agp (by omega)).tr (agp (by omega))
      have hT1 : ∀ j, j < n → up (up Mm 0 12 (nI z)) 0 12 (nI (z + 1)) 3 (z + j) = T j := fun j hj => by rw [ag3 ag1]; exact hT j hj
      have hp4 : up (up Mm 0 12 (nI z)) 0 12 (nI (z + 1)) 0 12 = nI (z + 1) := up_ss _ _ _ _
      generalize up (up Mm 0 12 (nI z)) 0 12 (nI (z + 1)) = M4 at ag1 hT1 hp4 ⊢
      rcases dg_m (lo := 2) (hi := 5) hz hT1 hp4 (by decide) (by decide) h0 with ⟨H, g1, g2, g3, g4, g5⟩ | ⟨g1, g5⟩
      · have g5' : f_X12_digit M4 (nI (z + n)) 2 5 = some (nI H, up M4 0 12 (nI (z + 2))) := g5
        have cl1 : CLv Mc k i n 0 0 3 1 = CLv Mc k i n H 0 3 2 := by
          rcases cl_1 (M := Mc) (k := k) hn g3 with ⟨H', a1, a2, a3, a4⟩ | ⟨a1, _⟩
          · rw [← hTc, g4] at a3
            have := (nI_eq (by omega) (by omega)).mp a3
            obtain rfl : H' = H := by omega
            exact a4
          · exact absurd ((hTc 1).symm.trans g4) (a1 H g1 g2)
        rw [g5', bnd, nmx, cl1, if_neg (by rw [up_ss]; exact ne9 (by omega))]
        have ag2 : AgM Mm (up (up M4 0 12 (nI (z + 2))) 0 13 (nI H)) := ag1.tr ((agp (by omega)).tr (agp (by omega)))
        have hT2 : ∀ j, j < n → up (up M4 0 12 (nI (z + 2))) 0 13 (nI H) 3 (z + j) = T j := fun j hj => by rw [ag3 ag2]; exact hT j hj
        have hp6 : up (up M4 0 12 (nI (z + 2))) 0 13 (nI H) 0 12 = nI (z + 2) := by rw [up_sn _ _ _ (by decide), up_ss]
        have hq6 : up (up M4 0 12 (nI (z + 2))) 0 13 (nI H) 0 13 = nI H := up_ss _ _ _ _
        generalize up (up M4 0 12 (nI (z + 2))) 0 13 (nI H) = M6 at ag2 hT2 hp6 hq6 ⊢
        rcases dg_m (lo := 2) (hi := 6) hz hT2 hp6 (by decide) (by decide) g3 with ⟨W, b1, b2, b3, b4, b5⟩ | ⟨b1, b5⟩
        · have b5' : f_X12_digit M6 (nI (z + n)) 2 6 = some (nI W, up M6 0 12 (nI (z + 3))) := b5
          have cl2 : CLv Mc k i n H 0 3 2 = CLv Mc k i n H W (3 + (1 + 2 * W) * H) 3 := by
            rcases cl_2 (M := Mc) (k := k) hn b3 g2 with ⟨W', a1, a2, a3, a4⟩ | ⟨a1, _⟩
            · rw [← hTc, b4] at a3
              have := (nI_eq (by omega) (by omega)).mp a3
              obtain rfl : W' = W := by omega
              exact a4
            · exact absurd ((hTc 2).symm.trans b4) (a1 W b1 b2)
          rw [b5', bnd, nmx, cl2, if_neg (by rw [up_ss]; exact ne9 (by omega))]
          have hPS : PS Mm (up (up M6 0 12 (nI (z + 3))) 0 14 (nI W)) T z n H W (3 + (1 + 2 * W) * 0) (W * 0) := ⟨ag2.tr ((agp (by omega)).tr (agp (by omega))), by rw [up_sn _ _ _ (by decide), up_ss]; rfl, by rw [up_sn _ _ _ (by decide), up_sn _ _ _ (by decide)]; exact hq6, up_ss _ _ _ _, by omega, fun d hd => absurd hd (by omega)⟩
          obtain ⟨M', q⟩ := p81 (Mc := Mc) (k := k) hn hz hTc hT g2 b2 NN 0 (up (up M6 0 12 (nI (z + 3))) 0 14 (nI W)) (Nat.zero_le _) (show _ < 1000 by omega) hPS
          rcases q with ⟨ft, q1, q2, q3, q4, q5⟩ | ⟨q1, q2, q3, q4⟩
          · exact ⟨M', Or.inl ⟨ft, q1, q2, q3, q4, q5⟩⟩
          · exact ⟨M', Or.inr ⟨H, W, g1, g2, b1, b2, g4, b4, q1, q2, q3, q4⟩⟩
        · have b5' : f_X12_digit M6 (nI (z + n)) 2 6 = some (-9, M6) := b5
          rw [b5', bnd, nmx, if_pos (by rw [up_ss])]
          refine ⟨_, Or.inl ⟨2, g3, ?_, by rw [up_sn _ _ _ (by decide)]; exact hp6, ag2.tr (agp (by omega)), rfl⟩⟩
          rcases b1 with b1 | ⟨b1, b2⟩
          · have y := cl_e (M := Mc) (k := k) (i := i) (n := n) (H := H) (W := 0) (L := 3) (by omega) (by decide)
            have b1 : 2 = n := b1
            rw [← b1] at y ⊢
            rw [y, if_neg (by decide)]
          · rcases cl_2 (M := Mc) (k := k) hn b1 g2 with ⟨W, a1, a2, a3, a4⟩ | ⟨_, a1⟩
            · exact absurd ((hTc 2).trans a3) (b2 W a1 a2)
            · exact a1
      · have g5' : f_X12_digit M4 (nI (z + n)) 2 5 = some (-9, M4) := g5
        rw [g5', bnd, nmx, if_pos (by rw [up_ss])]
        refine ⟨_, Or.inl ⟨1, h0, ?_, by rw [up_sn _ _ _ (by decide)]; exact hp4, ag1.tr (agp (by omega)), rfl⟩⟩
        rcases g1 with g1 | ⟨g1, g2⟩
        · have y := cl_e (M := Mc) (k := k) (i := i) (n := n) (H := 0) (W := 0) (L := 3) (by omega) (by decide)
          rw [← g1] at y ⊢
          rw [y, if_neg (by decide)]
        · rcases cl_1 (M := Mc) (k := k) hn g1 with ⟨H, a1, a2, a3, a4⟩ | ⟨_, a1⟩
          · exact absurd ((hTc 1).trans a3) (g2 H a1 a2)
          · exact a1
    · rw [if_neg e1, if_neg e1]
      exact ⟨_, Or.inl ⟨0, Nat.zero_le _, rfl, up_ss _ _ _ _, agp (by omega), rfl⟩⟩
def LD (M : Mem) (T : Nat → Int32) (W t : Nat) : Prop := ∀ d, d < t → M 21 d = nI (kN (T (kp W d))) ∧ (∃ g, g ≤ 9 ∧ T (kp W d + 1) = nI (48 + g) ∧ M 22 d = nI g) ∧ M 23 d = 0 ∧ M 24 d = nI (d / W) ∧ M 25 d = nI (d % W)
section LAY
variable {T F : Nat → Int32} {k i n H W : Nat}
theorem ly_i (hk : k < 4) (hF : ∀ j, T j = F (i + j)) (hn : i + n ≤ 80) (hnn : n = 3 + (1 + 2 * W) * H) (hH : H ≤ 5) (hW : W ≤ 6) (hok : ∀ d, d < W * H → okk (T (kp W d)) ∧ dig (T (kp W d + 1))) {r : Nat} (hr : r < H) (kc : Mem → Int32 → Int32 → Option Mem) (N : Nat) : ∀ f c : Nat, ∀ M : Mem, c ≤ W → W - c < f → M 2 9 = nI W → M (13 + k) = F → LD M T W (W * r + c) → ∃ M', f_X3_lay_l55 kc N k (nI r) f M (nI (i + (3 + (1 + 2 * W) * r + (2 * c + 1)))) (nI (W * r + c)) (nI c) = kc M' (nI (i + (3 + (1 + 2 * W) * (r + 1)))) (nI (W * (r + 1))) ∧ (∀ s, (s < 21 ∨ 25 < s) → M' s = M s) ∧ LD M' T W (W * (r + 1)) := by
  have up1 : (1 + 2 * W) * (r + 1) ≤ (1 + 2 * W) * H := Nat.mul_le_mul (Nat.le_refl _) hr
  have up2 : W * (r + 1) ≤ W * H := Nat.mul_le_mul (Nat.le_refl _) hr
  have up3 : W * H ≤ 6 * 5 := Nat.mul_le_mul hW hH
  rw [Nat.mul_succ] at up1 up2
  intro f
  induction f with
  | zero => intro c M _ h; omega
  | succ f ih =>
    intro c M h1 h2 h9 hFM hL
    rw [f_X3_lay_l55, h9]
    by_cases e : c = W
    · subst e
      rw [if_pos (Int32.le_refl _)]
      have ej : 3 + (1 + 2 * c) * r + (2 * c + 1) = 3 + (1 + 2 * c) * (r + 1) := by rw [Nat.mul_succ]; omega
      have et : c * r + c = c * (r + 1) := by rw [Nat.mul_succ]
      rw [ej, et]
      rw [et] at hL
      exact ⟨M, rfl, fun _ _ => rfl, hL⟩
    · have hc : c < W := by omega
      have e1 : ¬ nI W ≤ nI c := nI_ge hc (by omega)
      have kpa := kp_at (r := r) hc
      obtain ⟨o1, g, o2, o3⟩ := hok (W * r + c) (by omega)
      rw [kpa] at o1 o3
      have k1 : f_X3_kindBy (F (i + (3 + (1 + 2 * W) * r + (2 * c + 1)))) = some (nI (kN (T (3 + (1 + 2 * W) * r + (2 * c + 1))))) := by
        rw [← hF]
        rcases kb (z := T (3 + (1 + 2 * W) * r + (2 * c + 1))) with ⟨_, w2, _⟩ | ⟨w1, _⟩
        · exact w2
        · exact absurd o1 w1
      have x1 : (nI (i + (3 + (1 + 2 * W) * r + (2 * c + 1)))) + 1 = nI (i + (3 + (1 + 2 * W) * r + (2 * c + 1) + 1)) := nI1 _
      have x2 : (nI (i + (3 + (1 + 2 * W) * r + (2 * c + 1)))) + 2 = nI (i + (3 + (1 + 2 * W) * r + (2 * (c + 1) + 1))) := nI_add _ 2
      have x3 : nI (48 + g) - 48 = nI g := by
        have y : nI (48 + g) - nI 48 = nI (48 + g - 48) := pk_sub (by omega)
        rw [show 48 + g - 48 = g by omega] at y
        exact y
      have x4 : F (i + (3 + (1 + 2 * W) * r + (2 * c + 1) + 1)) = nI (48 + g) := by rw [← hF]; exact o3
      simp only [↓reduceIte, e1, if_pos (inbT (show i + (3 + (1 + 2 * W) * r + (2 * c + 1)) < 80 by omega) (by decide)), nI_clamp (show i + (3 + (1 + 2 * W) * r + (2 * c + 1)) < 2 ^ 31 by omega), hFM, k1, bnd, if_pos (inbT (show W * r + c < 30 by omega) (by decide)), nI_clamp (show W * r + c < 2 ^ 31 by omega), nmd, x1, if_pos (inbT (show i + (3 + (1 + 2 * W) * r + (2 * c + 1) + 1) < 80 by omega) (by decide)), nI_clamp (show i + (3 + (1 + 2 * W) * r + (2 * c + 1) + 1) < 2 ^ 31 by omega), up_n M (W * r + c) (nI (kN (T (3 + (1 + 2 * W) * r + (2 * c + 1))))) (show 13 + k ≠ 21 by omega), x4, x3, x2, nI1]
      obtain ⟨M', r1, r2, r3⟩ := ih (c + 1) (up (up (up (up (up M 21 (W * r + c) (nI (kN (T (3 + (1 + 2 * W) * r + (2 * c + 1)))))) 22 (W * r + c) (nI g)) 23 (W * r + c) 0) 24 (W * r + c) (nI r)) 25 (W * r + c) (nI c)) (by omega) (by omega) (by rw [up_n _ _ _ (by decide), up_n _ _ _ (by decide), up_n _ _ _ (by decide), up_n _ _ _ (by decide), up_n _ _ _ (by decide)]; exact h9) (by rw [up_n _ _ _ (by omega), up_n _ _ _ (by omega), up_n _ _ _ (by omega), up_n _ _ _ (by omega), up_n _ _ _ (by omega)]; exact hFM) (fun d hd => by
        by_cases ed : d = W * r + c
        · subst ed
          rw [kpa, (dm hc).1, (dm hc).2, up_ss]
          refine ⟨?_, ⟨g, o2, o3, ?_⟩, ?_, ?_, rfl⟩
          · rw [up_n _ _ _ (by decide), up_n _ _ _ (by decide), up_n _ _ _ (by decide), up_n _ _ _ (by decide), up_ss]
          · rw [up_n _ _ _ (by decide), up_n _ _ _ (by decide), up_n _ _ _ (by decide), up_ss]
          · rw [up_n _ _ _ (by decide), up_n _ _ _ (by decide), up_ss]
          · rw [up_n _ _ _ (by decide), up_ss]
        · obtain ⟨y1, ⟨g', y2, y3, y4⟩, y5, y6, y7⟩ := hL d (by omega)
          refine ⟨?_, ⟨g', y2, y3, ?_⟩, ?_, ?_, ?_⟩
          · rw [up_n _ _ _ (by decide), up_n _ _ _ (by decide), up_n _ _ _ (by decide), up_n _ _ _ (by decide), up_sn _ _ _ ed]; exact y1
          · rw [up_n _ _ _ (by decide), up_n _ _ _ (by decide), up_n _ _ _ (by decide), up_sn _ _ _ ed, up_n _ _ _ (by decide)]; exact y4
          · rw [up_n _ _ _ (by decide), up_n _ _ _ (by decide), up_sn _ _ _ ed, up_n _ _ _ (by decide), up_n _ _ _ (by decide)]; exact y5
          · rw [up_n _ _ _ (by decide), up_sn _ _ _ ed, up_n _ _ _ (by decide), up_n _ _ _ (by decide), up_n _ _ _ (by decide)]; exact y6
          · rw [up_sn _ _ _ ed, up_n _ _ _ (by decide), up_n _ _ _ (by decide), up_n _ _ _ (by decide), up_n _ _ _ (by decide)]; exact y7)
      refine ⟨M', r1, fun s hs => ?_, r3⟩
      rw [r2 s hs, up_n _ _ _ (by omega), up_n _ _ _ (by omega), up_n _ _ _ (by omega), up_n _ _ _ (by omega), up_n _ _ _ (by omega)]
theorem ly_o (hk : k < 4) (hF : ∀ j, T j = F (i + j)) (hn : i + n ≤ 80) (hnn : n = 3 + (1 + 2 * W) * H) (hH : H ≤ 5) (hW : W ≤ 6) (hok : ∀ d, d < W * H → okk (T (kp W d)) ∧ dig (T (kp W d + 1))) : ∀ f r : Nat, ∀ M : Mem, r ≤ H → H - r < f → M 2 8 = nI H → M 2 9 = nI W → M (13 + k) = F → LD M T W (W * r) → ∃ M', f_X3_lay_l40 NN k f M (nI (i + (3 + (1 + 2 * W) * r))) (nI (W * r)) (nI r) = f_X3_lay_l145 NN k NN M' 0 ∧ (∀ s, (s < 21 ∨ 25 < s) → M' s = M s) ∧ LD M' T W (W * H) := by
  intro f
  induction f with
  | zero => intro r M _ h; omega
  | succ f ih =>
    intro r M h1 h2 h8 h9 hFM hL
    rw [f_X3_lay_l40, h8]
    by_cases e : r = H
    · subst e
      rw [if_pos (Int32.le_refl _)]
      exact ⟨M, rfl, fun _ _ => rfl, hL⟩
    · have hr : r < H := by omega
      rw [if_neg (nI_ge hr (by omega)), nI1 (i + (3 + (1 + 2 * W) * r))]
      obtain ⟨M1, q1, q2, q3⟩ := ly_i hk hF hn hnn hH hW hok hr (fun M21 y3_21 y4_21 => f_X3_lay_l40 NN k f M21 y3_21 y4_21 (nI r + 1)) NN NN 0 M (Nat.zero_le _) (show _ < 1000 by omega) h9 hFM hL
      have q1' : f_X3_lay_l55 (fun M21 y3_21 y4_21 => f_X3_lay_l40 NN k f M21 y3_21 y4_21 (nI r + 1)) NN k (nI r) NN M (nI (i + (3 + (1 + 2 * W) * r) + 1)) (nI (W * r)) 0 = f_X3_lay_l40 NN k f M1 (nI (i + (3 + (1 + 2 * W) * (r + 1)))) (nI (W * (r + 1))) (nI r + 1) := q1
      rw [q1', nI1]
      obtain ⟨M2, s1, s2, s3⟩ := ih (r + 1) M1 (by omega) (by omega) (by rw [q2 2 (by omega)]; exact h8) (by rw [q2 2 (by omega)]; exact h9) (by rw [q2 _ (by omega)]; exact hFM) q3
      exact ⟨M2, s1, fun s hs => (s2 s hs).trans (q2 s hs), s3⟩
theorem ly_m : ∀ f m : Nat, ∀ M : Mem, m ≤ 12 → 12 - m < f → (∀ a, a < m → M 26 a = 0 ∧ M 27 a = 0) → ∃ M', f_X3_lay_l145 NN k f M (nI m) = some M' ∧ (∀ s, s ≠ 26 → s ≠ 27 → M' s = M s) ∧ ∀ a, a < 12 → M' 26 a = 0 ∧ M' 27 a = 0 := by
  intro f
  induction f with
  | zero => intro m M _ h; omega
  | succ f ih =>
    intro m M h1 h2 hM
    rw [f_X3_lay_l145]
    by_cases e : m = 12
    · subst e
      rw [if_pos (by decide)]
      exact ⟨M, rfl, fun _ _ _ => rfl, hM⟩
    · have e1 : ¬ (12 : Int32) ≤ nI m := nI_ge (a := m) (b := 12) (by omega) (by omega)
      simp only [↓reduceIte, e1, if_pos (inbT (show m < 12 by omega) (by decide)), nI_clamp (show m < 2 ^ 31 by omega), nmd, nI1]
      obtain ⟨M', r1, r2, r3⟩ := ih (m + 1) (up (up M 26 m 0) 27 m 0) (by omega) (by omega) (fun a ha => by
        by_cases w : a = m
        · subst w; exact ⟨by rw [up_n _ _ _ (by decide), up_ss], by rw [up_ss]⟩
        · rw [up_n _ _ _ (by decide), up_sn _ _ _ w, up_sn _ _ _ w, up_n _ _ _ (by decide)]
          exact hM a (by omega))
      exact ⟨M', r1, fun s h1 h2 => by rw [r2 s h1 h2, up_n _ _ _ h2, up_n _ _ _ h1], r3⟩
theorem ly_c {M : Mem} (hk : k < 4) (hTc : ∀ j, T j = M (13 + k) (i + j)) (hn : i + n ≤ 80) (hnn : n = 3 + (1 + 2 * W) * H) (hH2 : 2 ≤ H) (hH : H ≤ 5) (hW2 : 2 ≤ W) (hW : W ≤ 6) (h1 : T 1 = nI (48 + H)) (h2 : T 2 = nI (48 + W)) (hok : ∀ d, d < W * H → okk (T (kp W d)) ∧ dig (T (kp W d + 1))) : ∃ M', f_X3_lay NN k M (nI i) = some M' ∧ M' 2 8 = nI H ∧ M' 2 9 = nI W ∧ LD M' T W (W * H) ∧ (∀ a, a < 12 → M' 26 a = 0 ∧ M' 27 a = 0) ∧ ∀ s, s ≠ 2 → (s < 21 ∨ 27 < s) → M' s = M s := by
  have up1 : (1 + 2 * W) * 1 ≤ (1 + 2 * W) * H := Nat.mul_le_mul (Nat.le_refl _) (by omega)
  have x1 : nI i + 1 = nI (i + 1) := nI1 _
  have x2 : nI i + 2 = nI (i + 2) := nI_add i 2
  have x3 : nI i + 3 = nI (i + 3) := nI_add i 3
  have sb : ∀ g, nI (48 + g) - 48 = nI g := fun g => by
    have y : nI (48 + g) - nI 48 = nI (48 + g - 48) := pk_sub (by omega)
    rw [show 48 + g - 48 = g by omega] at y
    exact y
  unfold f_X3_lay
  rw [x1, x2, x3, if_pos (inbT (show i + 1 < 80 by omega) (by decide)), nI_clamp (show i + 1 < 2 ^ 31 by omega), ← hTc, h1, sb, nmx, if_pos (inbT (show i + 2 < 80 by omega) (by decide)), nI_clamp (show i + 2 < 2 ^ 31 by omega), up_n _ _ _ (show 13 + k ≠ 2 by omega), ← hTc, h2, sb, nmx, nmx]
  obtain ⟨M1, q1, q2, q3⟩ := ly_o (T := T) (F := M (13 + k)) (M := up (up M 2 8 (nI H)) 2 9 (nI W)) hk hTc hn hnn hH hW hok NN 0 (Nat.zero_le _) (show _ < 1000 by omega) (by rw [up_sn _ _ _ (by decide), up_ss]) (by rw [up_ss]) (by rw [up_n _ _ _ (by omega), up_n _ _ _ (by omega)]) (fun d hd => absurd hd (by omega))
  have q1' : f_X3_lay_l40 NN k NN (up (up M 2 8 (nI H)) 2 9 (nI W)) (nI (i + 3)) 0 0 = f_X3_lay_l145 NN k NN M1 0 := q1
  rw [q1']
  obtain ⟨M2, s1, s2, s3⟩ := ly_m (k := k) NN 0 M1 (Nat.zero_le _) (by decide) (fun a h => absurd h (by omega))
  refine ⟨M2, s1, ?_, ?_, fun d hd => ?_, s3, fun s g1 g2 => ?_⟩
  · rw [s2 2 (by decide) (by decide), q2 2 (by omega), up_sn _ _ _ (by decide), up_ss]
  · rw [s2 2 (by decide) (by decide), q2 2 (by omega), up_ss]
  · rw [s2 21 (by decide) (by decide), s2 22 (by decide) (by decide), s2 23 (by decide) (by decide), s2 24 (by decide) (by decide), s2 25 (by decide) (by decide)]
    exact q3 d hd
  · rw [s2 s (by omega) (by omega), q2 s (by omega), up_n _ _ _ g1, up_n _ _ _ g1]
theorem mq_m {A : Nat} : ∀ f m : Nat, ∀ M : Mem, M 0 5 * M 0 6 = nI A → m ≤ 12 → 12 - m < f → (∀ a, a < m → M 7 a = 0 ∧ M 8 a = 0) → ∃ M', f_X12_square_l157 NN f M (nI m) = some (nI A, M') ∧ M' 0 21 = 0 ∧ (∀ j, j ≠ 21 → M' 0 j = M 0 j) ∧ (∀ s, s ≠ 0 → s ≠ 7 → s ≠ 8 → M' s = M s) ∧ ∀ a, a < 12 → M' 7 a = 0 ∧ M' 8 a = 0 := by
  intro f
  induction f with
  | zero => intro m M _ _ h; omega
  | succ f ih =>
    intro m M hA h1 h2 hM
    rw [f_X12_square_l157]
    by_cases e : m = 12
    · subst e
      rw [if_pos (by decide), nmd]
      unfold f_X12_all
      rw [bnd, up_sn _ _ _ (by decide), up_sn _ _ _ (by decide), hA]
      exact ⟨_, rfl, up_ss _ _ _ _, fun j hj => up_sn _ _ _ hj, fun s h1 _ _ => up_n _ _ _ h1, fun a ha => by rw [up_n _ _ _ (by decide), up_n _ _ _ (by decide)]; exact hM a ha⟩
    · have e1 : ¬ (12 : Int32) ≤ nI m := nI_ge (a := m) (b := 12) (by omega) (by omega)
      simp only [↓reduceIte, e1, if_pos (inbT (show m < 12 by omega) (by decide)), nI_clamp (show m < 2 ^ 31 by omega), nmd, nI1]
      obtain ⟨M', r1, r2, r3, r4, r5⟩ := ih (m + 1) (up (up M 7 m 0) 8 m 0) (by rw [up_n _ _ _ (by decide), up_n _ _ _ (by decide)]; exact hA) (by omega) (by omega) (fun a ha => by
        by_cases w : a = m
        · subst w; exact ⟨by rw [up_n _ _ _ (by decide), up_ss], by rw [up_ss]⟩
        · rw [up_n _ _ _ (by decide), up_sn _ _ _ w, up_sn _ _ _ w, up_n _ _ _ (by decide)]
          exact hM a (by omega))
      exact ⟨M', r1, r2, fun j hj => by rw [r3 j hj, up_n _ _ _ (by decide), up_n _ _ _ (by decide)], fun s h1 h2 h3 => by rw [r4 s h1 h2 h3, up_n _ _ _ h3, up_n _ _ _ h2], r5⟩
theorem mq_c {A : Nat} (hA30 : A ≤ 30) : ∀ f c : Nat, ∀ M : Mem, M 0 5 * M 0 6 = nI A → c ≤ A → A - c < f → (∀ d, d < c → M 4 d = M 9 d ∧ M 5 d = M 10 d ∧ M 6 d = 0) → ∃ M', f_X12_square_l103 NN f M (nI c) = f_X12_square_l157 NN NN M' 0 ∧ (∀ s, s ≠ 4 → s ≠ 5 → s ≠ 6 → M' s = M s) ∧ ∀ d, d < A → M' 4 d = M 9 d ∧ M' 5 d = M 10 d ∧ M' 6 d = 0 := by
  intro f
  induction f with
  | zero => intro c M _ _ h; omega
  | succ f ih =>
    intro c M hA h1 h2 hM
    rw [f_X12_square_l103]
    have al : f_X12_all M = some (nI A) := by unfold f_X12_all; rw [hA]
    rw [al, bnd]
    by_cases e : c = A
    · subst e
      rw [if_pos (Int32.le_refl _)]
      exact ⟨M, rfl, fun _ _ _ _ => rfl, hM⟩
    · have hc : c < A := by omega
      have e1 : ¬ nI A ≤ nI c := nI_ge hc (by omega)
      simp only [↓reduceIte, e1, if_pos (inbT (show c < 30 by omega) (by decide)), nI_clamp (show c < 2 ^ 31 by omega), nmd, nI1]
      have x10 : up M 4 c (M 9 c) 10 = M 10 := up_n _ _ _ (by decide)
      rw [x10]
      obtain ⟨M', r1, r2, r3⟩ := ih (c + 1) (up (up (up M 4 c (M 9 c)) 5 c (M 10 c)) 6 c 0) (by rw [up_n _ _ _ (by decide), up_n _ _ _ (by decide), up_n _ _ _ (by decide)]; exact hA) (by omega) (by omega) (fun d hd => by
        rw [up_n _ _ _ (show 9 ≠ 6 by decide), up_n _ _ _ (show 9 ≠ 5 by decide), up_n _ _ _ (show 9 ≠ 4 by decide), up_n _ _ _ (show 10 ≠ 6 by decide), up_n _ _ _ (show 10 ≠ 5 by decide), up_n _ _ _ (show 10 ≠ 4 by decide), up_n _ _ _ (show 4 ≠ 6 by decide), up_n _ _ _ (show 4 ≠ 5 by decide), up_n _ _ _ (show 5 ≠ 6 by decide)]
        by_cases w : d = c
        · subst w; rw [up_ss, up_ss, up_ss]; exact ⟨rfl, rfl, rfl⟩
        · rw [up_sn _ _ _ w, up_sn _ _ _ w, up_sn _ _ _ w, up_n _ _ _ (show 5 ≠ 4 by decide), up_n _ _ _ (show 6 ≠ 5 by decide), up_n _ _ _ (show 6 ≠ 4 by decide)]
          exact hM d (by omega))
      refine ⟨M', r1, fun s h1 h2 h3 => by rw [r2 s h1 h2 h3, up_n _ _ _ h3, up_n _ _ _ h2, up_n _ _ _ h1], fun d hd => ?_⟩
      have y := r3 d hd
      rw [up_n _ _ _ (show 9 ≠ 6 by decide), up_n _ _ _ (show 9 ≠ 5 by decide), up_n _ _ _ (show 9 ≠ 4 by decide), up_n _ _ _ (show 10 ≠ 6 by decide), up_n _ _ _ (show 10 ≠ 5 by decide), up_n _ _ _ (show 10 ≠ 4 by decide)] at y
      exact y
end LAY
