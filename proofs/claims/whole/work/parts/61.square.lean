def gN (x : Int32) : Nat := (x - 48).toNatClampNeg
theorem gN_at {g : Nat} (h : g ≤ 9) : gN (nI (48 + g)) = g := by
  unfold gN
  have y : nI (48 + g) - nI 48 = nI (48 + g - 48) := pk_sub (by omega)
  rw [show 48 + g - 48 = g by omega] at y
  have y' : nI (48 + g) - 48 = nI g := y
  rw [y', nI_clamp (by omega)]
def qn (H W : Nat) (κ γ : Nat → Nat) : Nat → Nat → Nat := fun a b => if a = 0 then (if b = 0 then H else if b = 1 then W else 0) else if a = 1 then κ b else if a = 2 then γ b else 0
theorem sq_lay {Mc Mm M' : Mem} (h : Sim Mc Mm) {T : Nat → Int32} {k i n z H W : Nat} (hk : k < 4) (hn : i + n ≤ 80) (hTc : ∀ j, T j = Mc (13 + k) (i + j)) (h2H : 2 ≤ H) (hH : H ≤ 5) (h2W : 2 ≤ W) (hW : W ≤ 6) (h1 : T 1 = nI (48 + H)) (h2 : T 2 = nI (48 + W)) (hnn : n = 3 + (1 + 2 * W) * H) (hP : PS Mm M' T z n H W n (W * H)) : ∃ M14 Mm', f_X3_lay NN k Mc (nI i) = some M14 ∧ f_X3_stones (up M14 7 4 0) = some (nI (H * W)) ∧ f_X12_square_l103 NN NN (up (up M' 0 5 (M' 0 13)) 0 6 ((up M' 0 5 (M' 0 13)) 0 14)) 0 = some (nI (H * W), Mm') ∧ Sim (up M14 7 4 0) Mm' := by
  obtain ⟨⟨q, hb, h9, hc, hm⟩, hf, ht, hr, hs⟩ := h
  obtain ⟨p1, p2, p3, p4, p5, p6⟩ := hP
  have up3 : W * H ≤ 6 * 5 := Nat.mul_le_mul hW hH
  have eHW : W * H = H * W := Nat.mul_comm W H
  obtain ⟨M14, a1, a2, a3, a4, a5, a6⟩ := ly_c hk hTc hn hnn h2H hH h2W hW h1 h2 (fun d hd => by
    obtain ⟨y1, ⟨g, y2, y3, _⟩, _⟩ := p6 d hd
    exact ⟨y1, g, y2, y3⟩)
  have e6 : (up M' 0 5 (M' 0 13)) 0 14 = nI W := by rw [up_sn _ _ _ (by decide)]; exact p4
  rw [e6, p3]
  have hA : up (up M' 0 5 (nI H)) 0 6 (nI W) 0 5 * up (up M' 0 5 (nI H)) 0 6 (nI W) 0 6 = nI (H * W) := by
    rw [up_ss, up_sn _ _ _ (by decide), up_ss, pk_mul]
  obtain ⟨M2, b1, b2, b3⟩ := mq_c (A := H * W) (by omega) NN 0 (up (up M' 0 5 (nI H)) 0 6 (nI W)) hA (Nat.zero_le _) (show _ < 1000 by omega) (fun d hd => absurd hd (by omega))
  obtain ⟨M3, c1, c2, c3, c4, c5⟩ := mq_m (A := H * W) NN 0 M2 (by rw [b2 0 (by decide) (by decide) (by decide)]; exact hA) (Nat.zero_le _) (by decide) (fun a ha => absurd ha (by omega))
  have r0 : ∀ j, j ≠ 5 → j ≠ 6 → (j < 12 ∨ 14 < j) → j ≠ 21 → M3 0 j = Mm 0 j := fun j g1 g2 g3 g4 => by
    rw [c3 j g4, b2 0 (by decide) (by decide) (by decide), up_sn _ _ _ g2, up_sn _ _ _ g1]
    exact p1.2 j g3
  have rr : ∀ s, s ≠ 0 → s ≠ 4 → s ≠ 5 → s ≠ 6 → s ≠ 7 → s ≠ 8 → (s < 9 ∨ 14 < s) → M3 s = Mm s := fun s g0 g1 g2 g3 g4 g5 g6 => by
    rw [c4 s g0 g4 g5, b2 s g1 g2 g3, up_n _ _ _ g0, up_n _ _ _ g0]
    exact p1.1 s (by omega) g6
  refine ⟨M14, M3, a1, ?_, ?_, ?_⟩
  · unfold f_X3_stones
    rw [up_n _ _ _ (by decide), a2, a3, pk_mul]
  · exact b1.trans c1
  · refine ⟨⟨qn H W (fun d => kN (T (kp W d))) (fun d => gN (T (kp W d + 1))), ?_, ?_, ?_, ?_⟩, ?_, ?_, ?_, ?_⟩
    · refine ⟨Or.inr ⟨h2H, hH, h2W, hW⟩, fun c hcn => ?_, fun m hm => ⟨Nat.zero_le _, Nat.zero_le _⟩⟩
      have hcn' : c < H * W := hcn
      obtain ⟨y1, ⟨g, y2, y3, _⟩, _⟩ := p6 c (by omega)
      refine ⟨kN_le _, ?_, Nat.zero_le _⟩
      show gN (T (kp W c + 1)) ≤ 9
      rw [y3, gN_at y2]; exact y2
    · intro c _; exact Nat.zero_le _
    · refine ⟨?_, ?_, fun c hcn => ?_, fun m hm => ?_⟩
      · rw [up_n _ _ _ (by decide)]; exact a2
      · rw [up_n _ _ _ (by decide)]; exact a3
      · have hcn' : c < H * W := hcn
        obtain ⟨y1, ⟨g, y2, y3, y4⟩, y5, y6, y7⟩ := a4 c (by omega)
        rw [up_n _ _ _ (show 21 ≠ 7 by decide), up_n _ _ _ (show 22 ≠ 7 by decide), up_n _ _ _ (show 23 ≠ 7 by decide), up_n _ _ _ (show 24 ≠ 7 by decide), up_n _ _ _ (show 25 ≠ 7 by decide)]
        refine ⟨y1, ?_, y5, y6, y7⟩
        show M14 22 c = nI (gN (T (kp W c + 1)))
        rw [y4, y3, gN_at y2]
      · rw [up_n _ _ _ (show 26 ≠ 7 by decide), up_n _ _ _ (show 27 ≠ 7 by decide)]
        exact a5 m hm
    · refine ⟨?_, ?_, fun c hcn => ?_, fun m hm => c5 m hm⟩
      · rw [c3 5 (by decide), b2 0 (by decide) (by decide) (by decide), up_sn _ _ _ (by decide), up_ss]; rfl
      · rw [c3 6 (by decide), b2 0 (by decide) (by decide) (by decide), up_ss]; rfl
      · have hcn' : c < H * W := hcn
        obtain ⟨y1, y2, y3⟩ := b3 c hcn'
        obtain ⟨w1, ⟨g, w2, w3, w4⟩, w5⟩ := p6 c (by omega)
        rw [c4 4 (by decide) (by decide) (by decide), c4 5 (by decide) (by decide) (by decide), c4 6 (by decide) (by decide) (by decide), y1, y2, y3, up_n _ _ _ (by decide), up_n _ _ _ (by decide), up_n _ _ _ (by decide), up_n _ _ _ (by decide), w5, w4]
        refine ⟨rfl, ?_, rfl⟩
        show nI g = nI (gN (T (kp W c + 1)))
        rw [w3, gN_at w2]
    · rw [up_n _ _ _ (by decide), a6 0 (by decide) (by omega), r0 0 (by decide) (by decide) (by omega) (by decide)]
      exact hf
    · rw [up_n _ _ _ (by decide), a6 1 (by decide) (by omega), r0 1 (by decide) (by decide) (by omega) (by decide)]
      exact ht
    · exact ⟨0, Nat.zero_le _, up_ss _ _ _ _, c2, fun i hi => absurd hi (by omega)⟩
    · exact hs.same (fun k hk => ⟨by rw [up_n _ _ _ (by omega), a6 _ (by omega) (by omega)], by rw [up_n _ _ _ (by omega), a6 _ (by omega) (by omega)]⟩) (rr 1 (by decide) (by decide) (by decide) (by decide) (by decide) (by decide) (by omega)) (rr 2 (by decide) (by decide) (by decide) (by decide) (by decide) (by decide) (by omega)) (rr 3 (by decide) (by decide) (by decide) (by decide) (by decide) (by decide) (by omega))
theorem sim_square {Mc Mm : Mem} (h : Sim Mc Mm) (x1 : Int32) (x2 : Int32) (x3 : Int32) (x4 : Int32) : ∃ (r : Int32) (Mc' : Mem) (Mm' : Mem), f_X11_square NN Mc x1 x2 x3 x4 = some (r, Mc') ∧ f_X12_square NN Mm x1 x2 x3 x4 = some (r, Mm') ∧ Sim Mc' Mm' := by
  unfold f_X11_square f_X12_square
  rw [nmx, nmx]
  have h := h.fault 0
  generalize up Mc 0 8 0 = Mc at h ⊢
  generalize up Mm 0 0 0 = Mm at h ⊢
  rcases sh_cs x1 with ⟨k, hk, rfl, e1, e2⟩ | ⟨e1, e2⟩
  · rw [e1, e2, bnd, bnd, if_neg n10, if_neg n10]
    rcases so_cs x2 with ⟨so', hso, rfl, d1, d2⟩ | ⟨d1, d2⟩
    · rw [d1, d2, bnd, bnd, if_neg n10, if_neg n10, if_pos (inb4 hk), cl4 hk]
      have fl : ∀ e : Int32, ∃ (r : Int32) (Mc' : Mem) (Mm' : Mem), ((f_X11_failed Mc e).bind fun q => some (q.1, q.2)) = some (r, Mc') ∧ ((f_X12_fails Mm e).bind fun q => some (q.1, q.2)) = some (r, Mm') ∧ Sim Mc' Mm' := fun e => ⟨_, _, _, rfl, rfl, h.fault e⟩
      unfold f_X6_faultAs f_X6_isNothing f_X12_against
      rw [if_pos (inb4 hk), cl4 hk]
      rcases h.2.2.2.2 k hk with ⟨a1, a2⟩ | ⟨so, n, s1, s2, s3, s4, s5, s6, s7⟩
      · rw [if_pos a1, if_pos a2, bnd, bnd, if_neg n10, bnd, if_neg n10, if_neg n10]
        exact fl 1
      · have c1 : ¬ Mc (9 + k) 1 = (-1) := by rw [s3]; exact ne1 (by omega)
        have c2 : ¬ Mm 1 k = (-9) := by rw [s4]; exact ne9 (by omega)
        rw [if_neg c1, if_neg c2, bnd, if_pos z00, s3, s4]
        by_cases c3 : nI so = nI so'
        · rw [if_pos c3, if_pos c3, bnd, if_pos z00]
          by_cases g0 : 0 ≤ x4
          · rw [if_pos g0, if_pos g0]
            unfold f_X6_hasCells
            rw [s5, s6]
            by_cases g1 : x3 < 0
            · rw [if_pos g1, if_pos g1, bnd, bnd, if_pos z00, if_neg (show ¬ (3 : Int32) = 0 by decide)]
              exact fl 3
            · rw [if_neg g1, if_neg g1]
              by_cases g2 : nI n < x3
              · rw [if_pos g2, if_pos g2, bnd, bnd, if_pos z00, if_neg (show ¬ (3 : Int32) = 0 by decide)]
                exact fl 3
              · rw [if_neg g2, if_neg g2]
                by_cases g3 : nI n - x3 < x4
                · have g4 : ¬ x4 ≤ nI n - x3 := fun z => by
                    have z1 := Int32.lt_iff_toInt_lt.mp g3
                    have z2 := Int32.le_iff_toInt_le.mp z
                    omega
                  rw [if_pos g3, if_neg g4, bnd, bnd, if_pos z00, if_neg (show ¬ (3 : Int32) = 0 by decide)]
                  exact fl 3
                · rw [if_neg g3, if_pos (nlt g3), bnd, bnd, if_neg n10, if_pos z00, nmx, nmx]
                  obtain ⟨i, hi, rfl⟩ := nI_of2 (n := n) (nI_toInt (by omega)) g1 (nlt g2)
                  have g4 : ¬ x4 < 0 := fun z => by
                    have z1 := Int32.lt_iff_toInt_lt.mp z
                    have z2 := Int32.le_iff_toInt_le.mp g0
                    omega
                  rw [pk_sub hi] at g3
                  obtain ⟨w, hw, rfl⟩ := nI_of2 (n := n - i) (nI_toInt (by omega)) g4 (nlt g3)
                  rw [ix80, nI_add]
                  obtain ⟨M', q⟩ := sq_read (Mc := Mc) (Mm := Mm) (T := fun j => Mc (13 + k) (i + j)) (k := k) (i := i) (n := w) (z := 80 * k + i) (by omega) (by omega) (fun _ => rfl) (fun j hj => by
                    rw [show 80 * k + i + j = 80 * k + (i + j) by omega]
                    exact (s7 (i + j) (by omega)).symm)
                  rcases q with ⟨ft, q1, q2, q3, q4, q5⟩ | ⟨H, W, q1, q2, q3, q4, q5, q6, q7, q8, q9, q10⟩
                  · have q2' : f_X3_firstFault NN k Mc (nI i) (nI w) = some (nI ft) := q2
                    have q6 : nI (80 * k + i + ft) - nI (80 * k + i) = nI ft := by
                      rw [pk_sub (by omega)]
                      congr 1; omega
                    rw [q2', bnd, if_neg (ne9 (by omega)), q5, bnd]
                    simp only [↓reduceIte, q3, q6]
                    exact ⟨_, _, _, rfl, rfl, h.ag AgC.rf q4⟩
                  · have q9' : f_X3_firstFault NN k Mc (nI i) (nI w) = some (-9) := q9
                    obtain ⟨M14, Mm', t1, t2, t3, t4⟩ := sq_lay h hk (by omega) (fun _ => rfl) q1 q2 q3 q4 q5 q6 q7 q8
                    unfold f_X5_forgetAll
                    rw [q9', bnd, if_pos rfl, t1, bnd, nmx, bnd, t2, bnd, q10, bnd, if_neg n10, nmx, nmx]
                    exact ⟨_, _, _, rfl, t3, t4⟩
          · rw [if_neg g0, if_neg g0, bnd, if_neg (show ¬ (4 : Int32) = 0 by decide)]
            exact fl 4
        · rw [if_neg c3, if_neg c3, bnd, if_neg (show ¬ (2 : Int32) = 0 by decide), bnd, if_neg (show ¬ (2 : Int32) = 0 by decide)]
          exact fl 2
    · rw [d1, d2]; exact ⟨_, _, _, rfl, rfl, h⟩
  · rw [e1, e2]; exact ⟨_, _, _, rfl, rfl, h⟩
