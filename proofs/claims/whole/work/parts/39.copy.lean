theorem cpy_0 (g : Nat → Int32) (t s : Nat) : va_cpy g g t s 0 = g := by
  funext p
  unfold va_cpy
  exact if_neg (by omega)
theorem cpy_s (g : Nat → Int32) (t s n : Nat) : upd (va_cpy g g t s n) (s + n) (g (t + n)) = va_cpy g g t s (n + 1) := by
  funext p
  unfold upd va_cpy
  by_cases h : p = s + n
  · subst h
    rw [if_pos rfl, if_pos (by omega)]
    congr 1; omega
  · rw [if_neg h]
    by_cases h2 : s ≤ p ∧ p < s + n
    · rw [if_pos h2, if_pos (by omega)]
    · rw [if_neg h2, if_neg (by omega)]
theorem cpy_b (g : Nat → Int32) (t s m n : Nat) : upd (va_cpy g g (t + (m + 1)) (s + (m + 1)) n) (s + m) (g (t + m)) = va_cpy g g (t + m) (s + m) (n + 1) := by
  funext p
  unfold upd va_cpy
  by_cases h : p = s + m
  · subst h
    rw [if_pos rfl, if_pos (by omega)]
    congr 1; omega
  · rw [if_neg h]
    by_cases h2 : s + (m + 1) ≤ p ∧ p < s + (m + 1) + n
    · rw [if_pos h2, if_pos (by omega)]
      congr 1; omega
    · rw [if_neg h2, if_neg (by omega)]
theorem cp_f {N k i o j n : Nat} (hk : k < 4) (ho : o < 4) (hi : i + n ≤ 80) (hj : j + n ≤ 80) (hji : k = o → j ≤ i) (M : Mem) (g : Nat → Int32) : ∀ f q : Nat, q ≤ n → n - q < f → f_X12_copy_l166 N (nI k) (nI i) (nI o) (nI j) (nI n) 0 f (upA M 3 (va_cpy g g (80 * k + i) (80 * o + j) q)) (nI q) = some (nI n, upA M 3 (va_cpy g g (80 * k + i) (80 * o + j) n)) := by
  intro f
  induction f with
  | zero => intro q _ h; omega
  | succ f ih =>
    intro q h1 h2
    rw [f_X12_copy_l166]
    by_cases e : q = n
    · subst e
      simp only [↓reduceIte, nI_le (Nat.le_refl q) (show q < 2 ^ 31 by omega)]
    · have e1 : ¬ nI n ≤ nI q := nI_ge (by omega) (by omega)
      have c1 : (nI (80 * k + i + q)).toNatClampNeg = 80 * k + i + q := nI_clamp (by omega)
      have c2 : (nI (80 * o + j + q)).toNatClampNeg = 80 * o + j + q := nI_clamp (by omega)
      simp only [↓reduceIte, e1, ix80, nI_add, if_pos (inbT (show 80 * k + i + q < 320 by omega) (by decide)), if_pos (inbT (show 80 * o + j + q < 320 by omega) (by decide)), nmd, c1, c2, up_upA, upA_s, nI1]
      have hout : 80 * k + i + q < 80 * o + j ∨ 80 * o + j + q ≤ 80 * k + i + q := by
        rcases Nat.lt_trichotomy k o with z | z | z
        · omega
        · have := hji z
          omega
        · omega
      rw [pk_cpy_out hout, cpy_s]
      exact ih (q + 1) (by omega) (by omega)
theorem cp_b {N k i o j n : Nat} (hk : k < 4) (ho : o < 4) (hi : i + n ≤ 80) (hj : j + n ≤ 80) (hji : k = o → i < j) (M : Mem) (g : Nat → Int32) : ∀ f q : Nat, q ≤ n → n - q < f → f_X12_copy_l166 N (nI k) (nI i) (nI o) (nI j) (nI n) 1 f (upA M 3 (va_cpy g g (80 * k + i + (n - q)) (80 * o + j + (n - q)) q)) (nI q) = some (nI n, upA M 3 (va_cpy g g (80 * k + i) (80 * o + j) n)) := by
  intro f
  induction f with
  | zero => intro q _ h; omega
  | succ f ih =>
    intro q h1 h2
    rw [f_X12_copy_l166]
    by_cases e : q = n
    · subst e
      simp only [↓reduceIte, nI_le (Nat.le_refl q) (show q < 2 ^ 31 by omega), Nat.sub_self, Nat.add_zero]
    · have e1 : ¬ nI n ≤ nI q := nI_ge (by omega) (by omega)
      obtain ⟨m, hm⟩ : ∃ m, n - q = m + 1 := ⟨n - q - 1, by omega⟩
      have z1 : (nI n - 1) - nI q = nI m := by
        show nI n - nI 1 - nI q = nI m
        rw [pk_sub (by omega), pk_sub (by omega)]; congr 1; omega
      have c1 : (nI (80 * k + i + m)).toNatClampNeg = 80 * k + i + m := nI_clamp (by omega)
      have c2 : (nI (80 * o + j + m)).toNatClampNeg = 80 * o + j + m := nI_clamp (by omega)
      simp only [↓reduceIte, e1, n10, z1, ix80, nI_add, if_pos (inbT (show 80 * k + i + m < 320 by omega) (by decide)), if_pos (inbT (show 80 * o + j + m < 320 by omega) (by decide)), nmd, c1, c2, up_upA, upA_s, nI1, hm]
      have hout : 80 * k + i + m < 80 * o + j + (m + 1) ∨ 80 * o + j + (m + 1) + q ≤ 80 * k + i + m := by
        rcases Nat.lt_trichotomy k o with z | z | z
        · omega
        · have := hji z
          omega
        · omega
      rw [pk_cpy_out hout, cpy_b]
      have := ih (q + 1) (by omega) (by omega)
      rw [show n - (q + 1) = m by omega] at this
      exact this
theorem sim_copy {Mc Mm : Mem} (h : Sim Mc Mm) (x1 : Int32) (x2 : Int32) (x3 : Int32) (x4 : Int32) (x5 : Int32) : ∃ (r : Int32) (Mc' : Mem) (Mm' : Mem), f_X11_copy Mc x1 x2 x3 x4 x5 = some (r, Mc') ∧ f_X12_copy NN Mm x1 x2 x3 x4 x5 = some (r, Mm') ∧ Sim Mc' Mm' := by
  unfold f_X11_copy f_X12_copy
  rw [nmd, nmd]
  have h := h.fault 0
  generalize up Mc 0 8 0 = Mc at h ⊢
  generalize up Mm 0 0 0 = Mm at h ⊢
  rcases sh_cs x1 with ⟨k, hk, rfl, e1, e2⟩ | ⟨e1, e2⟩
  · simp only [↓reduceIte, e1, e2, bnd, n10]
    rcases sh_cs x3 with ⟨o, ho, rfl, d1, d2⟩ | ⟨d1, d2⟩
    · simp only [↓reduceIte, d1, d2, bnd, n10, if_pos (inb4 hk), cl4 hk, if_pos (inb4 ho), cl4 ho, f_X6_isNothing, f_X11_failed, f_X12_fails, nmd]
      rcases h.2.2.2.2 k hk with ⟨a1, a2⟩ | ⟨so, n, s1, s2, s3, s4, s5, s6, s7⟩
      · simp only [↓reduceIte, a1, a2, bnd, n10]
        exact ⟨_, _, _, rfl, rfl, h.fault 1⟩
      · have c1 : ¬ nI so = (-1) := ne1 (by omega)
        have c2 : ¬ nI so = (-9) := ne9 (by omega)
        simp only [↓reduceIte, s3, s4, c1, c2, bnd]
        rcases h.2.2.2.2 o ho with ⟨a1, a2⟩ | ⟨so', n', t1, t2, t3, t4, t5, t6, t7⟩
        · simp only [↓reduceIte, a1, a2, bnd, n10]
          exact ⟨_, _, _, rfl, rfl, h.fault 1⟩
        · have c3 : ¬ nI so' = (-1) := ne1 (by omega)
          have c4 : ¬ nI so' = (-9) := ne9 (by omega)
          simp only [↓reduceIte, t3, t4, c3, c4, bnd]
          by_cases c5 : nI so = nI so'
          · simp only [↓reduceIte, c5, f_X6_hasCells, s5, s6, t5, t6]
            have F : ∃ (r : Int32) (Mc' : Mem) (Mm' : Mem), some ((-10 : Int32) - 3, up Mc 0 8 3) = some (r, Mc') ∧ some ((-10 : Int32) - 3, up Mm 0 0 3) = some (r, Mm') ∧ Sim Mc' Mm' := ⟨_, _, _, rfl, rfl, h.fault 3⟩
            by_cases g1 : x5 < 0
            · simp only [↓reduceIte, g1, ite_self]; exact F
            by_cases g2 : x2 < 0
            · simp only [↓reduceIte, g1, g2, ite_self, bnd]; exact F
            by_cases g3 : nI n < x2
            · simp only [↓reduceIte, g1, g2, g3, ite_self, bnd]; exact F
            by_cases g4 : nI n - x2 < x5
            · simp only [↓reduceIte, g1, g2, g3, g4, ite_self, bnd]; exact F
            by_cases g5 : x4 < 0
            · simp only [↓reduceIte, g1, g2, g3, g4, g5, ite_self, bnd, n10]; exact F
            by_cases g6 : nI n' < x4
            · simp only [↓reduceIte, g1, g2, g3, g4, g5, g6, ite_self, bnd, n10]; exact F
            by_cases g7 : nI n' - x4 < x5
            · have g8 : ¬ x5 ≤ nI n' - x4 := fun z => by
                have z1 := Int32.lt_iff_toInt_lt.mp g7
                have z2 := Int32.le_iff_toInt_le.mp z
                omega
              simp only [↓reduceIte, g1, g2, g3, g4, g5, g6, g7, g8, ite_self, bnd, n10]; exact F
            obtain ⟨i, hi, rfl⟩ := nI_of2 (n := n) (nI_toInt (by omega)) g2 (nlt g3)
            obtain ⟨j, hj, rfl⟩ := nI_of2 (n := n') (nI_toInt (by omega)) g5 (nlt g6)
            rw [pk_sub hi] at g4
            have g8 : x5 ≤ nI n' - nI j := nlt g7
            rw [pk_sub hj] at g7
            obtain ⟨w, hw, rfl⟩ := nI_of2 (n := n - i) (nI_toInt (by omega)) g1 (nlt g4)
            have hw2 : w ≤ n' - j := by
              have z := nlt g7
              exact (nI_leI (by omega) (by omega)).mp z
            have k1 : (nI i).toNatClampNeg = i := nI_clamp (by omega)
            have k2 : (nI j).toNatClampNeg = j := nI_clamp (by omega)
            have k3 : (nI w).toNatClampNeg = w := nI_clamp (by omega)
            have g4' : ¬ nI n - nI i < nI w := by rw [pk_sub hi]; exact g4
            have g7' : ¬ nI n' - nI j < nI w := by rw [pk_sub hj]; exact g7
            simp only [↓reduceIte, g1, g2, g3, g4', g5, g6, g7', g8, bnd, n10, k1, k2, k3, if_pos (show (¬ False) ∧ (¬ False) ∧ (¬ False) ∧ i + w ≤ 80 ∧ j + w ≤ 80 from ⟨id, id, id, by omega, by omega⟩)]
            have key : Sim (upA Mc (13 + o) (va_cpy (Mc (13 + k)) (Mc (13 + o)) i j w)) (upA Mm 3 (va_cpy (Mm 3) (Mm 3) (80 * k + i) (80 * o + j) w)) := by
              refine h.sheet (fun p hp => upA_n _ _ (by omega)) (fun p hp => upA_n _ _ (by omega)) (fun b hb => ?_)
              by_cases e : b = o
              · subst e
                refine Or.inr ⟨so', n', t1, t2, ?_, t4, ?_, t6, fun p hp => ?_⟩
                · rw [upA_n _ _ (by omega)]; exact t3
                · rw [upA_n _ _ (by omega)]; exact t5
                · rw [upA_s, upA_s]
                  by_cases c : j ≤ p ∧ p < j + w
                  · rw [pk_cpy_in c.1 c.2, pk_cpy_in (by omega) (by omega), s7 _ (by omega)]
                    congr 1; omega
                  · rw [pk_cpy_out (by omega), pk_cpy_out (by omega)]; exact t7 p hp
              · have h1 := h.2.2.2.2 b hb
                unfold S1 at h1 ⊢
                rw [upA_n _ _ (show 9 + b ≠ 13 + o by omega), upA_n _ _ (show 13 + b ≠ 13 + o by omega), upA_n _ _ (show 1 ≠ 3 by decide), upA_n _ _ (show 2 ≠ 3 by decide), upA_s]
                rcases h1 with h1 | ⟨so2, n2, r1, r2, r3, r4, r5, r6, r7⟩
                · exact Or.inl h1
                · exact Or.inr ⟨so2, n2, r1, r2, r3, r4, r5, r6, fun p hp => by rw [pk_cpy_out (by omega)]; exact r7 p hp⟩
            by_cases dir : j ≤ i
            · have z := cp_f (N := NN) hk ho (i := i) (j := j) (n := w) (by omega) (by omega) (fun _ => dir) Mm (Mm 3) NN 0 (Nat.zero_le _) (show w - 0 < 1000 by omega)
              rw [cpy_0, upA_id] at z
              have z' : f_X12_copy_l166 NN (nI k) (nI i) (nI o) (nI j) (nI w) 0 NN Mm 0 = _ := z
              simp only [↓reduceIte, nI_le dir (show i < 2 ^ 31 by omega), z', nmd]
              exact ⟨_, _, _, rfl, rfl, key⟩
            · have z := cp_b (N := NN) hk ho (i := i) (j := j) (n := w) (by omega) (by omega) (fun _ => by omega) Mm (Mm 3) NN 0 (Nat.zero_le _) (show w - 0 < 1000 by omega)
              rw [cpy_0, upA_id] at z
              have z' : f_X12_copy_l166 NN (nI k) (nI i) (nI o) (nI j) (nI w) 1 NN Mm 0 = _ := z
              simp only [↓reduceIte, nI_ge (show i < j by omega) (show j < 2 ^ 31 by omega), z', nmd]
              exact ⟨_, _, _, rfl, rfl, key⟩
          · simp only [↓reduceIte, c5]
            exact ⟨_, _, _, rfl, rfl, h.fault 2⟩
    · rw [d1, d2]; exact ⟨_, _, _, rfl, rfl, h⟩
  · rw [e1, e2]; exact ⟨_, _, _, rfl, rfl, h⟩
