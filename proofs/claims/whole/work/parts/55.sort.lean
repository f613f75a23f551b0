/-- a stone's rank -/
def KK (w : Nat → Nat) (c : Nat) : Nat := 32 * w c + c
def PR (p : Nat → Nat) (n : Nat) : Prop := (∀ i, i < n → p i < n) ∧ ∀ i j, i < j → j < n → p i ≠ p j
theorem PR_sur {p : Nat → Nat} {n : Nat} (h : PR p n) : ∀ c, c < n → ∃ i, i < n ∧ p i = c := by
  intro c hc
  apply Classical.byContradiction
  intro z
  have y := pig_inj (n := n) (a := n + 1) (p := nU p n c) (fun i hi => by
    by_cases e : i = n
    · subst e; rw [nU_s]; exact hc
    · rw [nU_n _ _ e]; exact h.1 i (by omega)) (fun i j hij hj => by
    rw [nU_n p c (show i ≠ n by omega)]
    by_cases e : j = n
    · subst e; rw [nU_s]; exact fun y => z ⟨i, hij, y⟩
    · rw [nU_n _ _ e]; exact h.2 i j hij (by omega))
  omega
theorem PR_ne {p : Nat → Nat} {n : Nat} (h : PR p n) {i j : Nat} (hi : i < n) (hj : j < n) (hne : i ≠ j) : p i ≠ p j := by
  rcases Nat.lt_or_ge i j with z | z
  · exact h.2 i j z hj
  · exact fun y => h.2 j i (by omega) hi y.symm
def sgm (j i : Nat) : Nat := if i = j + 1 then j else if i = j then j + 1 else i
theorem sgm_1 (j : Nat) : sgm j (j + 1) = j := if_pos rfl
theorem sgm_0 (j : Nat) : sgm j j = j + 1 := by unfold sgm; rw [if_neg (by omega), if_pos rfl]
theorem sgm_n {j i : Nat} (h1 : i ≠ j + 1) (h2 : i ≠ j) : sgm j i = i := by unfold sgm; rw [if_neg h1, if_neg h2]
theorem sgm_lt {j i n : Nat} (hj : j + 1 < n) (hi : i < n) : sgm j i < n := by
  unfold sgm
  split
  · omega
  · split <;> omega
theorem sgm_ne {j i i' : Nat} (h : i ≠ i') : sgm j i ≠ sgm j i' := by
  unfold sgm
  split
  · split
    · omega
    · split <;> omega
  · split
    · split
      · omega
      · split <;> omega
    · split
      · omega
      · split <;> omega
def swp (p : Nat → Nat) (j : Nat) : Nat → Nat := fun i => p (sgm j i)
theorem PR_sw {p : Nat → Nat} {n j : Nat} (h : PR p n) (hj : j + 1 < n) : PR (swp p j) n := ⟨fun i hi => h.1 _ (sgm_lt hj hi), fun i i' h1 h2 => PR_ne h (sgm_lt hj (by omega)) (sgm_lt hj h2) (sgm_ne (by omega))⟩
theorem m1I (j : Nat) : nI (j + 1) + (-1) = nI j := by
  rw [← Int32.sub_eq_add_neg, s1 (Nat.succ_pos j)]
  rfl
def SO (w p : Nat → Nat) (n : Nat) : Prop := ∀ a b, a < b → b < n → KK w (p a) ≤ KK w (p b)
theorem KK_le {w : Nat → Nat} {n c : Nat} (hn : n ≤ 30) (hw : ∀ c, c < n → w c ≤ 1001) (hc : c < n) : KK w c ≤ 40000 := by
  have := hw c hc
  unfold KK; omega
/-- one more put into the order -/
theorem si_l {n : Nat} (hn : n ≤ 30) {w : Nat → Nat} (hw : ∀ c, c < n → w c ≤ 1001) {i Z : Nat} (hi : i < n) (kc : Mem → Int32 → Option Mem) (N : Nat) : ∀ k j : Nat, ∀ M : Mem, ∀ p : Nat → Nat, j ≤ i → j < k → PR p n → (∀ a, a < n → a ≠ j → M 37 a = nI (KK w (p a))) → Z = KK w (p j) → (∀ a b, a < b → b ≤ i → a ≠ j → b ≠ j → KK w (p a) ≤ KK w (p b)) → (∀ b, j < b → b ≤ i → KK w (p j) ≤ KK w (p b)) → ∃ M' j' p', f_X2_putInOrder_l17 kc N (nI Z) k M (nI j) = kc M' (nI j') ∧ AgC M M' ∧ j' ≤ i ∧ PR p' n ∧ (∀ a, a < n → a ≠ j' → M' 37 a = nI (KK w (p' a))) ∧ Z = KK w (p' j') ∧ SO w p' (i + 1) := by
  intro k
  induction k with
  | zero => intro j M p _ h; omega
  | succ k ih =>
    intro j M p h1 h2 hP hM hZ hA hB
    rw [f_X2_putInOrder_l17]
    cases j with
    | zero =>
      rw [if_pos (by decide)]
      refine ⟨M, 0, p, rfl, AgC.rf, h1, hP, hM, hZ, fun a b g1 g2 => ?_⟩
      by_cases e : a = 0
      · subst e; exact hB b g1 (by omega)
      · exact hA a b g1 (by omega) e (by omega)
    | succ j =>
      have e0 : ¬ nI (j + 1) ≤ 0 := fun z => by have := (le0 (by omega)).mp z; omega
      have pj := hP.1 j (by omega)
      have kj := KK_le hn hw pj
      have kz := KK_le hn hw (hP.1 (j + 1) (by omega))
      have sj : nI (j + 1) - 1 = nI j := by rw [s1 (Nat.succ_pos j)]; rfl
      simp only [↓reduceIte, e0, sj, if_pos (inbT (show j < 30 by omega) (by decide)), if_pos (inbT (show j + 1 < 30 by omega) (by decide)), nI_clamp (show j < 2 ^ 31 by omega), nI_clamp (show j + 1 < 2 ^ 31 by omega), hM j (by omega) (by omega), nmd, m1I, nI_leI (show KK w (p j) < 2 ^ 31 by omega) (show Z < 2 ^ 31 by omega)]
      by_cases c1 : KK w (p j) ≤ Z
      · rw [if_pos c1]
        refine ⟨M, j + 1, p, rfl, AgC.rf, h1, hP, hM, hZ, fun a b g1 g2 => ?_⟩
        by_cases e : a = j + 1
        · subst e; exact hB b g1 (by omega)
        · by_cases e2 : b = j + 1
          · subst e2
            by_cases e3 : a = j
            · subst e3; omega
            · have := hA a j (by omega) (by omega) e (by omega)
              omega
          · exact hA a b g1 (by omega) e e2
      · rw [if_neg c1]
        have hP' := PR_sw hP (show j + 1 < n by omega)
        have q1 : swp p j (j + 1) = p j := by unfold swp; rw [sgm_1]
        have q0 : swp p j j = p (j + 1) := by unfold swp; rw [sgm_0]
        have qn : ∀ a, a ≠ j + 1 → a ≠ j → swp p j a = p a := fun a g1 g2 => by unfold swp; rw [sgm_n g1 g2]
        obtain ⟨M', j', p', r1, r2, r3⟩ := ih j (up M 37 (j + 1) (nI (KK w (p j)))) (swp p j) (by omega) (by omega) hP' (fun a ha hne => by
          by_cases e : a = j + 1
          · subst e; rw [up_ss, q1]
          · rw [up_sn _ _ _ e, qn a e hne]; exact hM a ha e) (by rw [q0]; exact hZ) (fun a b g1 g2 g3 g4 => by
          by_cases e : b = j + 1
          · subst e
            rw [q1, qn a (by omega) g3]
            exact hA a j (by omega) (by omega) (by omega) (by omega)
          · by_cases e2 : a = j + 1
            · subst e2
              rw [q1, qn b e g4]
              exact hA j b (by omega) g2 (by omega) e
            · rw [qn a e2 g3, qn b e g4]
              exact hA a b g1 g2 e2 e) (fun b g1 g2 => by
          rw [q0]
          by_cases e : b = j + 1
          · subst e; rw [q1]; omega
          · rw [qn b e (by omega)]
            exact hB b (by omega) g2)
        exact ⟨M', j', p', r1, (u_ag (by omega)).tr r2, r3⟩
def KM (M : Mem) (w p : Nat → Nat) (n : Nat) : Prop := ∀ a, a < n → M 37 a = nI (KK w (p a))
theorem so_l {n : Nat} (hn : n ≤ 30) {w : Nat → Nat} (hw : ∀ c, c < n → w c ≤ 1001) : ∀ k i : Nat, ∀ M : Mem, ∀ p : Nat → Nat, 1 ≤ i → i ≤ n → n - i < k → PR p n → KM M w p n → SO w p i → ∃ M' p', f_X2_putInOrder_l2 NN (nI n) k M (nI i) = some M' ∧ AgC M M' ∧ PR p' n ∧ KM M' w p' n ∧ SO w p' n := by
  intro k
  induction k with
  | zero => intro i M p _ _ h; omega
  | succ k ih =>
    intro i M p h0 h1 h2 hP hM hS
    rw [f_X2_putInOrder_l2]
    by_cases e : i = n
    · subst e
      rw [if_pos (Int32.le_refl _)]
      exact ⟨M, p, rfl, AgC.rf, hP, hM, hS⟩
    · have hi : i < n := by omega
      have e1 : ¬ nI n ≤ nI i := nI_ge hi (by omega)
      simp only [↓reduceIte, e1, if_pos (inbT (show i < 30 by omega) (by decide)), nI_clamp (show i < 2 ^ 31 by omega), hM i hi, nmx]
      obtain ⟨M1, j, p1, r1, r2, r3, r4, r5, r6, r7⟩ := si_l hn hw (Z := KK w (p i)) hi (fun M9 y4_9 => if inb y4_9 30 then f_X2_putInOrder_l2 NN (nI n) k (up M9 37 y4_9.toNatClampNeg (nI (KK w (p i)))) (nI i + 1) else none) NN NN i M p (Nat.le_refl _) (show _ < 1000 by omega) hP (fun a ha _ => hM a ha) rfl (fun a b g1 g2 g3 g4 => hS a b g1 (by omega)) (fun b g1 g2 => by omega)
      rw [r1, if_pos (inbT (show j < 30 by omega) (by decide)), nI_clamp (show j < 2 ^ 31 by omega), nI1]
      obtain ⟨M2, p2, s1, s2, s3⟩ := ih (i + 1) (up M1 37 j (nI (KK w (p i)))) p1 (by omega) (by omega) (by omega) r4 (fun a ha => by
        by_cases e : a = j
        · subst e; rw [up_ss, r6]
        · rw [up_sn _ _ _ e]; exact r5 a ha e) r7
      exact ⟨M2, p2, s1, r2.tr ((u_ag (by omega)).tr s2), s3⟩
/-- the first t lifted -/
def lf (w p : Nat → Nat) : Nat → Nat → Nat
  | 0 => w
  | t + 1 => nU (lf w p t) (p t) (w (p t) + 1)
theorem lf_out {w p : Nat → Nat} {c : Nat} : ∀ t, (∀ a, a < t → p a ≠ c) → lf w p t c = w c
  | 0, _ => rfl
  | t + 1, h => by
    unfold lf
    rw [nU_n _ _ (Ne.symm (h t (by omega)))]
    exact lf_out t (fun a ha => h a (by omega))
theorem lf_in {w p : Nat → Nat} {n : Nat} (hP : PR p n) : ∀ t a, t ≤ n → a < t → lf w p t (p a) = w (p a) + 1
  | 0, a, _, h => absurd h (by omega)
  | t + 1, a, ht, h => by
    unfold lf
    by_cases e : a = t
    · subst e; rw [nU_s]
    · rw [nU_n _ _ (PR_ne hP (by omega) (by omega) e)]
      exact lf_in hP t a (by omega) (by omega)
theorem lf_le {w p : Nat → Nat} {n B : Nat} (hP : PR p n) (hw : ∀ c, c < n → w c ≤ B) {t : Nat} (ht : t ≤ n) : ∀ c, c < n → lf w p t c ≤ B + 1 := fun c hc => by
  obtain ⟨i, hi, rfl⟩ := PR_sur hP c hc
  have := hw _ hc
  by_cases e : i < t
  · rw [lf_in hP t i ht e]; omega
  · rw [lf_out t (fun a ha => PR_ne hP (by omega) hi (by omega))]; omega
theorem lf_KK {w p : Nat → Nat} {n t a : Nat} (hP : PR p n) (ht : t ≤ n) (ha : a < n) : KK (lf w p t) (p a) = KK w (p a) + (if a < t then 32 else 0) := by
  unfold KK
  by_cases e : a < t
  · rw [lf_in hP t a ht e, if_pos e]; omega
  · rw [lf_out t (fun b hb => PR_ne hP (by omega) ha (by omega)), if_neg e]; omega
theorem nt_l {n T : Nat} (hn : n ≤ 30) (hT : T ≤ n) {w p : Nat → Nat} (kc : Mem → Option (Int32 × Mem)) (N : Nat) : ∀ k i : Nat, ∀ M : Mem, i ≤ T → T - i < k → (∀ a, a < n → M 37 a = nI (KK w (p a) + (if a < i then 32 else 0))) → ∃ M', f_X2_nightsTill_l105 kc N (nI T) k M (nI i) = kc M' ∧ AgC M M' ∧ ∀ a, a < n → M' 37 a = nI (KK w (p a) + (if a < T then 32 else 0)) := by
  intro k
  induction k with
  | zero => intro i M _ h; omega
  | succ k ih =>
    intro i M h1 h2 hM
    rw [f_X2_nightsTill_l105]
    by_cases e : i = T
    · subst e
      rw [if_pos (Int32.le_refl _)]
      exact ⟨M, rfl, AgC.rf, hM⟩
    · have e1 : ¬ nI T ≤ nI i := nI_ge (by omega) (by omega)
      have y := hM i (by omega)
      rw [if_neg (by omega), Nat.add_zero] at y
      have y2 : nI (KK w (p i)) + 32 = nI (KK w (p i) + 32) := nI_add _ 32
      simp only [↓reduceIte, e1, if_pos (inbT (show i < 30 by omega) (by decide)), nI_clamp (show i < 2 ^ 31 by omega), y, y2, nmd, nI1]
      obtain ⟨M', r1, r2, r3⟩ := ih (i + 1) (up M 37 i (nI (KK w (p i) + 32))) (by omega) (by omega) (fun a ha => by
        by_cases e : a = i
        · subst e; rw [up_ss, if_pos (by omega)]
        · rw [up_sn _ _ _ e, hM a ha]
          by_cases e2 : a < i
          · rw [if_pos e2, if_pos (by omega)]
          · rw [if_neg e2, if_neg (by omega)])
      exact ⟨M', r1, (u_ag (by omega)).tr r2, r3⟩
