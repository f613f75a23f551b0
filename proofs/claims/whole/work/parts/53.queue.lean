/-- the queue: A in it, b of them done, of the next s sides -/
def BQ (M : Mem) (q : Nat → Nat → Nat) (a f l v A b s : Nat) (p κ : Nat → Nat) : Prop :=
  (∀ i, i < A → p i < q 0 0 * q 0 1 ∧ M 32 i = nI (p i) ∧ M 31 (p i) = nI (κ i) ∧ DB q a f l v (κ i) (p i)) ∧
  (∀ c, c < q 0 0 * q 0 1 → M 31 c = -9 ∨ ∃ i, i < A ∧ p i = c) ∧
  (∀ i j, i < j → j < A → p i ≠ p j) ∧
  (∀ i j, i ≤ j → j < A → κ i ≤ κ j) ∧
  (b < A → ∀ j, j < A → κ j ≤ κ b + 1) ∧
  (∀ i, i < b → ∀ d, d < q 0 0 * q 0 1 → eB q f l v (p i) d → ¬ M 31 d = -9) ∧
  (∀ t, t < s → ∀ d, nbo q (p b) t = some d → okT q (p b) d f l v → ¬ M 31 d = -9) ∧
  ¬ M 31 a = -9
theorem BQ_A {M : Mem} {q : Nat → Nat → Nat} {a f l v A b s : Nat} {p κ : Nat → Nat} (h : BQ M q a f l v A b s p κ) : A ≤ q 0 0 * q 0 1 := pig_inj (fun i hi => (h.1 i hi).1) h.2.2.1
theorem BQ_k {M : Mem} {q : Nat → Nat → Nat} (hb : Bd q) {a f l v A b s : Nat} {p κ : Nat → Nat} (h : BQ M q a f l v A b s p κ) {i : Nat} (hi : i < A) : κ i ≤ 30 := by
  have hn := hb.n30
  obtain ⟨h1, -, -, h4⟩ := h.1 i hi
  have := rD_le h4 (rW_st h1 h4.1)
  omega
/-- what is no farther than the one at hand is known -/
theorem BQ_in {M : Mem} {q : Nat → Nat → Nat} (hb : Bd q) {a f l v A b s : Nat} {p κ : Nat → Nat} (h : BQ M q a f l v A b s p κ) (hbA : b ≤ A) (T : Nat) (hT : ∀ i, i < A → κ i < T → i < b) : ∀ k c, k ≤ T → c < q 0 0 * q 0 1 → WB q a f l v k c → ¬ M 31 c = -9 := by
  obtain ⟨h1, h2, h3, h4, h5, h6, h7, h8⟩ := h
  intro k
  induction k with
  | zero =>
    intro c _ hc z
    have z' : c = a := z
    subst z'; exact h8
  | succ k ih =>
    intro c hk hc z
    rcases z with z | ⟨d, hd, he, z⟩
    · exact ih c (by omega) hc z
    · rcases h2 d hd with w | ⟨i, hi, w⟩
      · exact absurd w (ih d (by omega) hd z)
      · obtain ⟨-, -, -, y⟩ := h1 i hi
        rw [w] at y
        have := rD_le y z
        exact h6 i (hT i hi (by omega)) c hc (by rw [w]; exact eB_sym hb hc he)
theorem BQ_add {M : Mem} {q : Nat → Nat → Nat} (hb : Bd q) {a f l v A b s d : Nat} {p κ : Nat → Nat} (h : BQ M q a f l v A b s p κ) (hbA : b < A) (hs : s < 4) (hn : nbo q (p b) s = some d) (ho : okT q (p b) d f l v) (h9 : M 31 d = -9) : BQ (up (up M 31 d (nI (κ b + 1))) 32 A (nI d)) q a f l v (A + 1) b (s + 1) (nU p A d) (nU κ A (κ b + 1)) := by
  have hk := BQ_k hb h hbA
  have hin := BQ_in hb h (by omega) (κ b) (fun i hi hk => Nat.lt_of_not_le fun z => by have := h.2.2.2.1 b i z hi; omega)
  obtain ⟨h1, h2, h3, h4, h5, h6, h7, h8⟩ := h
  obtain ⟨b1, b2, b3, b4⟩ := h1 b hbA
  have hd := (nbo_rel hb b1 hs hn).1
  have ne : ∀ i, i < A → p i ≠ d := fun i hi z => by
    have := (h1 i hi).2.2.1
    have hki : κ i ≤ κ b + 1 := h5 hbA i hi
    rw [z, h9] at this
    exact ne9 (by omega) this.symm
  have nD : DB q a f l v (κ b + 1) d := ⟨Or.inr ⟨p b, b1, eB_sym hb b1 ⟨⟨s, hs, hn⟩, ho⟩, b4.1⟩, fun j hj z => hin j d (by omega) hd z h9⟩
  have m31 : ∀ c, c ≠ d → up (up M 31 d (nI (κ b + 1))) 32 A (nI d) 31 c = M 31 c := fun c z => by rw [up_n _ _ _ (by decide), up_sn _ _ _ z]
  have m31d : up (up M 31 d (nI (κ b + 1))) 32 A (nI d) 31 d = nI (κ b + 1) := by rw [up_n _ _ _ (by decide), up_ss]
  have n31 : ∀ c, ¬ M 31 c = -9 → ¬ up (up M 31 d (nI (κ b + 1))) 32 A (nI d) 31 c = -9 := fun c z => by
    by_cases w : c = d
    · subst w; exact absurd h9 z
    · rw [m31 c w]; exact z
  have n9 : ¬ nI (κ b + 1) = -9 := ne9 (by omega)
  have eb : nU p A d b = p b := nU_n _ _ (by omega)
  have ek : nU κ A (κ b + 1) b = κ b := nU_n _ _ (by omega)
  refine ⟨fun i hi => ?_, fun c hc => ?_, fun i j hij hj => ?_, fun i j hij hj => ?_, fun _ j hj => ?_, fun i hi d' hd' he => ?_, fun t ht d' hd' ho' => ?_, n31 a h8⟩
  · by_cases e : i = A
    · subst e
      rw [nU_s, nU_s, up_ss, m31d]
      exact ⟨hd, rfl, rfl, nD⟩
    · obtain ⟨g1, g2, g3, g4⟩ := h1 i (by omega)
      rw [nU_n _ _ e, nU_n _ _ e, up_sn _ _ _ e, m31 _ (ne i (by omega)), up_n _ _ _ (by decide)]
      exact ⟨g1, g2, g3, g4⟩
  · by_cases w : c = d
    · subst w; exact Or.inr ⟨A, by omega, nU_s _ _ _⟩
    · rw [m31 c w]
      rcases h2 c hc with g | ⟨i, g1, g2⟩
      · exact Or.inl g
      · exact Or.inr ⟨i, by omega, by rw [nU_n _ _ (by omega)]; exact g2⟩
  · rw [nU_n p d (show i ≠ A by omega)]
    by_cases e : j = A
    · subst e; rw [nU_s]; exact ne i hij
    · rw [nU_n _ _ e]; exact h3 i j hij (by omega)
  · by_cases e : j = A
    · subst e
      rw [nU_s]
      by_cases e2 : i = j
      · subst e2; rw [nU_s]; exact Nat.le_refl _
      · rw [nU_n _ _ e2]; exact h5 hbA i (by omega)
    · rw [nU_n _ _ e, nU_n _ _ (show i ≠ A by omega)]; exact h4 i j hij (by omega)
  · rw [ek]
    by_cases e : j = A
    · subst e; rw [nU_s]; exact Nat.le_refl _
    · rw [nU_n _ _ e]; exact h5 hbA j (by omega)
  · rw [nU_n p d (show i ≠ A by omega)] at he
    exact n31 d' (h6 i hi d' hd' he)
  · rw [eb] at hd' ho'
    by_cases e : t = s
    · subst e
      rw [hn] at hd'
      obtain rfl := Option.some.inj hd'
      rw [m31d]; exact n9
    · exact n31 d' (h7 t (by omega) d' hd' ho')
theorem BQ_s {M : Mem} {q : Nat → Nat → Nat} {a f l v A b s : Nat} {p κ : Nat → Nat} (h : BQ M q a f l v A b s p κ) (hs : ∀ d, nbo q (p b) s = some d → okT q (p b) d f l v → ¬ M 31 d = -9) : BQ M q a f l v A b (s + 1) p κ := by
  obtain ⟨h1, h2, h3, h4, h5, h6, h7, h8⟩ := h
  refine ⟨h1, h2, h3, h4, h5, h6, fun t ht d g1 g2 => ?_, h8⟩
  by_cases e : t = s
  · subst e; exact hs d g1 g2
  · exact h7 t (by omega) d g1 g2
theorem BQ_b {M : Mem} {q : Nat → Nat → Nat} {a f l v A b : Nat} {p κ : Nat → Nat} (h : BQ M q a f l v A b 4 p κ) (hbA : b < A) : BQ M q a f l v A (b + 1) 0 p κ := by
  obtain ⟨h1, h2, h3, h4, h5, h6, h7, h8⟩ := h
  refine ⟨h1, h2, h3, h4, fun g j hj => ?_, fun i hi d hd he => ?_, fun t ht => absurd ht (by omega), h8⟩
  · have g1 := h5 hbA j hj
    have g2 := h4 b (b + 1) (by omega) g
    omega
  · by_cases e : i = b
    · subst e
      obtain ⟨⟨s, hs, w⟩, z⟩ := he
      exact h7 s hs d w z
    · exact h6 i (by omega) d hd he
theorem SR_x {M : Mem} {q : Nat → Nat → Nat} {f j r i : Nat} {x : Int32} (h : SR M q f j) (h1 : r ≠ 29) (h2 : r ≠ 30) : SR (up M r i x) q f j := fun c hc => by
  rw [up_n _ _ _ (Ne.symm h1), up_n _ _ _ (Ne.symm h2)]
  exact h c hc
theorem bq_s {q : Nat → Nat → Nat} (hb : Bd q) {a f l v b c : Nat} (hf : f ≤ l) (hl : l < 12) (hv : v ≤ 999) (hcn : c < q 0 0 * q 0 1) (kc : Mem → Int32 → Option Mem) (N : Nat) : ∀ k s A : Nat, ∀ M : Mem, ∀ p κ : Nat → Nat, s ≤ 4 → 4 - s < k → b < A → p b = c → PC M q → SR M q f (l + 1 - f) → BQ M q a f l v A b s p κ → ∃ M' A' p' κ', f_X10_countStepsTo_l71 kc N (nI v) (nI c) k M (nI A) (nI s) = kc M' (nI A') ∧ AgC M M' ∧ SR M' q f (l + 1 - f) ∧ A' ≤ q 0 0 * q 0 1 ∧ b + 1 ≤ A' ∧ BQ M' q a f l v A' (b + 1) 0 p' κ' := by
  have hn := hb.n30
  intro k
  induction k with
  | zero => intro s A M p κ _ h; omega
  | succ k ih =>
    intro s A M p κ h1 h2 hbA hpb hc hS hQ
    have hA := BQ_A hQ
    have hk := BQ_k hb hQ hbA
    rw [f_X10_countStepsTo_l71]
    by_cases e : s = 4
    · subst e
      rw [if_pos (by decide)]
      exact ⟨M, A, p, κ, rfl, AgC.rf, hS, hA, hbA, BQ_b hQ hbA⟩
    · have e1 : ¬ (4 : Int32) ≤ nI s := nI_ge (a := s) (b := 4) (by omega) (by omega)
      have h4 : s < 4 := by omega
      simp only [↓reduceIte, e1, nb_c hb hc hcn h4, bnd, nI1]
      cases en : nbo q c s with
      | none =>
        simp only [oI, ↓reduceIte]
        exact ih (s + 1) A M p κ (by omega) (by omega) hbA hpb hc hS (BQ_s hQ fun d z => by rw [hpb, en] at z; cases z)
      | some d =>
        have hd := (nbo_rel hb hcn h4 en).1
        have sa := sa_c hb hS hcn h4 en
        have l5 := mD_le hb hcn hd (f := f) (l + 1 - f) (by omega)
        simp only [oI, ↓reduceIte, ne9 (show d < 2147483648 by omega), if_pos (inbT (show d < 30 by omega) (by decide)), nI_clamp (show d < 2 ^ 31 by omega), sa, bnd]
        by_cases w : M 31 d = -9
        · rw [if_pos w]
          by_cases w2 : v < mD q c d f (l + 1 - f)
          · rw [if_pos (nI_lt w2 (by omega))]
            exact ih (s + 1) A M p κ (by omega) (by omega) hbA hpb hc hS (BQ_s hQ fun d' z y => by
              rw [hpb, en] at z
              obtain rfl := Option.some.inj z
              rw [hpb] at y
              have := (mD_ok q c d v hf).mpr y
              omega)
          · rw [if_neg (nI_nlt (by omega) (by omega))]
            have ok := (mD_ok q c d v hf).mp (by omega)
            have m31 : M 31 c = nI (κ b) := by rw [← hpb]; exact (hQ.1 b hbA).2.2.1
            have hQ2 := BQ_add hb hQ hbA h4 (by rw [hpb]; exact en) (by rw [hpb]; exact ok) w
            have hA2 := BQ_A hQ2
            simp only [if_pos (inbT (show c < 30 by omega) (by decide)), nI_clamp (show c < 2 ^ 31 by omega), m31, nI1, nmd, if_pos (inbT (show A < 30 by omega) (by decide)), nI_clamp (show A < 2 ^ 31 by omega)]
            obtain ⟨M', A', p', κ', r1, r2, r3, r4, r5, r6⟩ := ih (s + 1) (A + 1) (up (up M 31 d (nI (κ b + 1))) 32 A (nI d)) (nU p A d) (nU κ A (κ b + 1)) (by omega) (by omega) (by omega) (by rw [nU_n _ _ (by omega)]; exact hpb) ((hc.ag (u_ag (by omega))).ag (u_ag (by omega))) (SR_x (SR_x hS (by decide) (by decide)) (by decide) (by decide)) hQ2
            exact ⟨M', A', p', κ', r1, (u_ag (by omega)).tr ((u_ag (by omega)).tr r2), r3, r4, r5, r6⟩
        · rw [if_neg w]
          exact ih (s + 1) A M p κ (by omega) (by omega) hbA hpb hc hS (BQ_s hQ fun d' z _ => by
            rw [hpb, en] at z
            obtain rfl := Option.some.inj z
            exact w)
theorem bq_q {q : Nat → Nat → Nat} (hb : Bd q) {a f l v : Nat} (hf : f ≤ l) (hl : l < 12) (hv : v ≤ 999) : ∀ k b A : Nat, ∀ M : Mem, ∀ p κ : Nat → Nat, 31 - b < k → b ≤ A → A ≤ q 0 0 * q 0 1 → PC M q → SR M q f (l + 1 - f) → BQ M q a f l v A b 0 p κ → ∃ M', f_X10_countStepsTo_l46 NN (nI v) k M (nI A) (nI b) = some M' ∧ AgC M M' ∧ SR M' q f (l + 1 - f) ∧ DV M' 31 (-9) q a f l v := by
  have hn := hb.n30
  intro k
  induction k with
  | zero => intro b A M p κ h; omega
  | succ k ih =>
    intro b A M p κ h1 hbA hA hc hS hQ
    rw [f_X10_countStepsTo_l46]
    by_cases e : b = A
    · subst e
      rw [if_pos (Int32.le_refl _)]
      refine ⟨M, rfl, AgC.rf, hS, fun c hcn => ?_⟩
      rcases hQ.2.1 c hcn with g | ⟨i, g1, g2⟩
      · exact Or.inr ⟨fun j z => BQ_in hb hQ (Nat.le_refl _) j (fun i hi _ => hi) j c (Nat.le_refl _) hcn z g, g⟩
      · obtain ⟨-, -, y3, y4⟩ := hQ.1 i g1
        subst g2
        exact Or.inl ⟨κ i, BQ_k hb hQ g1, y4, y3⟩
    · have hb2 : b < A := by omega
      have e1 : ¬ nI A ≤ nI b := nI_ge hb2 (by omega)
      have e30 : ¬ (30 : Int32) ≤ nI b := nI_ge (a := b) (b := 30) (by omega) (by omega)
      obtain ⟨y1, y2, y3, y4⟩ := hQ.1 b hb2
      simp only [↓reduceIte, e1, e30, if_pos (inbT (show b < 30 by omega) (by decide)), nI_clamp (show b < 2 ^ 31 by omega), y2, nmx]
      obtain ⟨M1, A1, p1, κ1, r1, r2, r3, r4, r5, r6⟩ := bq_s hb (b := b) (c := p b) hf hl hv y1 (fun M22 y3_22 => f_X10_countStepsTo_l46 NN (nI v) k M22 y3_22 (nI b + 1)) NN NN 0 A M p κ (by decide) (by decide) hb2 rfl hc hS hQ
      have r1' : f_X10_countStepsTo_l71 (fun M22 y3_22 => f_X10_countStepsTo_l46 NN (nI v) k M22 y3_22 (nI b + 1)) NN (nI v) (nI (p b)) NN M (nI A) 0 = f_X10_countStepsTo_l46 NN (nI v) k M1 (nI A1) (nI b + 1) := r1
      rw [r1', nI1]
      obtain ⟨M2, s1, s2, s3, s4⟩ := ih (b + 1) A1 M1 p1 κ1 (by omega) r5 r4 (hc.ag r2) r3 r6
      exact ⟨M2, s1, r2.tr s2, s3, s4⟩
theorem bq_i {q : Nat → Nat → Nat} (hb : Bd q) {a f l v : Nat} (ha : a < q 0 0 * q 0 1) (hf : f ≤ l) (hl : l < 12) (hv : v ≤ 999) : ∀ k i : Nat, ∀ M : Mem, i ≤ q 0 0 * q 0 1 → q 0 0 * q 0 1 - i < k → PC M q → SR M q f (l + 1 - f) → (∀ c, c < i → M 31 c = -9) → ∃ M', f_X10_countStepsTo_l2 NN (nI a) (nI v) k M (nI i) = some M' ∧ AgC M M' ∧ SR M' q f (l + 1 - f) ∧ DV M' 31 (-9) q a f l v := by
  have hn := hb.n30
  intro k
  induction k with
  | zero => intro i M _ h; omega
  | succ k ih =>
    intro i M h1 h2 hc hS hV
    rw [f_X10_countStepsTo_l2, st_c hc, bnd]
    by_cases e : i = q 0 0 * q 0 1
    · rw [if_pos (by rw [e]; exact Int32.le_refl _)]
      have i0 : inb 0 30 := inbT (i := 0) (by decide) (by decide)
      simp only [if_pos (inbT (show a < 30 by omega) (by decide)), nI_clamp (show a < 2 ^ 31 by omega), nmx, if_pos i0]
      have hQ : BQ (up (up M 31 a (nI 0)) 32 0 (nI a)) q a f l v 1 0 0 (fun _ => a) (fun _ => 0) := by
        have m31 : up (up M 31 a (nI 0)) 32 0 (nI a) 31 a = nI 0 := by rw [up_n _ _ _ (by decide), up_ss]
        refine ⟨fun i hi => ?_, fun c hcn => ?_, fun i j g1 g2 => by omega, fun _ _ _ _ => Nat.le_refl _, fun _ _ _ => Nat.zero_le _, fun i g => absurd g (by omega), fun t g => absurd g (by omega), ?_⟩
        · obtain rfl : i = 0 := by omega
          exact ⟨ha, up_ss _ _ _ _, m31, rfl, fun j hj => absurd hj (Nat.not_lt_zero j)⟩
        · by_cases w : c = a
          · subst w; exact Or.inr ⟨0, by decide, rfl⟩
          · left
            rw [up_n _ _ _ (by decide), up_sn _ _ _ w]
            exact hV c (by omega)
        · rw [m31]; exact ne9 (by decide)
      obtain ⟨M', r1, r2, r3, r4⟩ := bq_q hb hf hl hv NN 0 1 (up (up M 31 a (nI 0)) 32 0 (nI a)) _ _ (by decide) (by decide) (by omega) ((hc.ag (u_ag (by omega))).ag (u_ag (by omega))) (SR_x (SR_x hS (by decide) (by decide)) (by decide) (by decide)) hQ
      exact ⟨M', r1, (u_ag (by omega)).tr ((u_ag (by omega)).tr r2), r3, r4⟩
    · have hi : i < q 0 0 * q 0 1 := by omega
      have e1 : ¬ nI (q 0 0 * q 0 1) ≤ nI i := nI_ge hi (by omega)
      simp only [↓reduceIte, e1, if_pos (inbT (show i < 30 by omega) (by decide)), nI_clamp (show i < 2 ^ 31 by omega), nmd, nI1]
      obtain ⟨M', r1, r2, r3, r4⟩ := ih (i + 1) (up M 31 i (-9)) (by omega) (by omega) (hc.ag (u_ag (by omega))) (SR_x hS (by decide) (by decide)) (fun c hci => by
        by_cases w : c = i
        · subst w; rw [up_ss]
        · rw [up_sn _ _ _ w]; exact hV c (by omega))
      exact ⟨M', r1, (u_ag (by omega)).tr r2, r3, r4⟩
theorem bq_c {M : Mem} {q : Nat → Nat → Nat} (hb : Bd q) (hc : PC M q) {a f l v : Nat} (ha : a < q 0 0 * q 0 1) (hf : f ≤ l) (hl : l < 12) (hv : v ≤ 999) (hS : SR M q f (l + 1 - f)) : ∃ M', f_X10_countStepsTo NN M (nI a) (nI v) = some M' ∧ AgC M M' ∧ SR M' q f (l + 1 - f) ∧ DV M' 31 (-9) q a f l v := by
  have hn := hb.n30
  exact bq_i hb ha hf hl hv NN 0 M (Nat.zero_le _) (show _ < 1000 by omega) hc hS (fun c h => absurd h (by omega))
