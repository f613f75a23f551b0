/-- as nmd, but no rfl law: the fuel stays shut -/
theorem nmx {α β : Type} (x : α) (k : α → β) : nm x k = k x := (And.intro rfl trivial : nm x k = k x ∧ True).1
theorem bigI : (1000000 : Int32) = nI 1000000 := by
  apply Int32.toInt_inj.mp
  rw [nI_toInt (by decide)]
  decide
def eL (q : Nat → Nat → Nat) (m t c d : Nat) : Prop := nb q c d ∧ dd q c d m ≤ t
def sL (a : Nat) (_t c : Nat) : Prop := c = a
theorem um_ag {M : Mem} {k j : Nat} {v : Int32} (h : 9 ≤ k ∧ k ≤ 14) : AgM M (up M k j v) := ⟨fun c a b => up_n M j v (by omega), fun i _ => by rw [up_n M j v (by omega)]⟩
theorem V_up {M : Mem} {r n : Nat} {v : Nat → Nat} (h : ∀ c, c < n → M r c = nI (v c)) (i z : Nat) : ∀ c, c < n → up M r i (nI z) r c = nI (nU v i z c) := fun c hc => by
  by_cases e : c = i
  · subst e; rw [up_ss, nU_s]
  · rw [up_sn _ _ _ e, nU_n _ _ e]; exact h c hc
theorem nU_le {v : Nat → Nat} {n i z B : Nat} (h : ∀ c, c < n → v c ≤ B) (hz : z ≤ B) : ∀ c, c < n → nU v i z c ≤ B := fun c hc => by
  by_cases e : c = i
  · subst e; rw [nU_s]; exact hz
  · rw [nU_n _ _ e]; exact h c hc
/-- sides told or neighbours told -/
theorem sd_nb {q : Nat → Nat → Nat} (hb : Bd q) {c : Nat} (hc : c < q 0 0 * q 0 1) {P : Nat → Prop} : (∃ i, 0 ≤ i ∧ i < 4 ∧ ∃ d, nbo q c i = some d ∧ P d) ↔ ∃ d, d < q 0 0 * q 0 1 ∧ nb q c d ∧ P d := by
  constructor
  · rintro ⟨i, -, h4, d, h, p⟩; exact ⟨d, (nbo_rel hb hc h4 h).1, ⟨i, h4, h⟩, p⟩
  · rintro ⟨d, -, ⟨i, h4, h⟩, p⟩; exact ⟨i, Nat.zero_le _, h4, d, h, p⟩
theorem lb_l {M : Mem} {q : Nat → Nat → Nat} (hb : Bd q) (hp : PC M q) {m : Nat} (hm : m < 12) (hS : SR M q m 1) {v : Nat → Nat} (hV : ∀ c, c < q 0 0 * q 0 1 → M 31 c = nI (v c)) (hv : ∀ c, c < q 0 0 * q 0 1 → v c ≤ 2147483647) {c : Nat} (hc : c < q 0 0 * q 0 1) (N : Nat) : ∀ k s z : Nat, s ≤ 4 → 4 - s < k → z ≤ 2147483647 → ∃ z', f_X10_leastByNeighbours_l9 N M (nI c) k (nI z) (nI s) = some (nI z') ∧ z' ≤ z ∧ ∀ t, z' ≤ t ↔ z ≤ t ∨ ∃ i, s ≤ i ∧ i < 4 ∧ ∃ d, nbo q c i = some d ∧ dd q c d m ≤ t ∧ v d ≤ t := by
  have hn := hb.n30
  intro k
  induction k with
  | zero => intro s z _ h; omega
  | succ k ih =>
    intro s z h1 h2 hz
    rw [f_X10_leastByNeighbours_l9]
    by_cases e : s = 4
    · subst e
      rw [if_pos (by decide)]
      refine ⟨z, rfl, Nat.le_refl _, fun t => ⟨Or.inl, fun y => ?_⟩⟩
      rcases y with y | ⟨i, a, b, _⟩
      · exact y
      · omega
    · have e1 : ¬ (4 : Int32) ≤ nI s := nI_ge (a := s) (b := 4) (by omega) (by omega)
      have h4 : s < 4 := by omega
      simp only [↓reduceIte, e1, nb_c hb hp hc h4, bnd, nI1]
      cases en : nbo q c s with
      | none =>
        simp only [oI, ↓reduceIte]
        obtain ⟨z', r1, r2, r3⟩ := ih (s + 1) z (by omega) (by omega) hz
        refine ⟨z', r1, r2, fun t => ?_⟩
        rw [r3, sd_s h4]
        constructor
        · rintro (y | y)
          · exact Or.inl y
          · exact Or.inr (Or.inr y)
        · rintro (y | ⟨d, y, _⟩ | y)
          · exact Or.inl y
          · rw [en] at y; cases y
          · exact Or.inr y
      | some d =>
        have hd := (nbo_rel hb hc h4 en).1
        have l1 := dd_le hb hc hd hm
        have l2 := hv d hd
        have sa := sa_c hb hS hc h4 en
        rw [mD_1] at sa
        simp only [oI, ↓reduceIte, ne9 (show d < 2147483648 by omega), if_pos (inbT (show d < 30 by omega) (by decide)), nI_clamp (show d < 2 ^ 31 by omega), sa, bnd, hV d hd, nmd, mxI (show v d < 2147483648 by omega) (show dd q c d m < 2147483648 by omega), mnI (show z < 2147483648 by omega) (show max (v d) (dd q c d m) < 2147483648 by omega)]
        obtain ⟨z', r1, r2, r3⟩ := ih (s + 1) (min z (max (v d) (dd q c d m))) (by omega) (by omega) (by omega)
        refine ⟨z', r1, by omega, fun t => ?_⟩
        rw [r3, sd_s h4]
        constructor
        · rintro (y | y)
          · by_cases w : z ≤ t
            · exact Or.inl w
            · exact Or.inr (Or.inl ⟨d, en, by omega, by omega⟩)
          · exact Or.inr (Or.inr y)
        · rintro (y | ⟨d', y, w1, w2⟩ | y)
          · exact Or.inl (by omega)
          · rw [en] at y
            obtain rfl := Option.some.inj y
            exact Or.inl (by omega)
          · exact Or.inr y
theorem lb_c {M : Mem} {q : Nat → Nat → Nat} (hb : Bd q) (hp : PC M q) {m : Nat} (hm : m < 12) (hS : SR M q m 1) {v : Nat → Nat} (hV : ∀ c, c < q 0 0 * q 0 1 → M 31 c = nI (v c)) (hv : ∀ c, c < q 0 0 * q 0 1 → v c ≤ 2147483647) {c : Nat} (hc : c < q 0 0 * q 0 1) : ∃ z, f_X10_leastByNeighbours NN M (nI c) = some (nI z) ∧ rX (q 0 0 * q 0 1) (eL q m) v c z := by
  have hn := hb.n30
  unfold f_X10_leastByNeighbours
  simp only [if_pos (inbT (show c < 30 by omega) (by decide)), nI_clamp (show c < 2 ^ 31 by omega), hV c hc, nmd]
  obtain ⟨z', r1, r2, r3⟩ := lb_l hb hp hm hS hV hv hc NN NN 0 (v c) (by decide) (by decide) (hv c hc)
  refine ⟨z', r1, r2, fun t _ => ?_⟩
  rw [r3, sd_nb hb hc]
  constructor
  · rintro (y | ⟨d, a, b, c1, c2⟩)
    · exact Or.inl y
    · exact Or.inr ⟨d, a, ⟨b, c1⟩, c2⟩
  · rintro (y | ⟨d, a, ⟨b, c1⟩, c2⟩)
    · exact Or.inl y
    · exact Or.inr ⟨d, a, b, c1, c2⟩
theorem lp_c {q : Nat → Nat → Nat} (hb : Bd q) {m a p : Nat} (hm : m < 12) (kc : Mem → Int32 → Option (Int32 × Mem)) : ∀ k i x : Nat, ∀ M : Mem, ∀ v : Nat → Nat, i ≤ q 0 0 * q 0 1 → q 0 0 * q 0 1 - i < k → PC M q → SR M q m 1 → (∀ c, c < q 0 0 * q 0 1 → M 31 c = nI (v c)) → (∀ c, c < q 0 0 * q 0 1 → v c ≤ 2147483647) → (x = 0 ∨ x = 1) → rSt (q 0 0 * q 0 1) (sL a) (eL q m) v p i → (x = 0 → rFx (q 0 0 * q 0 1) (eL q m) v i) → ∃ M' v' x', f_X10_leastBetween_l55 kc NN k M (nI x) (nI i) = kc M' (nI x') ∧ AgC M M' ∧ SR M' q m 1 ∧ (∀ c, c < q 0 0 * q 0 1 → M' 31 c = nI (v' c)) ∧ (∀ c, c < q 0 0 * q 0 1 → v' c ≤ 2147483647) ∧ (x' = 0 ∨ x' = 1) ∧ rSt (q 0 0 * q 0 1) (sL a) (eL q m) v' p (q 0 0 * q 0 1) ∧ (x' = 0 → rFx (q 0 0 * q 0 1) (eL q m) v' (q 0 0 * q 0 1)) := by
  have hn := hb.n30
  intro k
  induction k with
  | zero => intro i x M v _ h; omega
  | succ k ih =>
    intro i x M v h1 h2 hc hS hV hv hx hst hfx
    rw [f_X10_leastBetween_l55, st_c hc, bnd]
    by_cases e : i = q 0 0 * q 0 1
    · rw [if_pos (by rw [e]; exact Int32.le_refl _)]
      rw [e] at hst hfx
      exact ⟨M, v, x, rfl, AgC.rf, hS, hV, hv, hx, hst, hfx⟩
    · have hi : i < q 0 0 * q 0 1 := by omega
      have e1 : ¬ nI (q 0 0 * q 0 1) ≤ nI i := nI_ge hi (by omega)
      obtain ⟨z, z1, z2⟩ := lb_c hb hc hm hS hV hv hi
      have lz := z2.1
      have lv := hv i hi
      have nx : ∀ x1 : Nat, (x1 = 0 ∨ x1 = 1) → (x1 = 0 → rFx (q 0 0 * q 0 1) (eL q m) (nU v i z) (i + 1)) → ∃ M' v' x', f_X10_leastBetween_l55 kc NN k (up M 31 i (nI z)) (nI x1) (nI (i + 1)) = kc M' (nI x') ∧ AgC M M' ∧ SR M' q m 1 ∧ (∀ c, c < q 0 0 * q 0 1 → M' 31 c = nI (v' c)) ∧ (∀ c, c < q 0 0 * q 0 1 → v' c ≤ 2147483647) ∧ (x' = 0 ∨ x' = 1) ∧ rSt (q 0 0 * q 0 1) (sL a) (eL q m) v' p (q 0 0 * q 0 1) ∧ (x' = 0 → rFx (q 0 0 * q 0 1) (eL q m) v' (q 0 0 * q 0 1)) := by
        intro x1 hx1 hf1
        obtain ⟨M', v', x', r1, r2, r3⟩ := ih (i + 1) x1 (up M 31 i (nI z)) (nU v i z) (by omega) (by omega) (hc.ag (u_ag (by omega))) (fun c hcn => by rw [up_n _ _ _ (by decide), up_n _ _ _ (by decide)]; exact hS c hcn) (V_up hV i z) (nU_le hv (by omega)) hx1 (rSt_1 hst hi z2) hf1
        exact ⟨M', v', x', r1, (u_ag (by omega)).tr r2, r3⟩
      simp only [↓reduceIte, e1, z1, bnd, if_pos (inbT (show i < 30 by omega) (by decide)), nI_clamp (show i < 2 ^ 31 by omega), nmd, hV i hi, nI1, nI_leI (show v i < 2 ^ 31 by omega) (show z < 2 ^ 31 by omega)]
      rcases hx with rfl | rfl
      · simp only [↓reduceIte, show nI 0 = 0 from rfl]
        by_cases w : v i ≤ z
        · rw [if_pos w]
          exact nx 0 (Or.inl rfl) (fun _ => by
            obtain ⟨y1, y2⟩ := rFx_1 (hfx rfl) z2 w
            rw [y1]; exact y2)
        · rw [if_neg w]
          exact nx 1 (Or.inr rfl) (fun z => absurd z (by decide))
      · simp only [↓reduceIte, show ¬ nI 1 = 0 by decide]
        exact nx 1 (Or.inr rfl) (fun z => absurd z (by decide))
theorem lq_c {q : Nat → Nat → Nat} (hb : Bd q) {m a b : Nat} (hm : m < 12) (hbn : b < q 0 0 * q 0 1) : ∀ k p x : Nat, ∀ M : Mem, ∀ v : Nat → Nat, p ≤ 30 → 30 - p < k → PC M q → SR M q m 1 → (∀ c, c < q 0 0 * q 0 1 → M 31 c = nI (v c)) → (∀ c, c < q 0 0 * q 0 1 → v c ≤ 2147483647) → (x = 0 ∨ x = 1) → rSt (q 0 0 * q 0 1) (sL a) (eL q m) v p 0 → (x = 0 → rFx (q 0 0 * q 0 1) (eL q m) v (q 0 0 * q 0 1)) → ∃ M' v', f_X10_leastBetween_l39 NN (nI b) k M (nI x) (nI p) = some (nI (v' b), M') ∧ AgC M M' ∧ rFn (q 0 0 * q 0 1) (sL a) (eL q m) v' := by
  have hn := hb.n30
  intro k
  induction k with
  | zero => intro p x M v _ h; omega
  | succ k ih =>
    intro p x M v h1 h2 hc hS hV hv hx hst hfx
    rw [f_X10_leastBetween_l39]
    simp only [if_pos (inbT (show b < 30 by omega) (by decide)), nI_clamp (show b < 2 ^ 31 by omega), hV b hbn]
    rcases hx with rfl | rfl
    · rw [if_pos (show nI 0 = 0 from rfl)]
      exact ⟨M, v, rfl, AgC.rf, rSt_f hst (hfx rfl)⟩
    · rw [if_neg (show ¬ nI 1 = 0 by decide)]
      by_cases e : p = 30
      · subst e
        rw [if_pos (by decide)]
        exact ⟨M, v, rfl, AgC.rf, rSt_e hst hn⟩
      · have e30 : ¬ (30 : Int32) ≤ nI p := nI_ge (a := p) (b := 30) (by omega) (by omega)
        rw [if_neg e30]
        obtain ⟨M1, v1, x1, r1, r2, r3, r4, r5, r6, r7, r8⟩ := lp_c hb (a := a) (p := p) hm (fun M19 y3_19 => f_X10_leastBetween_l39 NN (nI b) k M19 y3_19 (nI p + 1)) NN 0 0 M v (Nat.zero_le _) (show _ < 1000 by omega) hc hS hV hv (Or.inl rfl) hst (fun _ c t h => absurd h (by omega))
        have r1' : f_X10_leastBetween_l55 (fun M19 y3_19 => f_X10_leastBetween_l39 NN (nI b) k M19 y3_19 (nI p + 1)) NN NN M 0 0 = f_X10_leastBetween_l39 NN (nI b) k M1 (nI x1) (nI p + 1) := r1
        rw [r1', nI1]
        obtain ⟨M2, v2, s1, s2, s3⟩ := ih (p + 1) x1 M1 v1 (by omega) (by omega) (hc.ag r2) r3 r4 r5 r6 (rSt_0 r7) r8
        exact ⟨M2, v2, s1, r2.tr s2, s3⟩
theorem ls_0 {n a B : Nat} {e : Nat → Nat → Nat → Prop} (hB : 998 < B) : rSt n (sL a) e (nU (fun _ => B) a 0) 0 0 := by
  refine ⟨fun c t _ ht y => ⟨0, ?_⟩, fun c t _ ht y => ?_, fun c t h => absurd h (by omega)⟩
  · by_cases w : c = a
    · exact w
    · rw [nU_n _ _ w] at y; omega
  · have y' : c = a := y
    subst y'
    rw [nU_s]; exact Nat.zero_le _
theorem li_c {q : Nat → Nat → Nat} {B : Nat} (hI : (1000000 : Int32) = nI B) (hB : 998 < B) (hB2 : B ≤ 2147483647) (hb : Bd q) {m a b : Nat} (hm : m < 12) (ha : a < q 0 0 * q 0 1) (hbn : b < q 0 0 * q 0 1) : ∀ k i : Nat, ∀ M : Mem, i ≤ q 0 0 * q 0 1 → q 0 0 * q 0 1 - i < k → PC M q → SR M q m 1 → (∀ c, c < i → M 31 c = nI B) → ∃ M' v', f_X10_leastBetween_l2 NN (nI a) (nI b) k M (nI i) = some (nI (v' b), M') ∧ AgC M M' ∧ rFn (q 0 0 * q 0 1) (sL a) (eL q m) v' := by
  have hn := hb.n30
  intro k
  induction k with
  | zero => intro i M _ h; omega
  | succ k ih =>
    intro i M h1 h2 hc hS hV
    rw [f_X10_leastBetween_l2, st_c hc, bnd]
    by_cases e : i = q 0 0 * q 0 1
    · rw [if_pos (by rw [e]; exact Int32.le_refl _)]
      simp only [if_pos (inbT (show a < 30 by omega) (by decide)), nI_clamp (show a < 2 ^ 31 by omega), nmx]
      obtain ⟨M', v', r1, r2, r3⟩ := lq_c hb (a := a) hm hbn NN 0 1 (up M 31 a (nI 0)) (nU (fun _ => B) a 0) (by decide) (by decide) (hc.ag (u_ag (by omega))) (fun c hcn => by rw [up_n _ _ _ (by decide), up_n _ _ _ (by decide)]; exact hS c hcn) (V_up (fun c hcn => hV c (by omega)) a 0) (nU_le (fun _ _ => hB2) (Nat.zero_le _)) (Or.inr rfl) (ls_0 hB) (fun z => absurd z (by decide))
      exact ⟨M', v', by rw [show (0 : Int32) = nI 0 from rfl, show (1 : Int32) = nI 1 from rfl]; exact r1, (u_ag (by omega)).tr r2, r3⟩
    · have hi : i < q 0 0 * q 0 1 := by omega
      have e1 : ¬ nI (q 0 0 * q 0 1) ≤ nI i := nI_ge hi (by omega)
      simp only [↓reduceIte, e1, if_pos (inbT (show i < 30 by omega) (by decide)), nI_clamp (show i < 2 ^ 31 by omega), nmd, nI1, hI]
      obtain ⟨M', v', r1, r2, r3⟩ := ih (i + 1) (up M 31 i (nI B)) (by omega) (by omega) (hc.ag (u_ag (by omega))) (fun c hcn => by rw [up_n _ _ _ (by decide), up_n _ _ _ (by decide)]; exact hS c hcn) (fun c hci => by
        by_cases w : c = i
        · subst w; rw [up_ss]
        · rw [up_sn _ _ _ w]; exact hV c (by omega))
      exact ⟨M', v', r1, (u_ag (by omega)).tr r2, r3⟩
/-- the reference's side -/
theorem ml_s {q : Nat → Nat → Nat} (hb : Bd q) {m c : Nat} (hm : m < 12) (hc : c < q 0 0 * q 0 1) (kc : Mem → Option (Int32 × Mem)) (N : Nat) : ∀ k s : Nat, ∀ M : Mem, ∀ v : Nat → Nat, s ≤ 4 → 4 - s < k → PM M q → (∀ c, c < q 0 0 * q 0 1 → M 12 c = nI (v c)) → (∀ c, c < q 0 0 * q 0 1 → v c ≤ 999999) → ∃ M' z, f_X12_leastStep_l89 kc N (nI m) (nI c) k M (nI s) = kc M' ∧ AgM M M' ∧ (∀ d, d < q 0 0 * q 0 1 → M' 12 d = nI (nU v c z d)) ∧ z ≤ v c ∧ ∀ t, z ≤ t ↔ v c ≤ t ∨ ∃ i, s ≤ i ∧ i < 4 ∧ ∃ d, nbo q c i = some d ∧ dd q c d m ≤ t ∧ v d ≤ t := by
  have hn := hb.n30
  intro k
  induction k with
  | zero => intro s M v _ h; omega
  | succ k ih =>
    intro s M v h1 h2 hp hV hv
    rw [f_X12_leastStep_l89]
    by_cases e : s = 4
    · subst e
      rw [if_pos (by decide)]
      refine ⟨M, v c, rfl, AgM.rf, fun d hd => by rw [nU_id]; exact hV d hd, Nat.le_refl _, fun t => ⟨Or.inl, fun y => ?_⟩⟩
      rcases y with y | ⟨i, a, b, _⟩
      · exact y
      · omega
    · have e1 : ¬ (4 : Int32) ≤ nI s := nI_ge (a := s) (b := 4) (by omega) (by omega)
      have h4 : s < 4 := by omega
      simp only [↓reduceIte, e1, nb_m hb hp hc h4, bnd, nI1]
      cases en : nbo q c s with
      | none =>
        simp only [oI, ↓reduceIte]
        obtain ⟨M', z, r1, r2, r3, r4, r5⟩ := ih (s + 1) M v (by omega) (by omega) hp hV hv
        refine ⟨M', z, r1, r2, r3, r4, fun t => ?_⟩
        rw [r5, sd_s h4]
        constructor
        · rintro (y | y)
          · exact Or.inl y
          · exact Or.inr (Or.inr y)
        · rintro (y | ⟨d, y, _⟩ | y)
          · exact Or.inl y
          · rw [en] at y; cases y
          · exact Or.inr y
      | some d =>
        have hd := (nbo_rel hb hc h4 en).1
        have hdc := nbo_ne hb hc h4 en
        have l1 := dd_le hb hc hd hm
        have l2 := hv d hd
        have l3 := hv c hc
        have a1 := hN_le hb hc hm
        have a2 := hN_le hb hd hm
        have sz := sz_m (show hN q c m < 1000000 by omega) (show hN q d m < 1000000 by omega)
        rw [show hN q c m - hN q d m + (hN q d m - hN q c m) = dd q c d m from rfl] at sz
        simp only [oI, ↓reduceIte, ne9 (show d < 2147483648 by omega), hO_m hb hp hc hm, hO_m hb hp hd hm, bnd, sz, if_pos (inbT (show d < 30 by omega) (by decide)), if_pos (inbT (show c < 30 by omega) (by decide)), nI_clamp (show d < 2 ^ 31 by omega), nI_clamp (show c < 2 ^ 31 by omega), hV d hd, hV c hc, nmd, nI_leI (show v d < 2 ^ 31 by omega) (show dd q c d m < 2 ^ 31 by omega), nI_leI (show v c < 2 ^ 31 by omega) (show dd q c d m < 2 ^ 31 by omega), nI_leI (show v c < 2 ^ 31 by omega) (show v d < 2 ^ 31 by omega)]
        have nx : ∀ x : Nat, x = min (v c) (max (v d) (dd q c d m)) → ∃ M' z, f_X12_leastStep_l89 kc N (nI m) (nI c) k (up M 12 c (nI x)) (nI (s + 1)) = kc M' ∧ AgM M M' ∧ (∀ d, d < q 0 0 * q 0 1 → M' 12 d = nI (nU v c z d)) ∧ z ≤ v c ∧ ∀ t, z ≤ t ↔ v c ≤ t ∨ ∃ i, s ≤ i ∧ i < 4 ∧ ∃ d, nbo q c i = some d ∧ dd q c d m ≤ t ∧ v d ≤ t := by
          intro x hx
          obtain ⟨M', z, r1, r2, r3, r4, r5⟩ := ih (s + 1) (up M 12 c (nI x)) (nU v c x) (by omega) (by omega) (hp.ag (um_ag (by omega))) (V_up hV c x) (nU_le hv (by omega))
          rw [nU_s] at r4
          refine ⟨M', z, r1, (um_ag (by omega)).tr r2, fun d' hd' => ?_, by omega, fun t => ?_⟩
          · rw [r3 d' hd']
            by_cases w : d' = c
            · subst w; rw [nU_s, nU_s]
            · rw [nU_n _ _ w, nU_n _ _ w, nU_n _ _ w]
          · rw [r5, sd_s h4, nU_s]
            constructor
            · rintro (y | ⟨i, b1, b2, d', b3, b4, b5⟩)
              · by_cases w : v c ≤ t
                · exact Or.inl w
                · exact Or.inr (Or.inl ⟨d, en, by omega, by omega⟩)
              · rw [nU_n _ _ (nbo_ne hb hc b2 b3)] at b5
                exact Or.inr (Or.inr ⟨i, b1, b2, d', b3, b4, b5⟩)
            · rintro (y | ⟨d', y, w1, w2⟩ | ⟨i, b1, b2, d', b3, b4, b5⟩)
              · exact Or.inl (by omega)
              · rw [en] at y
                obtain rfl := Option.some.inj y
                exact Or.inl (by omega)
              · exact Or.inr ⟨i, b1, b2, d', b3, b4, by rw [nU_n _ _ (nbo_ne hb hc b2 b3)]; exact b5⟩
        by_cases w1 : v d ≤ dd q c d m
        · rw [if_pos w1]
          by_cases w2 : v c ≤ dd q c d m
          · rw [if_pos w2]; exact nx (v c) (by omega)
          · rw [if_neg w2]; exact nx (dd q c d m) (by omega)
        · rw [if_neg w1]
          by_cases w2 : v c ≤ v d
          · rw [if_pos w2]; exact nx (v c) (by omega)
          · rw [if_neg w2]; exact nx (v d) (by omega)
theorem ml_p {q : Nat → Nat → Nat} (hb : Bd q) {m a p : Nat} (hm : m < 12) (kc : Mem → Option (Int32 × Mem)) : ∀ k i : Nat, ∀ M : Mem, ∀ v : Nat → Nat, i ≤ q 0 0 * q 0 1 → q 0 0 * q 0 1 - i < k → PM M q → (∀ c, c < q 0 0 * q 0 1 → M 12 c = nI (v c)) → (∀ c, c < q 0 0 * q 0 1 → v c ≤ 999999) → rSt (q 0 0 * q 0 1) (sL a) (eL q m) v p i → ∃ M' v', f_X12_leastStep_l77 kc NN (nI m) k M (nI i) = kc M' ∧ AgM M M' ∧ (∀ c, c < q 0 0 * q 0 1 → M' 12 c = nI (v' c)) ∧ (∀ c, c < q 0 0 * q 0 1 → v' c ≤ 999999) ∧ rSt (q 0 0 * q 0 1) (sL a) (eL q m) v' p (q 0 0 * q 0 1) := by
  have hn := hb.n30
  intro k
  induction k with
  | zero => intro i M v _ h; omega
  | succ k ih =>
    intro i M v h1 h2 hp hV hv hst
    rw [f_X12_leastStep_l77, al_m hp, bnd]
    by_cases e : i = q 0 0 * q 0 1
    · rw [if_pos (by rw [e]; exact Int32.le_refl _)]
      rw [e] at hst
      exact ⟨M, v, rfl, AgM.rf, hV, hv, hst⟩
    · have hi : i < q 0 0 * q 0 1 := by omega
      have e1 : ¬ nI (q 0 0 * q 0 1) ≤ nI i := nI_ge hi (by omega)
      rw [if_neg e1]
      obtain ⟨M1, z, r1, r2, r3, r4, r5⟩ := ml_s hb hm hi (fun M31 => f_X12_leastStep_l77 kc NN (nI m) k M31 (nI i + 1)) NN NN 0 M v (by decide) (by decide) hp hV hv
      have r1' : f_X12_leastStep_l89 (fun M31 => f_X12_leastStep_l77 kc NN (nI m) k M31 (nI i + 1)) NN (nI m) (nI i) NN M 0 = f_X12_leastStep_l77 kc NN (nI m) k M1 (nI i + 1) := r1
      rw [r1', nI1]
      have x : rX (q 0 0 * q 0 1) (eL q m) v i z := ⟨r4, fun t _ => by
        rw [r5, sd_nb hb hi]
        constructor
        · rintro (y | ⟨d, a, b, c1, c2⟩)
          · exact Or.inl y
          · exact Or.inr ⟨d, a, ⟨b, c1⟩, c2⟩
        · rintro (y | ⟨d, a, ⟨b, c1⟩, c2⟩)
          · exact Or.inl y
          · exact Or.inr ⟨d, a, b, c1, c2⟩⟩
      obtain ⟨M2, v2, s1, s2, s3⟩ := ih (i + 1) M1 (nU v i z) (by omega) (by omega) (hp.ag r2) r3 (nU_le hv (Nat.le_trans r4 (hv i hi))) (rSt_1 hst hi x)
      exact ⟨M2, v2, s1, r2.tr s2, s3⟩
theorem ml_q {q : Nat → Nat → Nat} (hb : Bd q) {m a b : Nat} (hm : m < 12) (hbn : b < q 0 0 * q 0 1) : ∀ k p : Nat, ∀ M : Mem, ∀ v : Nat → Nat, p ≤ q 0 0 * q 0 1 → q 0 0 * q 0 1 - p < k → PM M q → (∀ c, c < q 0 0 * q 0 1 → M 12 c = nI (v c)) → (∀ c, c < q 0 0 * q 0 1 → v c ≤ 999999) → rSt (q 0 0 * q 0 1) (sL a) (eL q m) v p 0 → ∃ M' v', f_X12_leastStep_l65 NN (nI b) (nI m) k M (nI p) = some (nI (v' b), M') ∧ AgM M M' ∧ rFn (q 0 0 * q 0 1) (sL a) (eL q m) v' := by
  have hn := hb.n30
  intro k
  induction k with
  | zero => intro p M v _ h; omega
  | succ k ih =>
    intro p M v h1 h2 hp hV hv hst
    rw [f_X12_leastStep_l65, al_m hp, bnd]
    by_cases e : p = q 0 0 * q 0 1
    · rw [if_pos (by rw [e]; exact Int32.le_refl _)]
      simp only [if_pos (inbT (show b < 30 by omega) (by decide)), nI_clamp (show b < 2 ^ 31 by omega), hV b hbn]
      exact ⟨M, v, rfl, AgM.rf, rSt_e hst (by omega)⟩
    · have hi : p < q 0 0 * q 0 1 := by omega
      have e1 : ¬ nI (q 0 0 * q 0 1) ≤ nI p := nI_ge hi (by omega)
      rw [if_neg e1]
      obtain ⟨M1, v1, r1, r2, r3, r4, r5⟩ := ml_p hb (a := a) (p := p) hm (fun M32 => f_X12_leastStep_l65 NN (nI b) (nI m) k M32 (nI p + 1)) NN 0 M v (Nat.zero_le _) (show _ < 1000 by omega) hp hV hv hst
      have r1' : f_X12_leastStep_l77 (fun M32 => f_X12_leastStep_l65 NN (nI b) (nI m) k M32 (nI p + 1)) NN (nI m) NN M 0 = f_X12_leastStep_l65 NN (nI b) (nI m) k M1 (nI p + 1) := r1
      rw [r1', nI1]
      obtain ⟨M2, v2, s1, s2, s3⟩ := ih (p + 1) M1 v1 (by omega) (by omega) (hp.ag r2) r3 r4 (rSt_0 r5)
      exact ⟨M2, v2, s1, r2.tr s2, s3⟩
theorem ml_i {q : Nat → Nat → Nat} (hb : Bd q) {m a b : Nat} (hm : m < 12) (ha : a < q 0 0 * q 0 1) (hbn : b < q 0 0 * q 0 1) : ∀ k i : Nat, ∀ M : Mem, i ≤ q 0 0 * q 0 1 → q 0 0 * q 0 1 - i < k → PM M q → (∀ c, c < i → M 12 c = nI (nU (fun _ => 999999) a 0 c)) → ∃ M' v', f_X12_leastStep_l28 NN (nI b) (nI a) (nI m) k M (nI i) = some (nI (v' b), M') ∧ AgM M M' ∧ rFn (q 0 0 * q 0 1) (sL a) (eL q m) v' := by
  have hn := hb.n30
  intro k
  induction k with
  | zero => intro i M _ h; omega
  | succ k ih =>
    intro i M h1 h2 hp hV
    rw [f_X12_leastStep_l28, al_m hp, bnd]
    by_cases e : i = q 0 0 * q 0 1
    · rw [if_pos (by rw [e]; exact Int32.le_refl _)]
      exact ml_q hb (a := a) hm hbn NN 0 M (nU (fun _ => 999999) a 0) (Nat.zero_le _) (show _ < 1000 by omega) hp (fun c hcn => hV c (by omega)) (nU_le (fun _ _ => Nat.le_refl _) (by decide)) (ls_0 (by decide))
    · have hi : i < q 0 0 * q 0 1 := by omega
      have e1 : ¬ nI (q 0 0 * q 0 1) ≤ nI i := nI_ge hi (by omega)
      have nx : ∀ x : Nat, x = nU (fun _ => 999999) a 0 i → ∃ M' v', f_X12_leastStep_l28 NN (nI b) (nI a) (nI m) k (up M 12 i (nI x)) (nI (i + 1)) = some (nI (v' b), M') ∧ AgM M M' ∧ rFn (q 0 0 * q 0 1) (sL a) (eL q m) v' := by
        intro x hx
        obtain ⟨M', v', r1, r2, r3⟩ := ih (i + 1) (up M 12 i (nI x)) (by omega) (by omega) (hp.ag (um_ag (by omega))) (fun c hci => by
          by_cases w : c = i
          · subst w; rw [up_ss, hx]
          · rw [up_sn _ _ _ w]; exact hV c (by omega))
        exact ⟨M', v', r1, (um_ag (by omega)).tr r2, r3⟩
      simp only [↓reduceIte, e1, if_pos (inbT (show i < 30 by omega) (by decide)), nI_clamp (show i < 2 ^ 31 by omega), nmd, nI1, nI_eq (show i < 2 ^ 31 by omega) (show a < 2 ^ 31 by omega)]
      by_cases w : i = a
      · rw [if_pos w]; exact nx 0 (by rw [w, nU_s])
      · rw [if_neg w]; exact nx 999999 (by rw [nU_n _ _ w])
/-- all is reached -/
theorem nb_dn {q : Nat → Nat → Nat} (hb : Bd q) {c : Nat} (hc : c < q 0 0 * q 0 1) (h0 : 0 < c) : ∃ d, d < c ∧ nb q c d := by
  obtain ⟨h1, h2, h3, h4⟩ := hb.w0 hc
  by_cases e : c % q 0 1 = 0
  · have e2 : ¬ c / q 0 1 = 0 := fun z => by rw [z, e] at h4; omega
    have y : nbo q c 0 = some (c - q 0 1) := by
      unfold nbo
      simp only [↓reduceIte, e2]
    exact ⟨c - q 0 1, by omega, 0, by decide, y⟩
  · have y : nbo q c 1 = some (c - 1) := by
      unfold nbo
      simp only [↓reduceIte, e, show ¬ (1 : Nat) = 0 by decide]
    exact ⟨c - 1, by omega, 1, by decide, y⟩
theorem cn_L {q : Nat → Nat → Nat} (hb : Bd q) {m a : Nat} (hm : m < 12) (ha : a < q 0 0 * q 0 1) {c : Nat} (hc : c < q 0 0 * q 0 1) : ∃ j, rW (q 0 0 * q 0 1) (sL a 500) (eL q m 500) j c := by
  have dn : ∀ k d, d < k → d < q 0 0 * q 0 1 → (∃ j, rW (q 0 0 * q 0 1) (sL a 500) (eL q m 500) j d) → ∃ j, rW (q 0 0 * q 0 1) (sL a 500) (eL q m 500) j 0 := by
    intro k
    induction k with
    | zero => intro d h; omega
    | succ k ih =>
      intro d h1 h2 h3
      by_cases z : d = 0
      · subst z; exact h3
      · obtain ⟨d', y1, y2⟩ := nb_dn hb h2 (by omega)
        obtain ⟨j, w⟩ := h3
        exact ih d' (by omega) (by omega) ⟨j + 1, Or.inr ⟨d, h2, ⟨nb_sym hb h2 y2, dd_le hb (by omega) h2 hm⟩, w⟩⟩
  have upw : ∀ k d, d < k → d < q 0 0 * q 0 1 → ∃ j, rW (q 0 0 * q 0 1) (sL a 500) (eL q m 500) j d := by
    intro k
    induction k with
    | zero => intro d h; omega
    | succ k ih =>
      intro d h1 h2
      by_cases z : d = 0
      · subst z
        exact dn (a + 1) a (by omega) ha ⟨0, rfl⟩
      · obtain ⟨d', y1, y2⟩ := nb_dn hb h2 (by omega)
        obtain ⟨j, w⟩ := ih d' (by omega) (by omega)
        exact ⟨j + 1, Or.inr ⟨d', by omega, ⟨y2, dd_le hb h2 (by omega) hm⟩, w⟩⟩
  exact upw (c + 1) c (by omega) hc
theorem rW_pre {n : Nat} {e : Nat → Nat → Prop} {a a' t : Nat} (ha : a' < n) (he : e a a') : ∀ k b, rW n (sL a t) e k b → rW n (sL a' t) e (k + 1) b := by
  intro k
  induction k with
  | zero =>
    intro b h
    have h' : b = a := h
    subst h'
    exact Or.inr ⟨a', ha, he, rfl⟩
  | succ k ih =>
    intro b h
    rcases h with h | ⟨d, hd, h1, h⟩
    · exact Or.inl (ih b h)
    · exact Or.inr ⟨d, hd, h1, ih d h⟩
theorem rW_sym {n : Nat} {e : Nat → Nat → Prop} {t : Nat} (hs : ∀ c d, c < n → d < n → e c d → e d c) {a : Nat} (ha : a < n) : ∀ k b, b < n → rW n (sL a t) e k b → rW n (sL b t) e k a := by
  intro k
  induction k with
  | zero => intro b _ h; exact Eq.symm h
  | succ k ih =>
    intro b hb h
    rcases h with h | ⟨d, hd, h1, h⟩
    · exact Or.inl (ih b hb h)
    · exact rW_pre hb (hs b d hb hd h1) k a (ih d hd h)
theorem sim_leastStep {Mc Mm : Mem} (h : Sim Mc Mm) (x1 : Int32) (x2 : Int32) (x3 : Int32) : ∃ (r : Int32) (Mc' : Mem) (Mm' : Mem), f_X11_leastStep NN Mc x1 x2 x3 = some (r, Mc') ∧ f_X12_leastStep NN Mm x1 x2 x3 = some (r, Mm') ∧ Sim Mc' Mm' := by
  have hS := h
  obtain ⟨⟨q, hb, h9, hc, hm⟩, -⟩ := h
  have hn := hb.n30
  unfold f_X11_leastStep f_X12_leastStep
  rcases has_cs hb hc hm x1 with ⟨a, ha, rfl, e1, e2⟩ | ⟨e1, e2⟩
  · simp only [↓reduceIte, e1, e2, bnd, n10]
    rcases has_cs hb hc hm x2 with ⟨b, hbn, rfl, d1, d2⟩ | ⟨d1, d2⟩
    · simp only [↓reduceIte, d1, d2, bnd, n10]
      rcases mo_cs x3 with ⟨m, hm12, rfl, g1, g2⟩ | ⟨g1, g2⟩
      · simp only [↓reduceIte, g1, g2, bnd, n10]
        obtain ⟨M1, a1, a2, a3⟩ := me_c hb hc (Nat.le_refl m) hm12
        rw [show m + 1 - m = 1 by omega] at a3
        obtain ⟨M2, v, b1, b2, b3⟩ := li_c bigI (by decide) (by decide) hb hm12 ha hbn NN 0 M1 (Nat.zero_le _) (show _ < 1000 by omega) (hc.ag a2) a3 (fun c h => absurd h (by omega))
        have b1' : f_X10_leastBetween NN M1 (nI a) (nI b) = some (nI (v b), M2) := b1
        obtain ⟨M3, u, c1, c2, c3⟩ := ml_i hb hm12 hbn ha NN 0 Mm (Nat.zero_le _) (show _ < 1000 by omega) hm (fun c h => absurd h (by omega))
        have c1' : f_X12_leastStep_l28 NN (nI a) (nI b) (nI m) NN Mm 0 = some (nI (u a), M3) := c1
        simp only [a1, bnd, b1', c1']
        have sy : ∀ t, ∀ c d, c < q 0 0 * q 0 1 → d < q 0 0 * q 0 1 → eL q m t c d → eL q m t d c := fun t c d hcn hd y => ⟨nb_sym hb hcn y.1, by rw [dd_sym]; exact y.2⟩
        have sw : ∀ t, t ≤ 998 → (v b ≤ t ↔ u a ≤ t) := fun t ht => by
          rw [b3 b t hbn ht, c3 a t ha ht]
          exact ⟨fun ⟨j, y⟩ => ⟨j, rW_sym (sy t) ha j b hbn y⟩, fun ⟨j, y⟩ => ⟨j, rW_sym (sy t) hbn j a ha y⟩⟩
        have v5 : v b ≤ 500 := (b3 b 500 hbn (by decide)).mpr (cn_L hb hm12 ha hbn)
        have u5 : u a ≤ 500 := (sw 500 (by decide)).mp v5
        have ev : v b = u a := Nat.le_antisymm ((sw (u a) (by omega)).mpr (Nat.le_refl _)) ((sw (v b) (by omega)).mp (Nat.le_refl _))
        rw [ev]
        exact ⟨_, _, _, rfl, rfl, hS.ag (a2.tr b2) c2⟩
      · rw [g1, g2]; exact ⟨_, _, _, rfl, rfl, hS⟩
    · rw [d1, d2]; exact ⟨_, _, _, rfl, rfl, hS⟩
  · rw [e1, e2]; exact ⟨_, _, _, rfl, rfl, hS⟩
