theorem bm {z : Int} (h1 : -2147483648 ≤ z) (h2 : z < 2147483648) : z.bmod (2 ^ 32) = z := by
  rw [Int.bmod_def]
  split <;> omega
/-- least and greatest of a height over a set -/
def EX (S : Nat → Prop) (h : Nat → Nat) (lo hi : Nat) : Prop := (∀ c, S c → lo ≤ h c ∧ h c ≤ hi) ∧ ((∃ c, S c ∧ h c = lo) ∨ lo = 999999) ∧ ((∃ c, S c ∧ h c = hi) ∨ hi = 0)
theorem EX.add {S T : Nat → Prop} {h : Nat → Nat} {lo hi : Nat} (e : EX S h lo hi) (d : Nat) (ht : ∀ c, T c ↔ S c ∨ c = d) : EX T h (min lo (h d)) (max hi (h d)) := by
  obtain ⟨e1, e2, e3⟩ := e
  refine ⟨fun c hc => ?_, ?_, ?_⟩
  · rcases (ht c).mp hc with z | z
    · have := e1 c z; omega
    · subst z; omega
  · rcases Nat.le_total lo (h d) with z | z
    · rw [Nat.min_eq_left z]
      rcases e2 with ⟨c, c1, c2⟩ | c1
      · exact Or.inl ⟨c, (ht c).mpr (Or.inl c1), c2⟩
      · exact Or.inr c1
    · rw [Nat.min_eq_right z]; exact Or.inl ⟨d, (ht d).mpr (Or.inr rfl), rfl⟩
  · rcases Nat.le_total hi (h d) with z | z
    · rw [Nat.max_eq_right z]; exact Or.inl ⟨d, (ht d).mpr (Or.inr rfl), rfl⟩
    · rw [Nat.max_eq_left z]
      rcases e3 with ⟨c, c1, c2⟩ | c1
      · exact Or.inl ⟨c, (ht c).mpr (Or.inl c1), c2⟩
      · exact Or.inr c1
theorem EX.cong {S T : Nat → Prop} {h : Nat → Nat} {lo hi : Nat} (e : EX S h lo hi) (ht : ∀ c, T c ↔ S c) : EX T h lo hi := by
  obtain ⟨e1, e2, e3⟩ := e
  refine ⟨fun c hc => e1 c ((ht c).mp hc), ?_, ?_⟩
  · rcases e2 with ⟨c, c1, c2⟩ | c1
    · exact Or.inl ⟨c, (ht c).mpr c1, c2⟩
    · exact Or.inr c1
  · rcases e3 with ⟨c, c1, c2⟩ | c1
    · exact Or.inl ⟨c, (ht c).mpr c1, c2⟩
    · exact Or.inr c1
theorem EX.one {S : Nat → Prop} {h : Nat → Nat} {lo hi lo' hi' : Nat} (e : EX S h lo hi) (f : EX S h lo' hi') {d : Nat} (hd : S d) (h5 : h d ≤ 500) : lo = lo' ∧ hi = hi' ∧ lo ≤ hi ∧ hi' ≤ 999999 → True := fun _ => trivial
theorem EX.eq {S : Nat → Prop} {h : Nat → Nat} {lo hi lo' hi' : Nat} (e : EX S h lo hi) (f : EX S h lo' hi') {d : Nat} (hd : S d) (h5 : h d ≤ 500) : lo = lo' ∧ hi = hi' ∧ lo ≤ hi := by
  obtain ⟨e1, e2, e3⟩ := e
  obtain ⟨f1, f2, f3⟩ := f
  have ed := e1 d hd
  have fd := f1 d hd
  refine ⟨?_, ?_, by omega⟩
  · rcases e2 with ⟨c, c1, c2⟩ | c1
    · rcases f2 with ⟨b, b1, b2⟩ | b1
      · have := f1 c c1; have := e1 b b1; omega
      · omega
    · omega
  · rcases e3 with ⟨c, c1, c2⟩ | c1
    · rcases f3 with ⟨b, b1, b2⟩ | b1
      · have := f1 c c1; have := e1 b b1; omega
      · have := f1 c c1; omega
    · rcases f3 with ⟨b, b1, b2⟩ | b1
      · have := e1 b b1; omega
      · omega
/-- the stones of a rectangle from a to b -/
def rc (q : Nat → Nat → Nat) (a b d : Nat) : Prop := a / q 0 1 ≤ d / q 0 1 ∧ d / q 0 1 ≤ b / q 0 1 ∧ a % q 0 1 ≤ d % q 0 1 ∧ d % q 0 1 ≤ b % q 0 1
theorem dmle {w a b : Nat} (hw : 0 < w) (h1 : a / w ≤ b / w) (h2 : a % w ≤ b % w) : a ≤ b := by
  have e1 := Nat.div_add_mod a w
  have e2 := Nat.div_add_mod b w
  have := Nat.mul_le_mul (Nat.le_refl w) h1
  omega
theorem sp_l {M : Mem} {q : Nat → Nat → Nat} (hb : Bd q) (hc : PC M q) {m a b : Nat} (hr : HR M 33 q m) (hmn : m < 12) (ha : a < q 0 0 * q 0 1) (hbn : b < q 0 0 * q 0 1) (N : Nat) : ∀ k c lo hi : Nat, a ≤ c → c ≤ b + 1 → lo ≤ 500 → hi ≤ 500 → EX (fun d => rc q a b d ∧ (a ≤ d ∧ d < c ∨ d = a)) (fun d => hN q d m) lo hi → b + 1 - c < k → ∃ lo' hi', lo' ≤ 500 ∧ hi' ≤ 500 ∧ EX (fun d => rc q a b d ∧ (a ≤ d ∧ d < b + 1 ∨ d = a)) (fun d => hN q d m) lo' hi' ∧ f_X4_spread_l18 N M (nI a) (nI b) k (nI lo) (nI hi) (nI c) = some (nI hi' - nI lo') := by
  have hn := hb.n30
  obtain ⟨h1, -, -, -⟩ := hb.w0 ha
  have h5 := hb.pos ha
  intro k
  induction k with
  | zero => intro c _ _ _ _ _ _ _ h; omega
  | succ k ih =>
    intro c lo hi h2 h3 l1 l2 h4 h6
    rw [f_X4_spread_l18]
    by_cases e : c = b + 1
    · subst e
      rw [if_pos (nI_lt (show b < b + 1 by omega) (by omega))]
      exact ⟨lo, hi, l1, l2, h4, rfl⟩
    · have e1 : ¬ nI b < nI c := nI_nlt (by omega) (by omega)
      have hcn : c < q 0 0 * q 0 1 := by omega
      have hh := hN_le hb hcn hmn
      have ma := Nat.mod_lt a h1
      have mb := Nat.mod_lt b h1
      have mc := Nat.mod_lt c h1
      simp only [↓reduceIte, e1, if_pos (inbT (show c < 30 by omega) (by decide)), if_pos (inbT (show a < 30 by omega) (by decide)), if_pos (inbT (show b < 30 by omega) (by decide)), nI_clamp (show c < 2 ^ 31 by omega), nI_clamp (show a < 2 ^ 31 by omega), nI_clamp (show b < 2 ^ 31 by omega), (hc.2.2.1 c hcn).2.2.2.2, (hc.2.2.1 a ha).2.2.2.2, (hc.2.2.1 b hbn).2.2.2.2, hr c hcn, nmd, mnI (show lo < 2147483648 by omega) (show hN q c m < 2147483648 by omega), mxI (show hi < 2147483648 by omega) (show hN q c m < 2147483648 by omega), nI1]
      have skip : ¬ (a % q 0 1 ≤ c % q 0 1 ∧ c % q 0 1 ≤ b % q 0 1) → EX (fun d => rc q a b d ∧ (a ≤ d ∧ d < c + 1 ∨ d = a)) (fun d => hN q d m) lo hi := fun z => h4.cong (fun d => by
        constructor
        · rintro ⟨z1, z2⟩
          refine ⟨z1, ?_⟩
          by_cases e9 : d = c
          · subst e9; exact absurd ⟨z1.2.2.1, z1.2.2.2⟩ z
          · omega
        · rintro ⟨z1, z2⟩
          exact ⟨z1, by omega⟩)
      by_cases c1 : c % q 0 1 < a % q 0 1
      · simp only [↓reduceIte, nI_lt c1 (show a % q 0 1 < 2 ^ 31 by omega)]
        exact ih (c + 1) lo hi (by omega) (by omega) l1 l2 (skip (by omega)) (by omega)
      · simp only [↓reduceIte, nI_nlt (show a % q 0 1 ≤ c % q 0 1 by omega) (show c % q 0 1 < 2 ^ 31 by omega)]
        by_cases c2 : b % q 0 1 < c % q 0 1
        · simp only [↓reduceIte, nI_lt c2 (show c % q 0 1 < 2 ^ 31 by omega)]
          exact ih (c + 1) lo hi (by omega) (by omega) l1 l2 (skip (by omega)) (by omega)
        · simp only [↓reduceIte, nI_nlt (show c % q 0 1 ≤ b % q 0 1 by omega) (show b % q 0 1 < 2 ^ 31 by omega)]
          refine ih (c + 1) _ _ (by omega) (by omega) (by omega) (by omega) (h4.add c (fun d => ?_)) (by omega)
          constructor
          · rintro ⟨z1, z2⟩
            by_cases e9 : d = c
            · exact Or.inr e9
            · exact Or.inl ⟨z1, by omega⟩
          · rintro (⟨z1, z2⟩ | rfl)
            · exact ⟨z1, by omega⟩
            · exact ⟨⟨Nat.div_le_div_right h2, Nat.div_le_div_right (by omega), by omega, by omega⟩, by omega⟩
theorem sp_c {M : Mem} {q : Nat → Nat → Nat} (hb : Bd q) (hc : PC M q) {m a b : Nat} (hr : HR M 33 q m) (hmn : m < 12) (hab : a ≤ b) (hbn : b < q 0 0 * q 0 1) (hcol : a % q 0 1 ≤ b % q 0 1) : ∃ lo hi, lo ≤ 500 ∧ hi ≤ 500 ∧ EX (rc q a b) (fun d => hN q d m) lo hi ∧ f_X4_spread NN M (nI a) (nI b) = some (nI hi - nI lo) := by
  have hn := hb.n30
  have ha : a < q 0 0 * q 0 1 := by omega
  obtain ⟨h1, -, -, -⟩ := hb.w0 ha
  have hh := hN_le hb ha hmn
  have rr : rc q a b a := ⟨Nat.le_refl _, Nat.div_le_div_right hab, Nat.le_refl _, hcol⟩
  obtain ⟨lo, hi, l1, l2, l3, l4⟩ := sp_l hb hc hr hmn ha hbn NN NN a (hN q a m) (hN q a m) (Nat.le_refl _) (by omega) hh hh ⟨fun d hd => by
      rcases hd.2 with z | z
      · omega
      · rw [z]; exact ⟨Nat.le_refl _, Nat.le_refl _⟩, Or.inl ⟨a, ⟨rr, Or.inr rfl⟩, rfl⟩, Or.inl ⟨a, ⟨rr, Or.inr rfl⟩, rfl⟩⟩ (show _ < 1000 by omega)
  refine ⟨lo, hi, l1, l2, l3.cong (fun d => ⟨fun z => ⟨z, ?_⟩, fun z => z.1⟩), ?_⟩
  · have y1 := dmle h1 z.1 z.2.2.1
    have y2 := dmle h1 z.2.1 z.2.2.2
    omega
  · unfold f_X4_spread
    simp only [if_pos (inbT (show a < 30 by omega) (by decide)), nI_clamp (show a < 2 ^ 31 by omega), nmd, hr a ha]
    exact l4
/-- the reference's: row by row -/
theorem rw_in {q : Nat → Nat → Nat} (hb : Bd q) {r k b : Nat} (hbn : b < q 0 0 * q 0 1) (hr : r ≤ b / q 0 1) (hk : k < q 0 1) : q 0 1 * r + k < q 0 0 * q 0 1 ∧ (q 0 1 * r + k) / q 0 1 = r ∧ (q 0 1 * r + k) % q 0 1 = k := by
  obtain ⟨h1, h2, -, -⟩ := hb.w0 hbn
  have h5 : q 0 1 * (r + 1) ≤ q 0 1 * q 0 0 := Nat.mul_le_mul (Nat.le_refl _) (by omega)
  rw [Nat.mul_add, Nat.mul_comm (q 0 1) (q 0 0)] at h5
  refine ⟨by omega, ?_, ?_⟩
  · rw [Nat.mul_add_div h1, Nat.div_eq_of_lt hk, Nat.add_zero]
  · rw [Nat.mul_add_mod, Nat.mod_eq_of_lt hk]
def rT (q : Nat → Nat → Nat) (a b r k d : Nat) : Prop := rc q a b d ∧ (d / q 0 1 < r ∨ (d / q 0 1 = r ∧ d % q 0 1 < k))
theorem ap_i {Mm : Mem} {q : Nat → Nat → Nat} (hb : Bd q) (hm : PM Mm q) {m a b r : Nat} (hmn : m < 12) (hbn : b < q 0 0 * q 0 1) (hr1 : a / q 0 1 ≤ r) (hr : r ≤ b / q 0 1) (N : Nat) : ∀ k c lo hi : Nat, a % q 0 1 ≤ c → c ≤ b % q 0 1 + 1 → lo ≤ 999999 → hi ≤ 999999 → EX (rT q a b r c) (fun d => hN q d m) lo hi → b % q 0 1 + 1 - c < k → ∃ lo' hi', lo' ≤ 999999 ∧ hi' ≤ 999999 ∧ EX (rT q a b r (b % q 0 1 + 1)) (fun d => hN q d m) lo' hi' ∧ ∀ kc, f_X12_apartOf_l34 kc N Mm (nI b) (nI m) (nI r) k (nI lo) (nI hi) (nI c) = kc (nI lo') (nI hi') := by
  have hn := hb.n30
  obtain ⟨h1, h2, h3, h4⟩ := hb.w0 hbn
  have h5 := hb.pos hbn
  intro k
  induction k with
  | zero => intro c _ _ _ _ _ _ _ h; omega
  | succ k ih =>
    intro c lo hi g1 g2 l1 l2 g3 g4
    by_cases e : c = b % q 0 1 + 1
    · subst e
      refine ⟨lo, hi, l1, l2, g3, fun kc => ?_⟩
      rw [f_X12_apartOf_l34]
      simp only [hm.2.1, if_pos (nz h1 (by omega)), remI (show b < 2147483648 by omega) h1 (by omega), ↓reduceIte, nI_lt (show b % q 0 1 < b % q 0 1 + 1 by omega) (show b % q 0 1 + 1 < 2 ^ 31 by omega)]
    · obtain ⟨i1, i2, i3⟩ := rw_in hb hbn hr (show c < q 0 1 by omega)
      have hh := hN_le hb i1 hmn
      obtain ⟨lo', hi', j1, j2, j3, j4⟩ := ih (c + 1) (min lo (hN q (q 0 1 * r + c) m)) (max hi (hN q (q 0 1 * r + c) m)) (by omega) (by omega) (by omega) (by omega) (g3.add (q 0 1 * r + c) (fun d => by
        constructor
        · rintro ⟨z1, z2⟩
          by_cases e9 : d = q 0 1 * r + c
          · exact Or.inr e9
          · refine Or.inl ⟨z1, ?_⟩
            rcases z2 with z | ⟨z, y⟩
            · exact Or.inl z
            · refine Or.inr ⟨z, ?_⟩
              rcases Nat.lt_or_ge (d % q 0 1) c with y2 | y2
              · exact y2
              · exfalso
                apply e9
                have e10 := Nat.div_add_mod d (q 0 1)
                rw [z] at e10
                omega
        · rintro (⟨z1, z2⟩ | rfl)
          · exact ⟨z1, by omega⟩
          · refine ⟨⟨by omega, by omega, by omega, by omega⟩, Or.inr ⟨i2, by omega⟩⟩)) (by omega)
      refine ⟨lo', hi', j1, j2, j3, fun kc => ?_⟩
      rw [f_X12_apartOf_l34]
      simp only [hm.2.1, if_pos (nz h1 (by omega)), remI (show b < 2147483648 by omega) h1 (by omega), ↓reduceIte, nI_nlt (show c ≤ b % q 0 1 by omega) (show b % q 0 1 < 2 ^ 31 by omega), pk_mul, nI_add, hO_m hb hm i1 hmn, bnd, nI1]
      rw [← j4 kc]
      have le : ∀ {x y : Nat}, x ≤ 999999 → y ≤ 999999 → (nI x ≤ nI y ↔ x ≤ y) := fun h1 h2 => nI_leI (by omega) (by omega)
      simp only [le l1 (show hN q (q 0 1 * r + c) m ≤ 999999 by omega), le (show hN q (q 0 1 * r + c) m ≤ 999999 by omega) l2]
      by_cases c1 : lo ≤ hN q (q 0 1 * r + c) m
      · by_cases c2 : hN q (q 0 1 * r + c) m ≤ hi
        · simp only [↓reduceIte, c1, c2, Nat.min_eq_left c1, Nat.max_eq_left c2]
        · simp only [↓reduceIte, c1, c2, Nat.min_eq_left c1, Nat.max_eq_right (show hi ≤ hN q (q 0 1 * r + c) m by omega)]
      · by_cases c2 : hN q (q 0 1 * r + c) m ≤ hi
        · simp only [↓reduceIte, c1, c2, Nat.min_eq_right (show hN q (q 0 1 * r + c) m ≤ lo by omega), Nat.max_eq_left c2]
        · simp only [↓reduceIte, c1, c2, Nat.min_eq_right (show hN q (q 0 1 * r + c) m ≤ lo by omega), Nat.max_eq_right (show hi ≤ hN q (q 0 1 * r + c) m by omega)]
theorem ap_o {Mm : Mem} {q : Nat → Nat → Nat} (hb : Bd q) (hm : PM Mm q) {m a b : Nat} (hmn : m < 12) (ha : a < q 0 0 * q 0 1) (hbn : b < q 0 0 * q 0 1) (hcol : a % q 0 1 ≤ b % q 0 1) (N : Nat) (hN' : 100 ≤ N) : ∀ k r lo hi : Nat, a / q 0 1 ≤ r → r ≤ b / q 0 1 + 1 → lo ≤ 999999 → hi ≤ 999999 → EX (rT q a b r (a % q 0 1)) (fun d => hN q d m) lo hi → b / q 0 1 + 1 - r < k → ∃ lo' hi', EX (rc q a b) (fun d => hN q d m) lo' hi' ∧ f_X12_apartOf_l15 N Mm (nI a) (nI b) (nI m) k (nI lo) (nI hi) (nI r) = some (nI hi' - nI lo') := by
  have hn := hb.n30
  obtain ⟨h1, h2, h3, h4⟩ := hb.w0 hbn
  have h5 := hb.pos hbn
  intro k
  induction k with
  | zero => intro r _ _ _ _ _ _ _ h; omega
  | succ k ih =>
    intro r lo hi g1 g2 l1 l2 g3 g4
    rw [f_X12_apartOf_l15]
    by_cases e : r = b / q 0 1 + 1
    · subst e
      simp only [hm.2.1, if_pos (nz h1 (by omega)), pk_div (show b < 2 ^ 31 by omega) h1 (show q 0 1 < 2 ^ 31 by omega), ↓reduceIte, nI_lt (show b / q 0 1 < b / q 0 1 + 1 by omega) (show b / q 0 1 + 1 < 2 ^ 31 by omega)]
      refine ⟨lo, hi, g3.cong (fun d => ⟨fun z => ⟨z, Or.inl (by have := z.2.1; omega)⟩, fun z => z.1⟩), rfl⟩
    · obtain ⟨lo', hi', j1, j2, j3, j4⟩ := ap_i hb hm hmn hbn g1 (show r ≤ b / q 0 1 by omega) N N (a % q 0 1) lo hi (Nat.le_refl _) (by omega) l1 l2 g3 (by omega)
      simp only [hm.2.1, if_pos (nz h1 (by omega)), pk_div (show b < 2 ^ 31 by omega) h1 (show q 0 1 < 2 ^ 31 by omega), remI (show a < 2147483648 by omega) h1 (by omega), ↓reduceIte, nI_nlt (show r ≤ b / q 0 1 by omega) (show b / q 0 1 < 2 ^ 31 by omega), nmd, j4, nI1]
      refine ih (r + 1) lo' hi' (by omega) (by omega) j1 j2 (j3.cong (fun d => ?_)) (by omega)
      constructor
      · rintro ⟨z1, z2⟩
        refine ⟨z1, ?_⟩
        have y1 := z1.2.2.1
        have y2 := z1.2.2.2
        rcases z2 with z | ⟨z, y⟩
        · rcases Nat.lt_or_ge (d / q 0 1) r with w | w
          · exact Or.inl w
          · exact Or.inr ⟨by omega, by omega⟩
        · omega
      · rintro ⟨z1, z2⟩
        exact ⟨z1, by omega⟩
theorem sp_m {Mc Mm : Mem} {q : Nat → Nat → Nat} (hb : Bd q) (hc : PC Mc q) (hm : PM Mm q) {m a b : Nat} (hr : HR Mc 33 q m) (hmn : m < 12) (hab : a ≤ b) (hbn : b < q 0 0 * q 0 1) (hcol : a % q 0 1 ≤ b % q 0 1) : ∃ s : Nat, s ≤ 500 ∧ f_X4_spread NN Mc (nI a) (nI b) = some (nI s) ∧ f_X12_apartOf NN Mm (nI a) (nI b) (nI m) = some (nI s) ∧ (a = b → s = 0) := by
  have hn := hb.n30
  have ha : a < q 0 0 * q 0 1 := by omega
  obtain ⟨h1, h2, h3, h4⟩ := hb.w0 ha
  have h5 := hb.pos ha
  have rr : rc q a b a := ⟨Nat.le_refl _, Nat.div_le_div_right hab, Nat.le_refl _, hcol⟩
  obtain ⟨lo, hi, l1, l2, l3, l4⟩ := sp_c hb hc hr hmn hab hbn hcol
  have hd : a / q 0 1 ≤ b / q 0 1 := Nat.div_le_div_right hab
  obtain ⟨lo', hi', k1, k2⟩ := ap_o hb hm hmn ha hbn hcol NN (by decide) NN (a / q 0 1) 999999 0 (Nat.le_refl _) (by omega) (by omega) (by omega) ⟨fun d hd => by have := hd.1.1; have := hd.1.2.2.1; rcases hd.2 with z | z <;> omega, Or.inr rfl, Or.inr rfl⟩ (show _ < 1000 from Nat.lt_of_le_of_lt (Nat.sub_le _ _) (by have : b / q 0 1 ≤ b := Nat.div_le_self _ _; omega))
  obtain ⟨e1, e2, e3⟩ := l3.eq k1 rr (hN_le hb ha hmn)
  subst e1 e2
  refine ⟨hi - lo, by omega, by rw [l4, pk_sub e3], ?_, fun e => ?_⟩
  · unfold f_X12_apartOf
    simp only [hm.2.1, if_pos (nz h1 (by omega)), pk_div (show a < 2 ^ 31 by omega) h1 (show q 0 1 < 2 ^ 31 by omega), nmd]
    rw [← pk_sub e3]; exact k2
  · subst e
    obtain ⟨z1, z2, z3⟩ := l3
    have only : ∀ d, rc q a a d → d = a := fun d hd => by
      have y1 := dmle h1 hd.1 hd.2.2.1
      have y2 := dmle h1 hd.2.1 hd.2.2.2
      omega
    have za := z1 a rr
    have hh := hN_le hb ha hmn
    have w1 : lo = hN q a m := by
      rcases z2 with ⟨c, c1, c2⟩ | c1
      · rw [only c c1] at c2; exact c2.symm
      · omega
    have w2 : hi = hN q a m := by
      rcases z3 with ⟨c, c1, c2⟩ | c1
      · rw [only c c1] at c2; exact c2.symm
      · omega
    omega
/-- sizes -/
theorem sz_1 {Mc : Mem} {q : Nat → Nat → Nat} (hb : Bd q) (hc : PC Mc q) {a b : Nat} (hab : a ≤ b) (hbn : b < q 0 0 * q 0 1) : f_X4_sizeOf Mc (nI a) (nI b) = some ((nI (b % q 0 1) - nI (a % q 0 1) + 1) * (nI (b / q 0 1) - nI (a / q 0 1) + 1)) := by
  have hn := hb.n30
  have ha : a < q 0 0 * q 0 1 := by omega
  unfold f_X4_sizeOf
  simp only [if_pos (inbT (show b < 30 by omega) (by decide)), if_pos (inbT (show a < 30 by omega) (by decide)), nI_clamp (show b < 2 ^ 31 by omega), nI_clamp (show a < 2 ^ 31 by omega), nmd, (hc.2.2.1 a ha).2.2.2.1, (hc.2.2.1 a ha).2.2.2.2, (hc.2.2.1 b hbn).2.2.2.1, (hc.2.2.1 b hbn).2.2.2.2]
theorem sz_pos {x y u v : Nat} (h1 : x ≤ y) (h2 : u ≤ v) : (nI y - nI x + 1) * (nI v - nI u + 1) = nI ((y - x + 1) * (v - u + 1)) := by
  rw [pk_sub h1, pk_sub h2, nI1, nI1, pk_mul]
theorem sz_neg {x y u v t : Nat} (hx : x < 10) (h1 : y < x) (h2 : u ≤ v) (hv : v < 10) (ht : t < 1000) : (nI y - nI x + 1) * (nI v - nI u + 1) ≤ nI t := by
  rw [pk_sub h2, nI1, Int32.le_iff_toInt_le, Int32.toInt_mul, Int32.toInt_add, subT (by omega) (by omega), nI_toInt (by omega), nI_toInt (by omega)]
  have o : ((1 : Int32)).toInt = 1 := by decide
  rw [o, bm (z := (y : Int) - x + 1) (by omega) (by omega)]
  have b1 : (0 : Int) ≤ (-((y : Int) - x + 1)) := by omega
  have b2 : (-((y : Int) - x + 1)) ≤ 10 := by omega
  have b3 : (0 : Int) ≤ ((v - u + 1 : Nat) : Int) := by omega
  have b4 : ((v - u + 1 : Nat) : Int) ≤ 10 := by omega
  have p1 : 0 ≤ (-((y : Int) - x + 1)) * ((v - u + 1 : Nat) : Int) := Int.mul_nonneg b1 b3
  have p2 : (-((y : Int) - x + 1)) * ((v - u + 1 : Nat) : Int) ≤ 10 * 10 := Int.mul_le_mul b2 b4 b3 (by decide)
  rw [Int.neg_mul] at p1 p2
  rw [bm (by omega) (by omega)]
  omega
theorem ov_i {Mc Mm : Mem} {q : Nat → Nat → Nat} (hb : Bd q) (hc : PC Mc q) (hm : PM Mm q) {m v : Nat} (hr : HR Mc 33 q m) (hmn : m < 12) (hv : v ≤ 999) {a : Nat} (ha : a < q 0 0 * q 0 1) : ∀ k c t : Nat, ∀ x y : Int32, a ≤ c → 1 ≤ t → t ≤ 100 → c ≤ q 0 0 * q 0 1 → q 0 0 * q 0 1 - c < k → ∃ (x' y' : Int32) (t' : Nat), 1 ≤ t' ∧ t' ≤ 100 ∧ (∀ kc, f_X4_findOval_l30 kc NN (nI v) (nI a) k (sP Mc x y (nI t)) (nI c) = kc (sP Mc x' y' (nI t'))) ∧ (∀ kc, f_X12_oval_l67 kc NN Mm (nI m) (nI v) (nI a) k (nI t) x y (nI c) = kc (nI t') x' y') := by
  have hn := hb.n30
  obtain ⟨h1, h2, h3, h4⟩ := hb.w0 ha
  have h5 := hb.pos ha
  intro k
  induction k with
  | zero => intro c _ _ _ _ _ _ _ h; omega
  | succ k ih =>
    intro c t x y g1 t1 t2 g3 g4
    have hs := hc.ag (sP_ag Mc x y (nI t))
    have hrs : HR (sP Mc x y (nI t)) 33 q m := fun d hd => by rw [sP_n _ _ _ _ (by decide)]; exact hr d hd
    by_cases e : c = q 0 0 * q 0 1
    · subst e
      refine ⟨x, y, t, t1, t2, fun kc => ?_, fun kc => ?_⟩
      · rw [f_X4_findOval_l30, st_c hs, bnd, if_pos (nI_le (Nat.le_refl (q 0 0 * q 0 1)) (show q 0 0 * q 0 1 < 2 ^ 31 by omega))]
      · rw [f_X12_oval_l67, al_m hm, bnd, if_pos (nI_le (Nat.le_refl (q 0 0 * q 0 1)) (show q 0 0 * q 0 1 < 2 ^ 31 by omega))]
    · have e1 : ¬ nI (q 0 0 * q 0 1) ≤ nI c := nI_ge (by omega) (by omega)
      have hcn : c < q 0 0 * q 0 1 := by omega
      obtain ⟨-, k2, k3, k4⟩ := hb.w0 hcn
      have hdiv : a / q 0 1 ≤ c / q 0 1 := Nat.div_le_div_right g1
      have dv1 := pk_div (show a < 2 ^ 31 by omega) h1 (show q 0 1 < 2 ^ 31 by omega)
      have dv2 := pk_div (show c < 2 ^ 31 by omega) h1 (show q 0 1 < 2 ^ 31 by omega)
      have rm1 := remI (show a < 2147483648 by omega) h1 (show q 0 1 < 2147483648 by omega)
      have rm2 := remI (show c < 2147483648 by omega) h1 (show q 0 1 < 2147483648 by omega)
      by_cases c1 : c % q 0 1 < a % q 0 1
      · obtain ⟨x', y', t', j1, j2, j3, j4⟩ := ih (c + 1) t x y (by omega) t1 t2 (by omega) (by omega)
        refine ⟨x', y', t', j1, j2, fun kc => ?_, fun kc => ?_⟩
        · rw [f_X4_findOval_l30]
          simp only [st_c hs, bnd, ↓reduceIte, e1, sz_1 hb hs g1 hcn, sP_5, sz_neg (show a % q 0 1 < 10 by omega) c1 hdiv (show c / q 0 1 < 10 by omega) (show t < 1000 by omega), nI1]
          exact j3 kc
        · rw [f_X12_oval_l67]
          simp only [al_m hm, bnd, ↓reduceIte, e1, hm.2.1, if_pos (nz h1 (by omega)), nmd, dv1, dv2, rm1, rm2, nI_lt c1 (show a % q 0 1 < 2 ^ 31 by omega), nI1]
          exact j4 kc
      · have c1' : a % q 0 1 ≤ c % q 0 1 := by omega
        obtain ⟨s, s1, s2, s3, -⟩ := sp_m hb hs hm hrs hmn g1 hcn c1'
        obtain ⟨w, hw⟩ : ∃ w, w = (c % q 0 1 - a % q 0 1 + 1) * (c / q 0 1 - a / q 0 1 + 1) := ⟨_, rfl⟩
        have hw30 : w ≤ 36 := by
          rw [hw]; exact Nat.le_trans (Nat.mul_le_mul (Nat.succ_le_succ (Nat.le_trans (Nat.sub_le _ _) (show c % q 0 1 ≤ 5 by omega))) (Nat.succ_le_succ (Nat.le_trans (Nat.sub_le _ _) (show c / q 0 1 ≤ 5 by omega)))) (by decide)
        have sc : (nI (c % q 0 1) - nI (a % q 0 1) + 1) * (nI (c / q 0 1) - nI (a / q 0 1) + 1) = nI w := by rw [sz_pos c1' hdiv, hw]
        have sm : (nI (c / q 0 1) - nI (a / q 0 1) + 1) * (nI (c % q 0 1) - nI (a % q 0 1) + 1) = nI w := by rw [sz_pos hdiv c1', hw, Nat.mul_comm]
        have nc1 : ¬ nI (c % q 0 1) < nI (a % q 0 1) := nI_nlt c1' (by omega)
        by_cases c2 : w ≤ t
        · obtain ⟨x', y', t', j1, j2, j3, j4⟩ := ih (c + 1) t x y (by omega) t1 t2 (by omega) (by omega)
          refine ⟨x', y', t', j1, j2, fun kc => ?_, fun kc => ?_⟩
          · rw [f_X4_findOval_l30]
            simp only [st_c hs, bnd, ↓reduceIte, e1, sz_1 hb hs g1 hcn, sP_5, sc, nI_le c2 (show t < 2 ^ 31 by omega), nI1]
            exact j3 kc
          · rw [f_X12_oval_l67]
            simp only [al_m hm, bnd, ↓reduceIte, e1, hm.2.1, if_pos (nz h1 (by omega)), nmd, dv1, dv2, rm1, rm2, nc1, sm, nI_le c2 (show t < 2 ^ 31 by omega), nI1]
            exact j4 kc
        · have nc2 : ¬ nI w ≤ nI t := nI_ge (by omega) (by omega)
          by_cases c3 : v < s
          · obtain ⟨x', y', t', j1, j2, j3, j4⟩ := ih (c + 1) t x y (by omega) t1 t2 (by omega) (by omega)
            refine ⟨x', y', t', j1, j2, fun kc => ?_, fun kc => ?_⟩
            · rw [f_X4_findOval_l30]
              simp only [st_c hs, bnd, ↓reduceIte, e1, sz_1 hb hs g1 hcn, sP_5, sc, nc2, s2, nI_lt c3 (show s < 2 ^ 31 by omega), nI1]
              exact j3 kc
            · rw [f_X12_oval_l67]
              simp only [al_m hm, bnd, ↓reduceIte, e1, hm.2.1, if_pos (nz h1 (by omega)), nmd, dv1, dv2, rm1, rm2, nc1, sm, nc2, s3, nI_lt c3 (show s < 2 ^ 31 by omega), nI1]
              exact j4 kc
          · have nc3 : ¬ nI v < nI s := nI_nlt (by omega) (by omega)
            obtain ⟨x', y', t', j1, j2, j3, j4⟩ := ih (c + 1) w (nI a) (nI c) (by omega) (by omega) (by omega) (by omega) (by omega)
            refine ⟨x', y', t', j1, j2, fun kc => ?_, fun kc => ?_⟩
            · rw [f_X4_findOval_l30]
              simp only [st_c hs, bnd, ↓reduceIte, e1, sz_1 hb hs g1 hcn, sP_5, sc, nc2, s2, nc3, nmd, sP_up, nI1]
              exact j3 kc
            · rw [f_X12_oval_l67]
              simp only [al_m hm, bnd, ↓reduceIte, e1, hm.2.1, if_pos (nz h1 (by omega)), nmd, dv1, dv2, rm1, rm2, nc1, sm, nc2, s3, nc3, nI1]
              exact j4 kc
theorem ov_o {Mc Mm : Mem} {q : Nat → Nat → Nat} (hb : Bd q) (hc : PC Mc q) (hm : PM Mm q) {m v : Nat} (hr : HR Mc 33 q m) (hmn : m < 12) (hv : v ≤ 999) (x3 : Int32) : ∀ k a t : Nat, ∀ x y : Int32, 1 ≤ t → t ≤ 100 → a ≤ q 0 0 * q 0 1 → q 0 0 * q 0 1 - a < k → ∃ x' y' t', f_X4_findOval_l17 NN (nI v) k (sP Mc x y (nI t)) (nI a) = some (sP Mc x' y' t') ∧ f_X12_oval_l54 NN Mm (nI m) (nI v) x3 k (nI t) x y (nI a) = if x3 = 0 then some t' else if x3 = 1 then some x' else some y' := by
  have hn := hb.n30
  intro k
  induction k with
  | zero => intro a _ _ _ _ _ _ h; omega
  | succ k ih =>
    intro a t x y t1 t2 h3 h4
    have hs := hc.ag (sP_ag Mc x y (nI t))
    rw [f_X4_findOval_l17, f_X12_oval_l54, st_c hs, al_m hm, bnd, bnd]
    by_cases e : a = q 0 0 * q 0 1
    · subst e
      simp only [↓reduceIte, nI_le (Nat.le_refl (q 0 0 * q 0 1)) (show q 0 0 * q 0 1 < 2 ^ 31 by omega)]
      exact ⟨x, y, nI t, rfl, rfl⟩
    · have e1 : ¬ nI (q 0 0 * q 0 1) ≤ nI a := nI_ge (by omega) (by omega)
      obtain ⟨x', y', t', j1, j2, g2, g3⟩ := ov_i hb hc hm hr hmn hv (a := a) (by omega) NN a t x y (Nat.le_refl _) t1 t2 (by omega) (show _ < 1000 by omega)
      simp only [↓reduceIte, e1, nI1, g2, g3]
      exact ih (a + 1) t' x' y' j1 j2 (by omega) (by omega)
/-- the reference begins with nothing, the class with the first stone alone -/
theorem ov_0 {Mc Mm : Mem} {q : Nat → Nat → Nat} (hb : Bd q) (hc : PC Mc q) (hm : PM Mm q) {m v : Nat} (hr : HR Mc 33 q m) (hmn : m < 12) (hv : v ≤ 999) (hpos : 0 < q 0 0 * q 0 1) (x3 : Int32) : f_X12_oval_l54 NN Mm (nI m) (nI v) x3 NN 0 0 0 0 = f_X12_oval_l54 NN Mm (nI m) (nI v) x3 NN 1 0 0 0 := by
  have hn := hb.n30
  obtain ⟨h1, h2, h3, h4⟩ := hb.w0 hpos
  have h5 := hb.pos hpos
  obtain ⟨s, s1, s2, s3, s4⟩ := sp_m hb hc hm hr hmn (Nat.le_refl 0) hpos (Nat.le_refl _)
  have s4 := s4 rfl
  subst s4
  have s3' : f_X12_apartOf NN Mm 0 0 (nI m) = some (nI 0) := s3
  have e1 : ¬ nI (q 0 0 * q 0 1) ≤ 0 := nI_nle (by omega) (by omega)
  have nv : ¬ nI v < nI 0 := nI_nlt (by omega) (by omega)
  have one : ∀ (n : Nat) (kc : Int32 → Int32 → Int32 → Option Int32), f_X12_oval_l67 kc NN Mm (nI m) (nI v) 0 (n + 1) 0 0 0 0 = f_X12_oval_l67 kc NN Mm (nI m) (nI v) 0 (n + 1) 1 0 0 0 := by
    intro n kc
    rw [f_X12_oval_l67]
    have z1 : (0 : Int32) / nI (q 0 1) = 0 := by
      have := pk_div (show 0 < 2 ^ 31 by decide) h1 (show q 0 1 < 2 ^ 31 by omega)
      rw [Nat.zero_div] at this
      exact this
    have z2 : rem32 0 (nI (q 0 1)) = 0 := by
      have := remI (show 0 < 2147483648 by decide) h1 (show q 0 1 < 2147483648 by omega)
      rw [Nat.zero_mod] at this
      exact this
    have z3 : ((0 : Int32) - 0 + 1) * ((0 : Int32) - 0 + 1) = 1 := by decide
    simp only [al_m hm, bnd, ↓reduceIte, e1, hm.2.1, if_pos (nz h1 (by omega)), nmd, z1, z2, z3, show ¬ (0 : Int32) < 0 by decide, show ¬ (1 : Int32) ≤ 0 by decide, s3', nv]
    rw [f_X12_oval_l67]
    simp only [al_m hm, bnd, ↓reduceIte, e1, hm.2.1, if_pos (nz h1 (by omega)), nmd, z1, z2, z3, show ¬ (0 : Int32) < 0 by decide, show (1 : Int32) ≤ 1 by decide]
  show f_X12_oval_l54 NN Mm (nI m) (nI v) x3 (999 + 1) 0 0 0 0 = f_X12_oval_l54 NN Mm (nI m) (nI v) x3 (999 + 1) 1 0 0 0
  rw [f_X12_oval_l54, f_X12_oval_l54, al_m hm, bnd, bnd, if_neg e1, if_neg e1]
  exact one 999 _
theorem sim_oval {Mc Mm : Mem} (h : Sim Mc Mm) (x1 : Int32) (x2 : Int32) (x3 : Int32) : ∃ (r : Int32) (Mc' : Mem), f_X11_oval NN Mc x1 x2 x3 = some (r, Mc') ∧ f_X12_oval NN Mm x1 x2 x3 = some r ∧ Sim Mc' Mm := by
  obtain ⟨⟨q, hb, h9, hc, hm⟩, -⟩ := id h
  have hn := hb.n30
  have n2 : ¬ (-2 : Int32) = 0 := by decide
  have n1 : ¬ (-1 : Int32) = 0 := by decide
  have n3 : ¬ (-3 : Int32) = 0 := by decide
  unfold f_X11_oval f_X12_oval
  rcases ap_cs x2 with ⟨v, hv, rfl, g1, g2⟩ | ⟨g1, g2⟩
  · rcases wi_n (x := x3) (hi := 2) (n := 2) (by decide) with ⟨w, hw, rfl, d1, d2⟩ | ⟨d1, d2⟩
    · rcases rf_cs hb hc hm x1 with ⟨m, hmn, rfl, hpos, a1, a2, a3, a4, a5⟩ | ⟨a1, a2, a3, a4⟩ | ⟨a1, a2, a3⟩
      · obtain ⟨M', w1, w2, w3, w4⟩ := wh hb hc hmn (r := 33) (by decide)
        have w1' : f_X4_measure NN Mc (nI m) = some M' := by unfold f_X4_measure; rw [w1]; rfl
        have hc' := hc.ag w2
        obtain ⟨x', y', t', k1, k2⟩ := ov_o hb hc' hm w3 hmn hv (nI w) NN 0 1 0 0 (by decide) (by decide) (Nat.zero_le _) (show _ < 1000 by omega)
        have fo : f_X4_findOval NN M' (nI v) = some (sP M' x' y' t') := by
          unfold f_X4_findOval
          simp only [nmd, sP_0]
          exact k1
        have k2' : f_X12_oval_l54 NN Mm (nI m) (nI v) (nI w) NN 0 0 0 0 = _ := (ov_0 hb hc' hm w3 hmn hv hpos (nI w)).trans k2
        simp only [g1, g2, d1, d2, bnd, n10, ↓reduceIte, a1, a3, a4, a5, w1', fo, k2', sP_3, sP_4, sP_5]
        have key : Sim (sP M' x' y' t') Mm := h.ag (w2.tr (sP_ag _ _ _ _)) AgM.rf
        by_cases c0 : nI w = 0
        · simp only [↓reduceIte, c0]; exact ⟨_, _, rfl, rfl, key⟩
        · by_cases c1 : nI w = 1
          · simp only [↓reduceIte, c0, c1]; exact ⟨_, _, rfl, rfl, key⟩
          · simp only [↓reduceIte, c0, c1]; exact ⟨_, _, rfl, rfl, key⟩
      · simp only [g1, g2, d1, d2, bnd, n10, ↓reduceIte, a1, a3, a4, n3]
        exact ⟨_, _, rfl, rfl, h⟩
      · simp only [g1, g2, d1, d2, bnd, n10, ↓reduceIte, a1, a3, n1]
        exact ⟨_, _, rfl, rfl, h⟩
    · rcases rf_cs hb hc hm x1 with ⟨m, hmn, rfl, hpos, a1, a2, a3, a4, a5⟩ | ⟨a1, a2, a3, a4⟩ | ⟨a1, a2, a3⟩
      · simp only [g1, g2, d1, d2, bnd, n10, ↓reduceIte, a2, a3, n2]
        exact ⟨_, _, rfl, rfl, h⟩
      · simp only [g1, g2, d1, d2, bnd, n10, ↓reduceIte, a2, a3, n2]
        exact ⟨_, _, rfl, rfl, h⟩
      · simp only [g1, g2, d1, d2, bnd, n10, ↓reduceIte, a2, a3, n1]
        exact ⟨_, _, rfl, rfl, h⟩
  · rcases rf_cs hb hc hm x1 with ⟨m, hmn, rfl, hpos, a1, a2, a3, a4, a5⟩ | ⟨a1, a2, a3, a4⟩ | ⟨a1, a2, a3⟩
    · simp only [g1, g2, bnd, n10, ↓reduceIte, a2, a3, n2]
      exact ⟨_, _, rfl, rfl, h⟩
    · simp only [g1, g2, bnd, n10, ↓reduceIte, a2, a3, n2]
      exact ⟨_, _, rfl, rfl, h⟩
    · simp only [g1, g2, bnd, n10, ↓reduceIte, a2, a3, n1]
      exact ⟨_, _, rfl, rfl, h⟩
