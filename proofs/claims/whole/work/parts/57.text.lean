theorem wi_g {x : Int32} {lo hi : Nat} (hh : hi < 1000) (hl : lo ≤ hi) : (∃ v : Nat, lo ≤ v ∧ v ≤ hi ∧ x = nI v ∧ f_X11_isWithin x (nI lo) (nI hi) = some 1 ∧ f_X12_within x (nI lo) (nI hi) = some 1) ∨ ((∀ v : Nat, lo ≤ v → v ≤ hi → ¬ x = nI v) ∧ f_X11_isWithin x (nI lo) (nI hi) = some 0 ∧ f_X12_within x (nI lo) (nI hi) = some 0) := by
  unfold f_X11_isWithin f_X12_within
  by_cases h3 : x < nI lo
  · right
    refine ⟨fun v h1 h2 e => ?_, by rw [if_pos h3], by rw [if_pos h3]⟩
    subst e
    exact nI_nlt h1 (by omega) h3
  · by_cases h4 : nI hi < x
    · right
      refine ⟨fun v h1 h2 e => ?_, by rw [if_neg h3, if_pos h4], by rw [if_neg h3, if_pos h4]⟩
      subst e
      exact nI_nlt h2 (by omega) h4
    · left
      have h5 : ¬ x < 0 := fun z => h3 (by
        rw [Int32.lt_iff_toInt_lt] at z ⊢
        rw [nI_toInt (by omega)]
        have e0 : (0 : Int32).toInt = 0 := by decide
        omega)
      obtain ⟨j, hj, e⟩ := nI_of2 (n := hi) (nI_toInt (by omega)) h5 (nlt h4)
      refine ⟨j, ?_, hj, e, by rw [if_neg h3, if_neg h4], by rw [if_neg h3, if_neg h4]⟩
      rw [e] at h3
      exact Nat.le_of_not_lt fun z => h3 (nI_lt z (by omega))
def okk (z : Int32) : Prop := z = 115 ∨ z = 99 ∨ z = 102
def kN (z : Int32) : Nat := if z = 99 then 1 else if z = 102 then 2 else 0
theorem kN_le (z : Int32) : kN z ≤ 2 := by
  unfold kN
  split
  · decide
  · split <;> decide
theorem kb {z : Int32} : (okk z ∧ f_X3_kindBy z = some (nI (kN z)) ∧ ¬ nI (kN z) = -9) ∨ (¬ okk z ∧ f_X3_kindBy z = some (-9)) := by
  unfold f_X3_kindBy kN okk
  by_cases h1 : z = 99
  · left; subst h1; exact ⟨Or.inr (Or.inl rfl), by decide, by decide⟩
  · by_cases h2 : z = 102
    · left; subst h2; exact ⟨Or.inr (Or.inr rfl), by decide, by decide⟩
    · by_cases h3 : z = 115
      · left; subst h3; exact ⟨Or.inl rfl, by decide, by decide⟩
      · right
        refine ⟨fun y => ?_, by rw [if_neg h1, if_neg h2, if_neg h3]⟩
        rcases y with y | y | y
        · exact h3 y
        · exact h1 y
        · exact h2 y
theorem rl (W : Nat) : f_X3_rowLength (nI W) = some (nI (1 + 2 * W)) := by
  unfold f_X3_rowLength
  have y : (1 : Int32) + 2 * nI W = nI (1 + 2 * W) := by
    show nI 1 + nI 2 * nI W = _
    rw [pk_mul, nI_add]
  rw [y]
theorem fr_o {W r o : Nat} {z : Int32} (hW : W ≤ 6) (hr : r ≤ 10) (ho : o < 1 + 2 * W) : f_X3_fitsRow (nI (3 + (1 + 2 * W) * r + o)) z (nI W) = if nI o = 0 then (if z = 59 then some 1 else some 0) else if rem32 (nI o) 2 = 1 then (f_X3_kindBy z).bind fun r8 => if r8 = -9 then some 0 else some 1 else (f_X11_isWithin z 48 57).bind fun r6 => if r6 = 0 ∨ r6 = 1 then some r6 else none := by
  have b1 : (1 + 2 * W) * r ≤ 13 * 10 := Nat.mul_le_mul (by omega) hr
  unfold f_X3_fitsRow
  rw [rl, bnd, if_pos (nI_ne0 (by omega) (by omega))]
  have s3 : nI (3 + (1 + 2 * W) * r + o) - 3 = nI ((1 + 2 * W) * r + o) := by
    show nI _ - nI 3 = _
    rw [pk_sub (by omega)]
    congr 1; omega
  rw [s3, remI (by omega) (by omega) (by omega), (dm ho).2, nmd]
theorem fr_0 {W r j : Nat} {z : Int32} (hW : W ≤ 6) (hr : r ≤ 10) (hj : j = 3 + (1 + 2 * W) * r) : f_X3_fitsRow (nI j) z (nI W) = if z = 59 then some 1 else some 0 := by
  have y := fr_o (W := W) (r := r) (o := 0) (z := z) hW hr (by omega)
  rw [Nat.add_zero, ← hj, if_pos (show nI 0 = 0 from rfl)] at y
  exact y
theorem fr_1 {W r c j : Nat} {z : Int32} (hW : W ≤ 6) (hr : r ≤ 10) (hc : c < W) (hj : j = 3 + (1 + 2 * W) * r + (2 * c + 1)) : f_X3_fitsRow (nI j) z (nI W) = (f_X3_kindBy z).bind fun r8 => if r8 = -9 then some 0 else some 1 := by
  have y := fr_o (W := W) (r := r) (o := 2 * c + 1) (z := z) hW hr (by omega)
  rw [← hj, if_neg (nI_ne0 (by omega) (by omega))] at y
  have e : rem32 (nI (2 * c + 1)) 2 = 1 := by
    have y2 : rem32 (nI (2 * c + 1)) (nI 2) = nI ((2 * c + 1) % 2) := remI (by omega) (by decide) (by decide)
    rw [show (2 * c + 1) % 2 = 1 by omega] at y2
    exact y2
  rw [if_pos e] at y
  exact y
theorem fr_2 {W r c j : Nat} {z : Int32} (hW : W ≤ 6) (hr : r ≤ 10) (hc : c < W) (hj : j = 3 + (1 + 2 * W) * r + (2 * c + 2)) : f_X3_fitsRow (nI j) z (nI W) = (f_X11_isWithin z 48 57).bind fun r6 => if r6 = 0 ∨ r6 = 1 then some r6 else none := by
  have y := fr_o (W := W) (r := r) (o := 2 * c + 2) (z := z) hW hr (by omega)
  rw [← hj, if_neg (nI_ne0 (by omega) (by omega))] at y
  have e : ¬ rem32 (nI (2 * c + 2)) 2 = 1 := by
    have y2 : rem32 (nI (2 * c + 2)) (nI 2) = nI ((2 * c + 2) % 2) := remI (by omega) (by decide) (by decide)
    rw [show (2 * c + 2) % 2 = 0 by omega] at y2
    have y3 : rem32 (nI (2 * c + 2)) 2 = 0 := y2
    rw [y3]; decide
  rw [if_neg e] at y
  exact y
/-- the class's scan at place j -/
def CLv (M : Mem) (k i n H W L j : Nat) : Option Int32 := f_X3_firstFault_l11 NN k M (nI i) (nI n) (NN - j) (nI H) (nI W) (nI L) (nI j)
theorem NNj {j : Nat} (h : j ≤ 100) : NN - j = NN - (j + 1) + 1 := by
  show 1000 - j = 1000 - (j + 1) + 1
  omega
theorem cl_e {M : Mem} {k i n H W L : Nat} (hn : n ≤ 80) (hL : L < 1000) : CLv M k i n H W L n = if L ≤ n then some (-9) else some (nI n) := by
  unfold CLv
  rw [NNj (by omega), f_X3_firstFault_l11, if_pos (Int32.le_refl _)]
  simp only [nI_leI (show L < 2 ^ 31 by omega) (show n < 2 ^ 31 by omega)]
theorem cl_r {M : Mem} {k i n H W L j : Nat} (hn : i + n ≤ 80) (h3 : 3 ≤ j) (hj : j < n) (hL : L < 1000) : CLv M k i n H W L j = if L ≤ j then some (nI j) else (f_X3_fitsRow (nI j) (M (13 + k) (i + j)) (nI W)).bind fun r7 => if r7 = 0 then some (nI j) else CLv M k i n H W L (j + 1) := by
  have e1 : ¬ nI j = 1 := fun z => by
    have := (nI_eq (b := 1) (by omega) (by decide)).mp z
    omega
  have e2 : ¬ nI j = 2 := fun z => by
    have := (nI_eq (b := 2) (by omega) (by decide)).mp z
    omega
  have e3 : (3 : Int32) ≤ nI j := nI_le (a := 3) h3 (by omega)
  unfold CLv
  rw [NNj (by omega), f_X3_firstFault_l11, if_neg (nI_ge hj (by omega)), nI_add, if_pos (inbT (show i + j < 80 by omega) (by decide)), nI_clamp (show i + j < 2 ^ 31 by omega), nmx, if_pos e3]
  simp only [nI_leI (show L < 2 ^ 31 by omega) (show j < 2 ^ 31 by omega), if_neg e1, if_neg e2, nI1]
theorem cl_0 {M : Mem} {k i n : Nat} (hn : i + n ≤ 80) (hj : 0 < n) : CLv M k i n 0 0 3 0 = if M (13 + k) i = 113 then CLv M k i n 0 0 3 1 else some (nI 0) := by
  unfold CLv
  rw [NNj (by omega), f_X3_firstFault_l11, if_neg (nI_ge hj (by omega)), nI_add, if_pos (inbT (show i + 0 < 80 by omega) (by decide)), nI_clamp (show i + 0 < 2 ^ 31 by omega), nmx, if_neg (show ¬ (3 : Int32) ≤ nI 0 by decide), Nat.add_zero]
  unfold f_X3_fitsHead
  rw [if_pos (show nI 0 = 0 from rfl)]
  by_cases e : M (13 + k) i = 113
  · simp only [if_pos e, bnd, if_neg n10, if_neg (show ¬ nI 0 = 1 by decide), if_neg (show ¬ nI 0 = 2 by decide), nI1]
  · simp only [↓reduceIte, if_neg e, bnd]
theorem cl_1 {M : Mem} {k i n : Nat} (hn : i + n ≤ 80) (hj : 1 < n) : (∃ H, 2 ≤ H ∧ H ≤ 5 ∧ M (13 + k) (i + 1) = nI (48 + H) ∧ CLv M k i n 0 0 3 1 = CLv M k i n H 0 3 2) ∨ ((∀ H, 2 ≤ H → H ≤ 5 → ¬ M (13 + k) (i + 1) = nI (48 + H)) ∧ CLv M k i n 0 0 3 1 = some (nI 1)) := by
  unfold CLv
  rw [NNj (show 1 ≤ 100 by omega), f_X3_firstFault_l11, if_neg (nI_ge hj (by omega)), nI_add, if_pos (inbT (show i + 1 < 80 by omega) (by decide)), nI_clamp (show i + 1 < 2 ^ 31 by omega), nmx, if_neg (show ¬ (3 : Int32) ≤ nI 1 by decide)]
  unfold f_X3_fitsHead
  rw [if_neg (show ¬ nI 1 = 0 by decide), if_pos (show nI 1 = 1 from rfl)]
  rcases wi_g (x := M (13 + k) (i + 1)) (lo := 50) (hi := 53) (by decide) (by decide) with ⟨v, a1, a2, a3, a4, -⟩ | ⟨a1, a4, -⟩
  · left
    have a4' : f_X11_isWithin (M (13 + k) (i + 1)) 50 53 = some 1 := a4
    have y : nI v - 48 = nI (v - 48) := pk_sub (b := 48) (by omega)
    refine ⟨v - 48, by omega, by omega, by rw [a3]; congr 1; omega, ?_⟩
    rw [a4', bnd, if_pos (Or.inr rfl), bnd, if_neg n10, nmx, a3, y, nI1]
    exact if_pos (show nI 1 = 1 from rfl)
  · right
    have a4' : f_X11_isWithin (M (13 + k) (i + 1)) 50 53 = some 0 := a4
    refine ⟨fun H g1 g2 => a1 (48 + H) (by omega) (by omega), ?_⟩
    rw [a4', bnd, if_pos (Or.inl rfl), bnd, if_pos z00]
theorem cl_2 {M : Mem} {k i n H : Nat} (hn : i + n ≤ 80) (hj : 2 < n) (hH : H ≤ 5) : (∃ W, 2 ≤ W ∧ W ≤ 6 ∧ M (13 + k) (i + 2) = nI (48 + W) ∧ CLv M k i n H 0 3 2 = CLv M k i n H W (3 + (1 + 2 * W) * H) 3) ∨ ((∀ W, 2 ≤ W → W ≤ 6 → ¬ M (13 + k) (i + 2) = nI (48 + W)) ∧ CLv M k i n H 0 3 2 = some (nI 2)) := by
  unfold CLv
  rw [NNj (show 2 ≤ 100 by omega), f_X3_firstFault_l11, if_neg (nI_ge hj (by omega)), nI_add, if_pos (inbT (show i + 2 < 80 by omega) (by decide)), nI_clamp (show i + 2 < 2 ^ 31 by omega), nmx, if_neg (show ¬ (3 : Int32) ≤ nI 2 by decide)]
  unfold f_X3_fitsHead
  rw [if_neg (show ¬ nI 2 = 0 by decide), if_neg (show ¬ nI 2 = 1 by decide)]
  rcases wi_g (x := M (13 + k) (i + 2)) (lo := 50) (hi := 54) (by decide) (by decide) with ⟨v, a1, a2, a3, a4, -⟩ | ⟨a1, a4, -⟩
  · left
    have a4' : f_X11_isWithin (M (13 + k) (i + 2)) 50 54 = some 1 := a4
    have y : nI v - 48 = nI (v - 48) := pk_sub (b := 48) (by omega)
    refine ⟨v - 48, by omega, by omega, by rw [a3]; congr 1; omega, ?_⟩
    have y3 : (3 : Int32) + nI H * nI (1 + 2 * (v - 48)) = nI (3 + (1 + 2 * (v - 48)) * H) := by
      show nI 3 + _ = _
      rw [pk_mul, nI_add, Nat.mul_comm H]
    rw [a4', bnd, if_pos (Or.inr rfl), bnd, if_neg n10, if_neg (show ¬ nI 2 = 1 by decide), if_pos (show nI 2 = 2 from rfl), nmx, a3, y, rl, bnd, nmx, y3, nI1]
  · right
    have a4' : f_X11_isWithin (M (13 + k) (i + 2)) 50 54 = some 0 := a4
    refine ⟨fun H g1 g2 => a1 (48 + H) (by omega) (by omega), ?_⟩
    rw [a4', bnd, if_pos (Or.inl rfl), bnd, if_pos z00]
/-- the reference's reading -/
theorem dg_m {M : Mem} {T : Nat → Int32} {z n j lo hi : Nat} (hz : z + n ≤ 320) (hT : ∀ j, j < n → M 3 (z + j) = T j) (hp : M 0 12 = nI (z + j)) (hh : hi ≤ 9) (hl : lo ≤ hi) (hj : j ≤ n) : (∃ g, lo ≤ g ∧ g ≤ hi ∧ j < n ∧ T j = nI (48 + g) ∧ f_X12_digit M (nI (z + n)) (nI lo) (nI hi) = some (nI g, up M 0 12 (nI (z + (j + 1))))) ∨ ((j = n ∨ (j < n ∧ ∀ g, lo ≤ g → g ≤ hi → ¬ T j = nI (48 + g))) ∧ f_X12_digit M (nI (z + n)) (nI lo) (nI hi) = some (-9, M)) := by
  unfold f_X12_digit
  rw [hp]
  by_cases e : j = n
  · right
    subst e
    rw [if_pos (Int32.le_refl _)]
    exact ⟨Or.inl rfl, rfl⟩
  · have hj2 : j < n := by omega
    have y1 : (48 : Int32) + nI lo = nI (48 + lo) := nI_add 48 lo
    have y2 : (48 : Int32) + nI hi = nI (48 + hi) := nI_add 48 hi
    rw [if_neg (nI_ge (show z + j < z + n by omega) (by omega)), if_pos (inbT (show z + j < 320 by omega) (by decide)), nI_clamp (show z + j < 2 ^ 31 by omega), hT j hj2, y1, y2]
    rcases wi_g (x := T j) (lo := 48 + lo) (hi := 48 + hi) (by omega) (by omega) with ⟨v, a1, a2, a3, -, a4⟩ | ⟨a1, -, a4⟩
    · left
      refine ⟨v - 48, by omega, by omega, hj2, by rw [a3]; congr 1; omega, ?_⟩
      have y3 : nI (z + j + 1) - 1 = nI (z + j) := by rw [s1 (Nat.succ_pos _)]; rfl
      have y4 : nI v - 48 = nI (v - 48) := pk_sub (b := 48) (by omega)
      rw [a4, bnd, if_neg n10, nmd, nI1, up_ss, y3, if_pos (inbT (show z + j < 320 by omega) (by decide)), nI_clamp (show z + j < 2 ^ 31 by omega), up_n _ _ _ (by decide), hT j hj2, a3, y4]
      rfl
    · right
      rw [a4, bnd, if_pos z00]
      exact ⟨Or.inr ⟨hj2, fun g g1 g2 => a1 (48 + g) (by omega) (by omega)⟩, rfl⟩
