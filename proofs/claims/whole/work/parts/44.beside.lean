/-- the stone at a side -/
def nbo (q : Nat → Nat → Nat) (c s : Nat) : Option Nat := if s = 0 then (if c / q 0 1 = 0 then none else some (c - q 0 1)) else if s = 1 then (if c % q 0 1 = 0 then none else some (c - 1)) else if s = 2 then (if c % q 0 1 + 1 = q 0 1 then none else some (c + 1)) else (if c / q 0 1 + 1 = q 0 0 then none else some (c + q 0 1))
def oI (x : Option Nat) : Int32 := match x with
  | none => -9
  | some d => nI d
def nrel (q : Nat → Nat → Nat) (c s d : Nat) : Prop := (s = 0 ∧ d / q 0 1 + 1 = c / q 0 1 ∧ d % q 0 1 = c % q 0 1) ∨ (s = 1 ∧ d / q 0 1 = c / q 0 1 ∧ d % q 0 1 + 1 = c % q 0 1) ∨ (s = 2 ∧ d / q 0 1 = c / q 0 1 ∧ d % q 0 1 = c % q 0 1 + 1) ∨ (s = 3 ∧ d / q 0 1 = c / q 0 1 + 1 ∧ d % q 0 1 = c % q 0 1)
theorem dm {w r k : Nat} (hk : k < w) : (w * r + k) / w = r ∧ (w * r + k) % w = k := by
  have hw : 0 < w := by omega
  exact ⟨by rw [Nat.mul_add_div hw, Nat.div_eq_of_lt hk, Nat.add_zero], by rw [Nat.mul_add_mod, Nat.mod_eq_of_lt hk]⟩
theorem dm' {w r k d : Nat} (hk : k < w) (e : d = w * r + k) : d / w = r ∧ d % w = k := by rw [e]; exact dm hk
theorem nbo_rel {q : Nat → Nat → Nat} (hb : Bd q) {c s d : Nat} (hc : c < q 0 0 * q 0 1) (hs : s < 4) (h : nbo q c s = some d) : d < q 0 0 * q 0 1 ∧ nrel q c s d := by
  obtain ⟨h1, h2, h3, h4⟩ := hb.w0 hc
  obtain ⟨r, hr⟩ : ∃ r, r = c / q 0 1 := ⟨_, rfl⟩
  obtain ⟨k, hk⟩ : ∃ k, k = c % q 0 1 := ⟨_, rfl⟩
  unfold nbo at h
  unfold nrel
  rw [← hr, ← hk] at h h4
  rw [← hr] at h2
  rw [← hk] at h3
  rw [← hr, ← hk]
  have up5 : q 0 1 * (r + 1) ≤ q 0 1 * q 0 0 := Nat.mul_le_mul (Nat.le_refl _) (by omega)
  rw [Nat.mul_comm (q 0 1) (q 0 0)] at up5
  rw [Nat.mul_add] at up5
  rcases (show s = 0 ∨ s = 1 ∨ s = 2 ∨ s = 3 by omega) with rfl | rfl | rfl | rfl
  · simp only [↓reduceIte] at h
    by_cases e : r = 0
    · simp only [↓reduceIte, e] at h; cases h
    · simp only [↓reduceIte, e] at h
      obtain rfl := Option.some.inj h
      obtain ⟨r', rfl⟩ : ∃ r', r = r' + 1 := ⟨r - 1, by omega⟩
      rw [Nat.mul_add] at h4
      obtain ⟨z1, z2⟩ := dm' (w := q 0 1) (r := r') (k := k) (d := c - q 0 1) h3 (by omega)
      exact ⟨by omega, Or.inl ⟨rfl, by omega, by omega⟩⟩
  · simp only [↓reduceIte, show ¬ (1 : Nat) = 0 by decide] at h
    by_cases e : k = 0
    · simp only [↓reduceIte, e] at h; cases h
    · simp only [↓reduceIte, e] at h
      obtain rfl := Option.some.inj h
      obtain ⟨z1, z2⟩ := dm' (w := q 0 1) (r := r) (k := k - 1) (d := c - 1) (by omega) (by omega)
      exact ⟨by omega, Or.inr (Or.inl ⟨rfl, by omega, by omega⟩)⟩
  · simp only [↓reduceIte, show ¬ (2 : Nat) = 0 by decide, show ¬ (2 : Nat) = 1 by decide] at h
    by_cases e : k + 1 = q 0 1
    · simp only [↓reduceIte, e] at h; cases h
    · simp only [↓reduceIte, e] at h
      obtain rfl := Option.some.inj h
      obtain ⟨z1, z2⟩ := dm' (w := q 0 1) (r := r) (k := k + 1) (d := c + 1) (by omega) (by omega)
      exact ⟨by omega, Or.inr (Or.inr (Or.inl ⟨rfl, by omega, by omega⟩))⟩
  · simp only [↓reduceIte, show ¬ (3 : Nat) = 0 by decide, show ¬ (3 : Nat) = 1 by decide, show ¬ (3 : Nat) = 2 by decide] at h
    by_cases e : r + 1 = q 0 0
    · simp only [↓reduceIte, e] at h; cases h
    · simp only [↓reduceIte, e] at h
      obtain rfl := Option.some.inj h
      have up6 : q 0 1 * (r + 2) ≤ q 0 1 * q 0 0 := Nat.mul_le_mul (Nat.le_refl _) (by omega)
      rw [Nat.mul_comm (q 0 1) (q 0 0), Nat.mul_add] at up6
      obtain ⟨z1, z2⟩ := dm' (w := q 0 1) (r := r + 1) (k := k) (d := c + q 0 1) h3 (by rw [Nat.mul_add]; omega)
      exact ⟨by omega, Or.inr (Or.inr (Or.inr ⟨rfl, by omega, by omega⟩))⟩
theorem rel_nbo {q : Nat → Nat → Nat} (hb : Bd q) {c s d : Nat} (hc : c < q 0 0 * q 0 1) (hd : d < q 0 0 * q 0 1) (h : nrel q c s d) : nbo q c s = some d := by
  obtain ⟨h1, h2, h3, h4⟩ := hb.w0 hc
  obtain ⟨-, k2, k3, k4⟩ := hb.w0 hd
  unfold nbo
  unfold nrel at h
  obtain ⟨r, hr⟩ : ∃ r, r = c / q 0 1 := ⟨_, rfl⟩
  obtain ⟨k, hk⟩ : ∃ k, k = c % q 0 1 := ⟨_, rfl⟩
  obtain ⟨r', hr'⟩ : ∃ r, r = d / q 0 1 := ⟨_, rfl⟩
  obtain ⟨k', hk'⟩ : ∃ k, k = d % q 0 1 := ⟨_, rfl⟩
  simp only [← hr, ← hk, ← hr', ← hk'] at h h2 h3 h4 k2 k3 k4 ⊢
  rcases h with ⟨rfl, a, b⟩ | ⟨rfl, a, b⟩ | ⟨rfl, a, b⟩ | ⟨rfl, a, b⟩
  · simp only [↓reduceIte, show ¬ r = 0 by omega]
    rw [← a, ← b, Nat.mul_add] at h4
    congr 1; omega
  · simp only [↓reduceIte, show ¬ (1 : Nat) = 0 by decide, show ¬ k = 0 by omega]
    rw [← a, ← b] at h4
    congr 1; omega
  · simp only [↓reduceIte, show ¬ (2 : Nat) = 0 by decide, show ¬ (2 : Nat) = 1 by decide, show ¬ k + 1 = q 0 1 by omega]
    rw [a, b] at k4
    congr 1; omega
  · simp only [↓reduceIte, show ¬ (3 : Nat) = 0 by decide, show ¬ (3 : Nat) = 1 by decide, show ¬ (3 : Nat) = 2 by decide, show ¬ r + 1 = q 0 0 by omega]
    rw [a, b, Nat.mul_add] at k4
    congr 1; omega
/-- the other way -/
theorem nrel_sym {q : Nat → Nat → Nat} {c s d : Nat} (h : nrel q c s d) : nrel q d (3 - s) c := by
  unfold nrel at h ⊢
  generalize c / q 0 1 = a1 at h ⊢
  generalize c % q 0 1 = a2 at h ⊢
  generalize d / q 0 1 = a3 at h ⊢
  generalize d % q 0 1 = a4 at h ⊢
  omega
theorem nbo_sym {q : Nat → Nat → Nat} (hb : Bd q) {c s d : Nat} (hc : c < q 0 0 * q 0 1) (hs : s < 4) (h : nbo q c s = some d) : nbo q d (3 - s) = some c := by
  obtain ⟨h1, h2⟩ := nbo_rel hb hc hs h
  exact rel_nbo hb h1 hc (nrel_sym h2)
theorem oI_9 {q : Nat → Nat → Nat} (hb : Bd q) {c s : Nat} (hc : c < q 0 0 * q 0 1) (hs : s < 4) : (nbo q c s = none ∧ oI (nbo q c s) = -9) ∨ ∃ d, nbo q c s = some d ∧ d < q 0 0 * q 0 1 ∧ oI (nbo q c s) = nI d ∧ ¬ nI d = -9 := by
  have hn := hb.n30
  cases e : nbo q c s with
  | none => exact Or.inl ⟨rfl, rfl⟩
  | some d =>
    have := (nbo_rel hb hc hs e).1
    exact Or.inr ⟨d, rfl, this, rfl, ne9 (by omega)⟩
theorem le0 {n : Nat} (h : n < 2147483648) : nI n ≤ 0 ↔ n = 0 := by
  have := nI_leI (a := n) (b := 0) (by omega) (by decide)
  rw [show nI 0 = 0 from rfl] at this
  rw [this]; omega
theorem nb_c {M : Mem} {q : Nat → Nat → Nat} (hb : Bd q) (hp : PC M q) {c s : Nat} (hc : c < q 0 0 * q 0 1) (hs : s < 4) : f_X3_neighbour M (nI c) (nI s) = some (oI (nbo q c s)) := by
  have hn := hb.n30
  obtain ⟨h1, h2, h3, h4⟩ := hb.w0 hc
  have h5 := hb.pos hc
  obtain ⟨-, -, -, a4, a5⟩ := hp.2.2.1 c hc
  have hwc : c / q 0 1 ≠ 0 → q 0 1 ≤ c := fun z => by
    have y : q 0 1 * 1 ≤ q 0 1 * (c / q 0 1) := Nat.mul_le_mul (Nat.le_refl _) (Nat.pos_of_ne_zero z)
    rw [Nat.mul_one] at y
    exact Nat.le_trans y (Nat.mul_div_le c _)
  have hkc : c % q 0 1 ≤ c := Nat.mod_le _ _
  unfold f_X3_neighbour nbo
  simp only [if_pos (inbT (show c < 30 by omega) (by decide)), nI_clamp (show c < 2 ^ 31 by omega), a4, a5, hp.1, hp.2.1, s1 h1, s1 (show 0 < q 0 0 by omega), le0 (show c / q 0 1 < 2147483648 by omega), le0 (show c % q 0 1 < 2147483648 by omega), nI_leI (show q 0 1 - 1 < 2 ^ 31 by omega) (show c % q 0 1 < 2 ^ 31 by omega), nI_leI (show q 0 0 - 1 < 2 ^ 31 by omega) (show c / q 0 1 < 2 ^ 31 by omega)]
  rcases (show s = 0 ∨ s = 1 ∨ s = 2 ∨ s = 3 by omega) with rfl | rfl | rfl | rfl
  · simp only [↓reduceIte, show nI 0 = 0 from rfl]
    by_cases e : c / q 0 1 = 0
    · simp only [↓reduceIte, e]; rfl
    · simp only [↓reduceIte, e]
      rw [pk_sub (hwc e)]; rfl
  · simp only [↓reduceIte, show ¬ nI 1 = 0 by decide, show nI 1 = 1 from rfl, show ¬ (1 : Nat) = 0 by decide, n10]
    by_cases e : c % q 0 1 = 0
    · simp only [↓reduceIte, e]; rfl
    · simp only [↓reduceIte, e]
      rw [s1 (show 0 < c by omega)]; rfl
  · simp only [↓reduceIte, show ¬ nI 2 = 0 by decide, show ¬ nI 2 = 1 by decide, show nI 2 = 2 from rfl, show ¬ (2 : Nat) = 0 by decide, show ¬ (2 : Nat) = 1 by decide, show ¬ (2 : Int32) = 0 by decide, show ¬ (2 : Int32) = 1 by decide]
    by_cases e : c % q 0 1 + 1 = q 0 1
    · simp only [↓reduceIte, e, show q 0 1 - 1 ≤ c % q 0 1 by omega]; rfl
    · simp only [↓reduceIte, e, show ¬ q 0 1 - 1 ≤ c % q 0 1 by omega]
      rw [nI1]; rfl
  · simp only [↓reduceIte, show ¬ nI 3 = 0 by decide, show ¬ nI 3 = 1 by decide, show ¬ nI 3 = 2 by decide, show ¬ (3 : Nat) = 0 by decide, show ¬ (3 : Nat) = 1 by decide, show ¬ (3 : Nat) = 2 by decide]
    by_cases e : c / q 0 1 + 1 = q 0 0
    · simp only [↓reduceIte, e, show q 0 0 - 1 ≤ c / q 0 1 by omega]; rfl
    · simp only [↓reduceIte, e, show ¬ q 0 0 - 1 ≤ c / q 0 1 by omega]
      rw [nI_add]; rfl
theorem nb_m {M : Mem} {q : Nat → Nat → Nat} (hb : Bd q) (hp : PM M q) {c s : Nat} (hc : c < q 0 0 * q 0 1) (hs : s < 4) : f_X12_beside M (nI c) (nI s) = some (oI (nbo q c s)) := by
  have hn := hb.n30
  obtain ⟨h1, h2, h3, h4⟩ := hb.w0 hc
  have h5 := hb.pos hc
  have hwc : c / q 0 1 ≠ 0 → q 0 1 ≤ c := fun z => by
    have y : q 0 1 * 1 ≤ q 0 1 * (c / q 0 1) := Nat.mul_le_mul (Nat.le_refl _) (Nat.pos_of_ne_zero z)
    rw [Nat.mul_one] at y
    exact Nat.le_trans y (Nat.mul_div_le c _)
  have hkc : c % q 0 1 ≤ c := Nat.mod_le _ _
  unfold f_X12_beside nbo
  simp only [hp.1, hp.2.1, if_pos (nz h1 (by omega)), pk_div (show c < 2 ^ 31 by omega) h1 (show q 0 1 < 2 ^ 31 by omega), remI (show c < 2147483648 by omega) h1 (by omega), nmd, s1 h1, s1 (show 0 < q 0 0 by omega), le0 (show c / q 0 1 < 2147483648 by omega), le0 (show c % q 0 1 < 2147483648 by omega), nI_leI (show q 0 1 - 1 < 2 ^ 31 by omega) (show c % q 0 1 < 2 ^ 31 by omega), nI_leI (show q 0 0 - 1 < 2 ^ 31 by omega) (show c / q 0 1 < 2 ^ 31 by omega)]
  rcases (show s = 0 ∨ s = 1 ∨ s = 2 ∨ s = 3 by omega) with rfl | rfl | rfl | rfl
  · simp only [↓reduceIte, show nI 0 = 0 from rfl]
    by_cases e : c / q 0 1 = 0
    · simp only [↓reduceIte, e]; rfl
    · simp only [↓reduceIte, e]
      rw [pk_sub (hwc e)]; rfl
  · simp only [↓reduceIte, show ¬ nI 1 = 0 by decide, show nI 1 = 1 from rfl, show ¬ (1 : Nat) = 0 by decide, n10]
    by_cases e : c % q 0 1 = 0
    · simp only [↓reduceIte, e]; rfl
    · simp only [↓reduceIte, e]
      rw [s1 (show 0 < c by omega)]; rfl
  · simp only [↓reduceIte, show ¬ nI 2 = 0 by decide, show ¬ nI 2 = 1 by decide, show nI 2 = 2 from rfl, show ¬ (2 : Nat) = 0 by decide, show ¬ (2 : Nat) = 1 by decide, show ¬ (2 : Int32) = 0 by decide, show ¬ (2 : Int32) = 1 by decide]
    by_cases e : c % q 0 1 + 1 = q 0 1
    · simp only [↓reduceIte, e, show q 0 1 - 1 ≤ c % q 0 1 by omega]; rfl
    · simp only [↓reduceIte, e, show ¬ q 0 1 - 1 ≤ c % q 0 1 by omega]
      rw [nI1]; rfl
  · simp only [↓reduceIte, show ¬ nI 3 = 0 by decide, show ¬ nI 3 = 1 by decide, show ¬ nI 3 = 2 by decide, show ¬ (3 : Nat) = 0 by decide, show ¬ (3 : Nat) = 1 by decide, show ¬ (3 : Nat) = 2 by decide]
    by_cases e : c / q 0 1 + 1 = q 0 0
    · simp only [↓reduceIte, e, show q 0 0 - 1 ≤ c / q 0 1 by omega]; rfl
    · simp only [↓reduceIte, e, show ¬ q 0 0 - 1 ≤ c / q 0 1 by omega]
      rw [nI_add]; rfl
/-- how far apart two stones come in a month -/
def dd (q : Nat → Nat → Nat) (c d m : Nat) : Nat := (hN q c m - hN q d m) + (hN q d m - hN q c m)
theorem dd_le {q : Nat → Nat → Nat} (hb : Bd q) {c d m : Nat} (hc : c < q 0 0 * q 0 1) (hd : d < q 0 0 * q 0 1) (hm : m < 12) : dd q c d m ≤ 500 := by
  have := hN_le hb hc hm
  have := hN_le hb hd hm
  unfold dd; omega
theorem dd_sym (q : Nat → Nat → Nat) (c d m : Nat) : dd q c d m = dd q d c m := by unfold dd; omega
def okT (q : Nat → Nat → Nat) (c d f l v : Nat) : Prop := ∀ m, f ≤ m → m ≤ l → dd q c d m ≤ v
theorem iS_l {Mm : Mem} {q : Nat → Nat → Nat} (hb : Bd q) (hm : PM Mm q) {c d l v : Nat} (hc : c < q 0 0 * q 0 1) (hd : d < q 0 0 * q 0 1) (hl : l < 12) (hv : v ≤ 999) (N : Nat) : ∀ k f : Nat, f ≤ l + 1 → l + 1 - f < k → (okT q c d f l v ∧ f_X12_isStep_l3 N Mm (nI c) (nI d) (nI l) (nI v) k (nI f) = some 1) ∨ (¬ okT q c d f l v ∧ f_X12_isStep_l3 N Mm (nI c) (nI d) (nI l) (nI v) k (nI f) = some 0) := by
  intro k
  induction k with
  | zero => intro f _ h; omega
  | succ k ih =>
    intro f h1 h2
    rw [f_X12_isStep_l3]
    by_cases e : f = l + 1
    · subst e
      left
      rw [if_pos (nI_lt (show l < l + 1 by omega) (by omega))]
      exact ⟨fun m a b => absurd a (by omega), rfl⟩
    · have e1 : ¬ nI l < nI f := nI_nlt (by omega) (by omega)
      have hf : f < 12 := by omega
      have a1 := hN_le hb hc hf
      have a2 := hN_le hb hd hf
      have a3 := dd_le hb hc hd hf
      simp only [↓reduceIte, e1, hO_m hb hm hc hf, hO_m hb hm hd hf, bnd, sz_m (show hN q c f < 1000000 by omega) (show hN q d f < 1000000 by omega), nI1]
      rw [show hN q c f - hN q d f + (hN q d f - hN q c f) = dd q c d f from rfl]
      by_cases c1 : dd q c d f ≤ v
      · simp only [↓reduceIte, nI_le c1 (show v < 2 ^ 31 by omega)]
        rcases ih (f + 1) (by omega) (by omega) with ⟨i1, i2⟩ | ⟨i1, i2⟩
        · left; refine ⟨fun m a b => ?_, i2⟩
          by_cases em : m = f
          · subst em; exact c1
          · exact i1 m (by omega) b
        · right; exact ⟨fun z => i1 (fun m a b => z m (by omega) b), i2⟩
      · simp only [↓reduceIte, nI_ge (show v < dd q c d f by omega) (show dd q c d f < 2 ^ 31 by omega)]
        right; exact ⟨fun z => c1 (z f (Nat.le_refl _) (by omega)), trivial⟩
theorem iS_m {Mm : Mem} {q : Nat → Nat → Nat} (hb : Bd q) (hm : PM Mm q) {c d f l v : Nat} (hc : c < q 0 0 * q 0 1) (hd : d < q 0 0 * q 0 1) (hf : f ≤ l) (hl : l < 12) (hv : v ≤ 999) : (okT q c d f l v ∧ f_X12_isStep NN Mm (nI c) (nI d) (nI f) (nI l) (nI v) = some 1) ∨ (¬ okT q c d f l v ∧ f_X12_isStep NN Mm (nI c) (nI d) (nI f) (nI l) (nI v) = some 0) :=
  iS_l hb hm hc hd hl hv NN NN f (by omega) (show _ < 1000 by omega)
/-- statues -/
theorem be_l {Mm : Mem} {q : Nat → Nat → Nat} (hb : Bd q) (hm : PM Mm q) {c d : Nat} (hc : c < q 0 0 * q 0 1) (hd : d < q 0 0 * q 0 1) (N : Nat) : ∀ k s : Nat, s ≤ 4 → 4 - s < k → ((∃ t, s ≤ t ∧ t < 4 ∧ nbo q c t = some d) ∧ f_X12_areBeside_l2 N Mm (nI c) (nI d) k (nI s) = some 1) ∨ ((¬ ∃ t, s ≤ t ∧ t < 4 ∧ nbo q c t = some d) ∧ f_X12_areBeside_l2 N Mm (nI c) (nI d) k (nI s) = some 0) := by
  have hn := hb.n30
  intro k
  induction k with
  | zero => intro s _ h; omega
  | succ k ih =>
    intro s h1 h2
    rw [f_X12_areBeside_l2]
    by_cases e : s = 4
    · subst e
      right
      rw [if_pos (by decide)]
      exact ⟨fun ⟨t, a, b, _⟩ => by omega, rfl⟩
    · have e1 : ¬ (4 : Int32) ≤ nI s := nI_ge (a := s) (b := 4) (by omega) (by omega)
      simp only [↓reduceIte, e1, nb_m hb hm hc (show s < 4 by omega), bnd, nI1]
      have next : ¬ nbo q c s = some d → ((∃ t, s + 1 ≤ t ∧ t < 4 ∧ nbo q c t = some d) ↔ ∃ t, s ≤ t ∧ t < 4 ∧ nbo q c t = some d) := fun z => by
        constructor
        · rintro ⟨t, a, b, y⟩; exact ⟨t, by omega, b, y⟩
        · rintro ⟨t, a, b, y⟩
          refine ⟨t, ?_, b, y⟩
          by_cases et : t = s
          · subst et; exact absurd y z
          · omega
      have on : ¬ nbo q c s = some d → ¬ oI (nbo q c s) = nI d → ((∃ t, s ≤ t ∧ t < 4 ∧ nbo q c t = some d) ∧ (if oI (nbo q c s) = nI d then some 1 else f_X12_areBeside_l2 N Mm (nI c) (nI d) k (nI (s + 1))) = some 1) ∨ ((¬ ∃ t, s ≤ t ∧ t < 4 ∧ nbo q c t = some d) ∧ (if oI (nbo q c s) = nI d then some 1 else f_X12_areBeside_l2 N Mm (nI c) (nI d) k (nI (s + 1))) = some 0) := fun z y => by
        rw [if_neg y, ← next z]
        exact ih (s + 1) (by omega) (by omega)
      rcases oI_9 hb hc (show s < 4 by omega) with ⟨n1, n2⟩ | ⟨d', n1, n2, n3, n4⟩
      · exact on (by rw [n1]; exact fun z => by cases z) (by rw [n2]; exact fun z => ne9 (show d < 2147483648 by omega) z.symm)
      · by_cases ed : d' = d
        · subst ed
          left
          rw [if_pos n3]
          exact ⟨⟨s, Nat.le_refl _, by omega, n1⟩, rfl⟩
        · refine on (by rw [n1]; exact fun z => ed (Option.some.inj z)) (by rw [n3]; exact fun z => ed ((nI_eq (by omega) (by omega)).mp z))
theorem be_same {q : Nat → Nat → Nat} (hb : Bd q) {c d : Nat} (hcn : c < q 0 0 * q 0 1) (hd : d < q 0 0 * q 0 1) : (∃ t, 0 ≤ t ∧ t < 4 ∧ nbo q c t = some d) ↔ ((c / q 0 1 - d / q 0 1) + (d / q 0 1 - c / q 0 1)) + ((c % q 0 1 - d % q 0 1) + (d % q 0 1 - c % q 0 1)) = 1 := by
  have r1 : (∃ t, 0 ≤ t ∧ t < 4 ∧ nbo q c t = some d) ↔ ∃ t, t < 4 ∧ nrel q c t d := by
    constructor
    · rintro ⟨t, -, t4, y⟩; exact ⟨t, t4, (nbo_rel hb hcn t4 y).2⟩
    · rintro ⟨t, t4, y⟩; exact ⟨t, Nat.zero_le _, t4, rel_nbo hb hcn hd y⟩
  rw [r1]
  unfold nrel
  generalize c / q 0 1 = a1
  generalize c % q 0 1 = a2
  generalize d / q 0 1 = a3
  generalize d % q 0 1 = a4
  constructor
  · rintro ⟨t, t4, y⟩; omega
  · intro z
    rcases (show a3 + 1 = a1 ∧ a4 = a2 ∨ a3 = a1 ∧ a4 + 1 = a2 ∨ a3 = a1 ∧ a4 = a2 + 1 ∨ a3 = a1 + 1 ∧ a4 = a2 by omega) with w | w | w | w
    · exact ⟨0, by decide, Or.inl ⟨rfl, w⟩⟩
    · exact ⟨1, by decide, Or.inr (Or.inl ⟨rfl, w⟩)⟩
    · exact ⟨2, by decide, Or.inr (Or.inr (Or.inl ⟨rfl, w⟩))⟩
    · exact ⟨3, by decide, Or.inr (Or.inr (Or.inr ⟨rfl, w⟩))⟩
theorem sta_l {Mc Mm : Mem} {q : Nat → Nat → Nat} (hb : Bd q) (hc : PC Mc q) (hm : PM Mm q) {c d v : Nat} (hcn : c < q 0 0 * q 0 1) (hd : d < q 0 0 * q 0 1) (hv : v ≤ 999) : ∀ k m : Nat, m ≤ 12 → 12 - m < k → ∃ r, f_X11_statue_l52 NN Mc (nI c) (nI d) (nI v) k (nI m) = some r ∧ f_X12_statue_l47 NN Mm (nI c) (nI d) (nI v) k (nI m) = some r := by
  intro k
  induction k with
  | zero => intro m _ h; omega
  | succ k ih =>
    intro m h1 h2
    rw [f_X11_statue_l52, f_X12_statue_l47]
    by_cases e : m = 12
    · subst e
      simp only [↓reduceIte, show (12 : Int32) ≤ nI 12 by decide]
      exact ⟨_, rfl, rfl⟩
    · have e1 : ¬ (12 : Int32) ≤ nI m := nI_ge (a := m) (b := 12) (by omega) (by omega)
      have hm12 : m < 12 := by omega
      have a1 := hN_le hb hcn hm12
      have a2 := hN_le hb hd hm12
      have a3 := dd_le hb hcn hd hm12
      have ok1 : okT q c d m m v ↔ dd q c d m ≤ v := ⟨fun z => z m (Nat.le_refl _) (Nat.le_refl _), fun z m' a b => by rw [show m' = m by omega]; exact z⟩
      simp only [↓reduceIte, e1, hO_c hb hc hcn hm12, hO_c hb hc hd hm12, bnd, abI (show hN q c m < 1000000 by omega) (show hN q d m < 1000000 by omega), nI1]
      rw [show hN q c m - hN q d m + (hN q d m - hN q c m) = dd q c d m from rfl]
      rcases iS_m hb hm hcn hd (Nat.le_refl m) hm12 hv with ⟨i1, i2⟩ | ⟨i1, i2⟩
      · simp only [↓reduceIte, i2, bnd, n10, nI_le (ok1.mp i1) (show v < 2 ^ 31 by omega)]
        exact ih (m + 1) (by omega) (by omega)
      · have i3 : v < dd q c d m := Nat.lt_of_not_le fun z => i1 (ok1.mpr z)
        simp only [↓reduceIte, i2, bnd, nI_ge i3 (show dd q c d m < 2 ^ 31 by omega)]
        exact ⟨_, rfl, rfl⟩
theorem sim_statue {Mc Mm : Mem} (h : Sim Mc Mm) (x1 : Int32) (x2 : Int32) (x3 : Int32) : ∃ (r : Int32), f_X11_statue NN Mc x1 x2 x3 = some r ∧ f_X12_statue NN Mm x1 x2 x3 = some r := by
  obtain ⟨⟨q, hb, h9, hc, hm⟩, -⟩ := h
  have hn := hb.n30
  unfold f_X11_statue f_X12_statue
  rcases has_cs hb hc hm x1 with ⟨c, hcn, rfl, e1, e2⟩ | ⟨e1, e2⟩
  · simp only [↓reduceIte, e1, e2, bnd, n10]
    rcases has_cs hb hc hm x2 with ⟨d, hd, rfl, d1, d2⟩ | ⟨d1, d2⟩
    · simp only [↓reduceIte, d1, d2, bnd, n10]
      rcases ap_cs x3 with ⟨v, hv, rfl, g1, g2⟩ | ⟨g1, g2⟩
      · simp only [↓reduceIte, g1, g2, bnd, n10]
        obtain ⟨r, r1, r2⟩ := sta_l hb hc hm hcn hd hv NN 0 (by decide) (by decide)
        have r1' : f_X11_statue_l52 NN Mc (nI c) (nI d) (nI v) NN 0 = some r := r1
        have r2' : f_X12_statue_l47 NN Mm (nI c) (nI d) (nI v) NN 0 = some r := r2
        obtain ⟨h1, h2, h3, h4⟩ := hb.w0 hcn
        obtain ⟨-, k2, k3, k4⟩ := hb.w0 hd
        have h5 := hb.pos hcn
        obtain ⟨-, -, -, a4, a5⟩ := hc.2.2.1 c hcn
        obtain ⟨-, -, -, b4, b5⟩ := hc.2.2.1 d hd
        have ac : f_X3_areBeside Mc (nI c) (nI d) = if nI (((c / q 0 1 - d / q 0 1) + (d / q 0 1 - c / q 0 1)) + ((c % q 0 1 - d % q 0 1) + (d % q 0 1 - c % q 0 1))) = 1 then some 1 else some 0 := by
          unfold f_X3_areBeside
          simp only [if_pos (inbT (show c < 30 by omega) (by decide)), if_pos (inbT (show d < 30 by omega) (by decide)), nI_clamp (show c < 2 ^ 31 by omega), nI_clamp (show d < 2 ^ 31 by omega), a4, a5, b4, b5, abI (show c / q 0 1 < 1000000 by omega) (show d / q 0 1 < 1000000 by omega), abI (show c % q 0 1 < 1000000 by omega) (show d % q 0 1 < 1000000 by omega), nI_add]
        have same := be_same hb hcn hd
        have bd1 : ((c / q 0 1 - d / q 0 1) + (d / q 0 1 - c / q 0 1)) + ((c % q 0 1 - d % q 0 1) + (d % q 0 1 - c % q 0 1)) ≤ 100 := by
          clear same ac
          generalize c / q 0 1 = a1 at *
          generalize c % q 0 1 = a2 at *
          generalize d / q 0 1 = a3 at *
          generalize d % q 0 1 = a4 at *
          omega
        rcases be_l hb hm hcn hd NN NN 0 (by decide) (by decide) with ⟨i1, i2⟩ | ⟨i1, i2⟩
        · have i2' : f_X12_areBeside NN Mm (nI c) (nI d) = some 1 := i2
          have i3 : f_X3_areBeside Mc (nI c) (nI d) = some 1 := by
            rw [ac, if_pos (by rw [same.mp i1]; rfl)]
          simp only [↓reduceIte, i2', i3, bnd, n10]
          exact ⟨r, r1', r2'⟩
        · have i2' : f_X12_areBeside NN Mm (nI c) (nI d) = some 0 := i2
          have i3 : f_X3_areBeside Mc (nI c) (nI d) = some 0 := by
            exact ac.trans (if_neg (fun z => i1 (same.mpr ((nI_eq (b := 1) (Nat.lt_of_le_of_lt bd1 (by decide)) (by decide)).mp z))))
          simp only [↓reduceIte, i2', i3, bnd]
          exact ⟨_, rfl, rfl⟩
      · rw [g1, g2]; exact ⟨_, rfl, rfl⟩
    · rw [d1, d2]; exact ⟨_, rfl, rfl⟩
  · rw [e1, e2]; exact ⟨_, rfl, rfl⟩
