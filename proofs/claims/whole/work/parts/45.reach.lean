/-- reached within k -/
def rW (n : Nat) (src : Nat → Prop) (e : Nat → Nat → Prop) : Nat → Nat → Prop
  | 0, c => src c
  | k + 1, c => rW n src e k c ∨ ∃ d, d < n ∧ e c d ∧ rW n src e k d
theorem rW_m {n : Nat} {src : Nat → Prop} {e : Nat → Nat → Prop} {k c : Nat} (h : rW n src e k c) : ∀ j, rW n src e (k + j) c
  | 0 => h
  | j + 1 => Or.inl (rW_m h j)
theorem rW_le {n : Nat} {src : Nat → Prop} {e : Nat → Nat → Prop} {k j c : Nat} (h : rW n src e k c) (hk : k ≤ j) : rW n src e j c := by
  obtain ⟨i, rfl⟩ : ∃ i, j = k + i := ⟨j - k, by omega⟩
  exact rW_m h i
/-- what only grows below n stands still somewhere up to n -/
theorem pig : ∀ n : Nat, ∀ S : Nat → Nat → Prop, (∀ k c, c < n → S k c → S (k + 1) c) → ∃ j, j ≤ n ∧ ∀ c, c < n → S (j + 1) c → S j c := by
  intro n
  induction n with
  | zero => intro S _; exact ⟨0, Nat.le_refl _, fun c h => absurd h (by omega)⟩
  | succ n ih =>
    intro S hS
    have mono : ∀ c, c < n + 1 → ∀ j k, S k c → S (k + j) c := by
      intro c hc j
      induction j with
      | zero => intro k h; exact h
      | succ j ih2 => intro k h; exact hS (k + j) c hc (ih2 k h)
    by_cases h : ∃ j0, j0 ≤ n ∧ ¬ S j0 n ∧ S (j0 + 1) n
    · obtain ⟨j0, h0, h1, h2⟩ := h
      obtain ⟨j, hj, hs⟩ := ih (fun k c => if k ≤ j0 then S k c else S (k + 1) c) (by
        intro k c hc h
        by_cases a : k + 1 ≤ j0
        · simp only [if_pos a]
          simp only [if_pos (show k ≤ j0 by omega)] at h
          exact hS k c (by omega) h
        · simp only [if_neg a]
          by_cases b : k ≤ j0
          · simp only [if_pos b] at h
            exact hS (k + 1) c (by omega) (hS k c (by omega) h)
          · simp only [if_neg b] at h
            exact hS (k + 1) c (by omega) h)
      by_cases a : j < j0
      · refine ⟨j, by omega, fun c hc z => ?_⟩
        by_cases e : c = n
        · subst e
          have y := mono c hc (j0 - (j + 1)) (j + 1) z
          rw [show j + 1 + (j0 - (j + 1)) = j0 by omega] at y
          exact absurd y h1
        · have y := hs c (by omega)
          simp only [if_pos (show j + 1 ≤ j0 by omega), if_pos (show j ≤ j0 by omega)] at y
          exact y z
      · refine ⟨j + 1, by omega, fun c hc z => ?_⟩
        by_cases e : c = n
        · subst e
          have y := mono c hc (j - j0) (j0 + 1) h2
          rw [show j0 + 1 + (j - j0) = j + 1 by omega] at y
          exact y
        · have y := hs c (by omega)
          simp only [if_neg (show ¬ j + 1 ≤ j0 by omega)] at y
          have y := y z
          by_cases b : j ≤ j0
          · simp only [if_pos b] at y
            exact hS j c (by omega) y
          · simp only [if_neg b] at y
            exact y
    · obtain ⟨j, hj, hs⟩ := ih S (fun k c hc => hS k c (by omega))
      refine ⟨j, by omega, fun c hc z => ?_⟩
      by_cases e : c = n
      · subst e
        exact Classical.byContradiction fun w => h ⟨j, hj, w, z⟩
      · exact hs c (by omega) z
theorem rW_st {n : Nat} {src : Nat → Prop} {e : Nat → Nat → Prop} {k c : Nat} (hc : c < n) (h : rW n src e k c) : rW n src e n c := by
  obtain ⟨j, hj, hs⟩ := pig n (rW n src e) (fun k c _ h => Or.inl h)
  have all : ∀ i c, c < n → rW n src e (j + i) c → rW n src e j c := by
    intro i
    induction i with
    | zero => intro c _ h; exact h
    | succ i ih =>
      intro c hc h
      rcases h with h | ⟨d, hd, he, h⟩
      · exact ih c hc h
      · exact hs c hc (Or.inr ⟨d, hd, he, ih d hd h⟩)
  by_cases a : k ≤ n
  · exact rW_le h a
  · have y : k = j + (k - j) := by omega
    rw [y] at h
    exact rW_le (all _ c hc h) hj
theorem pig_inj {n a : Nat} {p : Nat → Nat} (h : ∀ i, i < a → p i < n) (hi : ∀ i j, i < j → j < a → p i ≠ p j) : a ≤ n := by
  obtain ⟨j, hj, hs⟩ := pig n (fun k c => ∃ i, i < k ∧ p i = c) (fun k c _ ⟨i, h1, h2⟩ => ⟨i, by omega, h2⟩)
  apply Nat.le_of_not_lt
  intro z
  obtain ⟨i, h1, h2⟩ := hs (p j) (h j (by omega)) ⟨j, by omega, rfl⟩
  exact hi i j h1 (by omega) h2
/-- first reached at k -/
def rD (n : Nat) (src : Nat → Prop) (e : Nat → Nat → Prop) (k c : Nat) : Prop := rW n src e k c ∧ ∀ j, j < k → ¬ rW n src e j c
theorem rD_le {n : Nat} {src : Nat → Prop} {e : Nat → Nat → Prop} {k j c : Nat} (h : rD n src e k c) (h2 : rW n src e j c) : k ≤ j := Nat.le_of_not_lt fun z => h.2 j z h2
theorem rD_un {n : Nat} {src : Nat → Prop} {e : Nat → Nat → Prop} {k j c : Nat} (h : rD n src e k c) (h2 : rD n src e j c) : k = j := Nat.le_antisymm (rD_le h h2.1) (rD_le h2 h.1)
theorem rD_ex {n : Nat} {src : Nat → Prop} {e : Nat → Nat → Prop} {c : Nat} : ∀ k, rW n src e k c → ∃ j, j ≤ k ∧ rD n src e j c := by
  intro k
  induction k with
  | zero => intro h; exact ⟨0, Nat.le_refl _, h, fun j hj => absurd hj (by omega)⟩
  | succ k ih =>
    intro h
    by_cases a : rW n src e k c
    · obtain ⟨j, h1, h2⟩ := ih a
      exact ⟨j, by omega, h2⟩
    · exact ⟨k + 1, Nat.le_refl _, h, fun j hj z => a (rW_le z (by omega))⟩
/-- the one before -/
theorem rD_pre {n : Nat} {src : Nat → Prop} {e : Nat → Nat → Prop} {k c : Nat} (h : rD n src e (k + 1) c) : ∃ d, d < n ∧ e c d ∧ rD n src e k d := by
  rcases h.1 with z | ⟨d, hd, he, z⟩
  · exact absurd z (h.2 k (by omega))
  · refine ⟨d, hd, he, z, fun j hj w => h.2 (j + 1) (by omega) (Or.inr ⟨d, hd, he, w⟩)⟩
/-- values made less -/
def nU (v : Nat → Nat) (i z : Nat) : Nat → Nat := fun c => if c = i then z else v c
theorem nU_s (v : Nat → Nat) (i z : Nat) : nU v i z i = z := if_pos rfl
theorem nU_n (v : Nat → Nat) {i c : Nat} (z : Nat) (h : c ≠ i) : nU v i z c = v c := if_neg h
theorem nU_id (v : Nat → Nat) (i : Nat) : nU v i (v i) = v := by
  funext c
  by_cases h : c = i
  · subst h; exact nU_s _ _ _
  · exact nU_n _ _ h
def rSt (n : Nat) (src : Nat → Nat → Prop) (e : Nat → Nat → Nat → Prop) (v : Nat → Nat) (k i : Nat) : Prop := (∀ c t, c < n → t ≤ 998 → v c ≤ t → ∃ j, rW n (src t) (e t) j c) ∧ (∀ c t, c < n → t ≤ 998 → rW n (src t) (e t) k c → v c ≤ t) ∧ ∀ c t, c < i → t ≤ 998 → rW n (src t) (e t) (k + 1) c → v c ≤ t
def rX (n : Nat) (e : Nat → Nat → Nat → Prop) (v : Nat → Nat) (i z : Nat) : Prop := z ≤ v i ∧ ∀ t, t ≤ 998 → (z ≤ t ↔ v i ≤ t ∨ ∃ d, d < n ∧ e t i d ∧ v d ≤ t)
theorem rSt_1 {n : Nat} {src : Nat → Nat → Prop} {e : Nat → Nat → Nat → Prop} {v : Nat → Nat} {k i z : Nat} (h : rSt n src e v k i) (hi : i < n) (x : rX n e v i z) : rSt n src e (nU v i z) k (i + 1) := by
  obtain ⟨h1, h2, h3⟩ := h
  obtain ⟨x1, x2⟩ := x
  refine ⟨fun c t hc ht y => ?_, fun c t hc ht y => ?_, fun c t hc ht y => ?_⟩
  · by_cases a : c = i
    · subst a
      rw [nU_s] at y
      rcases (x2 t ht).mp y with y | ⟨d, hd, he, y⟩
      · exact h1 c t hc ht y
      · obtain ⟨j, w⟩ := h1 d t hd ht y
        exact ⟨j + 1, Or.inr ⟨d, hd, he, w⟩⟩
    · rw [nU_n _ _ a] at y
      exact h1 c t hc ht y
  · by_cases a : c = i
    · subst a
      rw [nU_s]
      exact Nat.le_trans x1 (h2 c t hc ht y)
    · rw [nU_n _ _ a]
      exact h2 c t hc ht y
  · by_cases a : c = i
    · subst a
      rw [nU_s]
      rcases y with y | ⟨d, hd, he, y⟩
      · exact Nat.le_trans x1 (h2 c t hi ht y)
      · exact (x2 t ht).mpr (Or.inr ⟨d, hd, he, h2 d t hd ht y⟩)
    · rw [nU_n _ _ a]
      exact h3 c t (by omega) ht y
theorem rSt_0 {n : Nat} {src : Nat → Nat → Prop} {e : Nat → Nat → Nat → Prop} {v : Nat → Nat} {k : Nat} (h : rSt n src e v k n) : rSt n src e v (k + 1) 0 := ⟨h.1, h.2.2, fun c _ hc => absurd hc (by omega)⟩
def rFn (n : Nat) (src : Nat → Nat → Prop) (e : Nat → Nat → Nat → Prop) (v : Nat → Nat) : Prop := ∀ c t, c < n → t ≤ 998 → (v c ≤ t ↔ ∃ j, rW n (src t) (e t) j c)
theorem rSt_e {n : Nat} {src : Nat → Nat → Prop} {e : Nat → Nat → Nat → Prop} {v : Nat → Nat} {k : Nat} (h : rSt n src e v k 0) (hk : n ≤ k) : rFn n src e v := fun c t hc ht => ⟨h.1 c t hc ht, fun ⟨_, y⟩ => h.2.1 c t hc ht (rW_le (rW_st hc y) hk)⟩
def rFx (n : Nat) (e : Nat → Nat → Nat → Prop) (v : Nat → Nat) (i : Nat) : Prop := ∀ c t, c < i → t ≤ 998 → (∃ d, d < n ∧ e t c d ∧ v d ≤ t) → v c ≤ t
theorem rSt_f {n : Nat} {src : Nat → Nat → Prop} {e : Nat → Nat → Nat → Prop} {v : Nat → Nat} {k : Nat} (h : rSt n src e v k 0) (hf : rFx n e v n) : rFn n src e v := by
  have all : ∀ j c t, c < n → t ≤ 998 → rW n (src t) (e t) j c → v c ≤ t := by
    intro j
    induction j with
    | zero => intro c t hc ht y; exact h.2.1 c t hc ht (rW_le y (by omega))
    | succ j ih =>
      intro c t hc ht y
      rcases y with y | ⟨d, hd, he, y⟩
      · exact ih c t hc ht y
      · exact hf c t hc ht ⟨d, hd, he, ih d t hd ht y⟩
  exact fun c t hc ht => ⟨h.1 c t hc ht, fun ⟨j, y⟩ => all j c t hc ht y⟩
theorem rFx_1 {n : Nat} {e : Nat → Nat → Nat → Prop} {v : Nat → Nat} {i z : Nat} (h : rFx n e v i) (x : rX n e v i z) (hz : v i ≤ z) : nU v i z = v ∧ rFx n e v (i + 1) := by
  have ez : z = v i := Nat.le_antisymm x.1 hz
  subst ez
  refine ⟨nU_id v i, fun c t hc ht y => ?_⟩
  by_cases a : c = i
  · subst a; exact (x.2 t ht).mpr (Or.inr y)
  · exact h c t (by omega) ht y
theorem rFn_eq {n : Nat} {src : Nat → Nat → Prop} {e : Nat → Nat → Nat → Prop} {v v' : Nat → Nat} (h : rFn n src e v) (h' : rFn n src e v') {c t : Nat} (hc : c < n) (ht : t ≤ 998) (hv : v c ≤ t) : v c = v' c := by
  have a := (h' c t hc ht).mpr ((h c t hc ht).mp hv)
  exact Nat.le_antisymm ((h c (v' c) hc (by omega)).mpr ((h' c (v' c) hc (by omega)).mp (Nat.le_refl _))) ((h' c (v c) hc (by omega)).mpr ((h c (v c) hc (by omega)).mp (Nat.le_refl _)))
theorem sd_s {P : Nat → Prop} {s : Nat} (hs : s < 4) : (∃ i, s ≤ i ∧ i < 4 ∧ P i) ↔ P s ∨ ∃ i, s + 1 ≤ i ∧ i < 4 ∧ P i := by
  constructor
  · rintro ⟨i, a, b, h⟩
    by_cases e : i = s
    · subst e; exact Or.inl h
    · exact Or.inr ⟨i, by omega, b, h⟩
  · rintro (h | ⟨i, a, b, h⟩)
    · exact ⟨s, Nat.le_refl _, hs, h⟩
    · exact ⟨i, by omega, b, h⟩
