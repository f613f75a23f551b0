def eB (q : Nat → Nat → Nat) (f l v c d : Nat) : Prop := nb q c d ∧ okT q c d f l v
theorem okT_sym {q : Nat → Nat → Nat} {c d f l v : Nat} (h : okT q c d f l v) : okT q d c f l v := fun m a b => by rw [dd_sym]; exact h m a b
theorem eB_sym {q : Nat → Nat → Nat} (hb : Bd q) {f l v c d : Nat} (hc : c < q 0 0 * q 0 1) (h : eB q f l v c d) : eB q f l v d c := ⟨nb_sym hb hc h.1, okT_sym h.2⟩
abbrev WB (q : Nat → Nat → Nat) (a f l v : Nat) : Nat → Nat → Prop := rW (q 0 0 * q 0 1) (sL a 0) (eB q f l v)
abbrev DB (q : Nat → Nat → Nat) (a f l v : Nat) : Nat → Nat → Prop := rD (q 0 0 * q 0 1) (sL a 0) (eB q f l v)
/-- how far each is, told in row r -/
def DV (M : Mem) (r : Nat) (X : Int32) (q : Nat → Nat → Nat) (a f l v : Nat) : Prop := ∀ c, c < q 0 0 * q 0 1 → (∃ k, k ≤ 30 ∧ DB q a f l v k c ∧ M r c = nI k) ∨ ((∀ j, ¬ WB q a f l v j c) ∧ M r c = X)
def FV (M : Mem) (q : Nat → Nat → Nat) (a f l v L : Nat) : Prop := ∀ c, c < q 0 0 * q 0 1 → (∃ k, k ≤ L ∧ DB q a f l v k c ∧ M 11 c = nI k) ∨ (¬ WB q a f l v L c ∧ M 11 c = nI 999999)
def FP (M : Mem) (q : Nat → Nat → Nat) (a f l v L i s : Nat) : Prop := ∀ c, c < q 0 0 * q 0 1 → (∃ k, k ≤ L + 1 ∧ DB q a f l v k c ∧ M 11 c = nI k) ∨ (¬ WB q a f l v L c ∧ M 11 c = nI 999999 ∧ (∀ d, d < i → DB q a f l v L d → ¬ eB q f l v d c) ∧ ∀ t, t < s → DB q a f l v L i → nbo q i t = some c → ¬ okT q i c f l v)
theorem FV_P {M : Mem} {q : Nat → Nat → Nat} {a f l v L : Nat} (h : FV M q a f l v L) : FP M q a f l v L 0 0 := fun c hc => by
  rcases h c hc with ⟨k, h1, h2⟩ | ⟨h1, h2⟩
  · exact Or.inl ⟨k, by omega, h2⟩
  · exact Or.inr ⟨h1, h2, fun d z => absurd z (by omega), fun t z => absurd z (by omega)⟩
theorem FP_V {M : Mem} {q : Nat → Nat → Nat} (hb : Bd q) {a f l v L : Nat} (h : FP M q a f l v L (q 0 0 * q 0 1) 0) : FV M q a f l v (L + 1) := fun c hc => by
  rcases h c hc with h1 | ⟨h1, h2, h3, -⟩
  · exact Or.inl h1
  · refine Or.inr ⟨fun z => ?_, h2⟩
    rcases z with z | ⟨d, hd, he, z⟩
    · exact h1 z
    · obtain ⟨j, hj, y⟩ := rD_ex L z
      by_cases e : j = L
      · subst e
        exact h3 d hd y (eB_sym hb hc he)
      · exact h1 (rW_le (k := j + 1) (Or.inr ⟨d, hd, he, y.1⟩) (by omega))
theorem FP_n {M : Mem} {q : Nat → Nat → Nat} {a f l v L i : Nat} (h : FP M q a f l v L i 4) : FP M q a f l v L (i + 1) 0 := fun c hc => by
  rcases h c hc with h1 | ⟨h1, h2, h3, h4⟩
  · exact Or.inl h1
  · refine Or.inr ⟨h1, h2, fun d hd y z => ?_, fun t z => absurd z (by omega)⟩
    by_cases e : d = i
    · subst e
      obtain ⟨⟨s, hs, w⟩, z2⟩ := z
      exact h4 s hs y w z2
    · exact h3 d (by omega) y z
theorem FP_o {M : Mem} {q : Nat → Nat → Nat} {a f l v L i s : Nat} (h : FP M q a f l v L i s) (hD : ¬ DB q a f l v L i) : FP M q a f l v L (i + 1) 0 := fun c hc => by
  rcases h c hc with h1 | ⟨h1, h2, h3, h4⟩
  · exact Or.inl h1
  · refine Or.inr ⟨h1, h2, fun d hd y z => ?_, fun t z => absurd z (by omega)⟩
    by_cases e : d = i
    · subst e; exact hD y
    · exact h3 d (by omega) y z
theorem FP_s {M : Mem} {q : Nat → Nat → Nat} {a f l v L i s : Nat} (h : FP M q a f l v L i s) (hs : ∀ c, nbo q i s = some c → okT q i c f l v → M 11 c = nI 999999 → False) : FP M q a f l v L i (s + 1) := fun c hc => by
  rcases h c hc with h1 | ⟨h1, h2, h3, h4⟩
  · exact Or.inl h1
  · refine Or.inr ⟨h1, h2, h3, fun t ht y z w => ?_⟩
    by_cases e : t = s
    · subst e; exact hs c z w h2
    · exact h4 t (by omega) y z w
theorem ff_s {q : Nat → Nat → Nat} (hb : Bd q) {a f l v L i : Nat} (hf : f ≤ l) (hl : l < 12) (hv : v ≤ 999) (hL : L < 30) (hi : i < q 0 0 * q 0 1) (kc : Mem → Option Mem) : ∀ k s : Nat, ∀ M : Mem, s ≤ 4 → 4 - s < k → PM M q → FP M q a f l v L i s → ∃ M', f_X12_findFar_l64 kc NN (nI f) (nI l) (nI v) (nI L) (nI i) k M (nI s) = kc M' ∧ (∀ r, r ≠ 11 → M' r = M r) ∧ FP M' q a f l v L (i + 1) 0 := by
  have hn := hb.n30
  intro k
  induction k with
  | zero => intro s M _ h; omega
  | succ k ih =>
    intro s M h1 h2 hp hF
    rw [f_X12_findFar_l64]
    by_cases e : s = 4
    · subst e
      rw [if_pos (by decide)]
      exact ⟨M, rfl, fun _ _ => rfl, FP_n hF⟩
    · have e1 : ¬ (4 : Int32) ≤ nI s := nI_ge (a := s) (b := 4) (by omega) (by omega)
      have h4 : s < 4 := by omega
      simp only [↓reduceIte, e1, if_pos (inbT (show i < 30 by omega) (by decide)), nI_clamp (show i < 2 ^ 31 by omega), nb_m hb hp hi h4, bnd, nI1]
      by_cases w : M 11 i = nI L
      · rw [if_pos w]
        have hD : DB q a f l v L i := by
          rcases hF i hi with ⟨k', g1, g2, g3⟩ | ⟨g1, g2, -⟩
          · rw [g3] at w
            have := (nI_eq (by omega) (by omega)).mp w
            subst this; exact g2
          · rw [g2] at w
            have := (nI_eq (by decide) (by omega)).mp w
            omega
        cases en : nbo q i s with
        | none =>
          simp only [oI, ↓reduceIte]
          exact ih (s + 1) M (by omega) (by omega) hp (FP_s hF fun c z => by rw [en] at z; cases z)
        | some d =>
          have hd := (nbo_rel hb hi h4 en).1
          have hdi := nbo_ne hb hi h4 en
          simp only [oI, ↓reduceIte, ne9 (show d < 2147483648 by omega), if_pos (inbT (show d < 30 by omega) (by decide)), nI_clamp (show d < 2 ^ 31 by omega)]
          by_cases w2 : M 11 d = 999999
          · rw [if_pos w2]
            rcases iS_m hb hp hi hd hf hl hv with ⟨i1, i2⟩ | ⟨i1, i2⟩
            · simp only [↓reduceIte, i2, bnd, n10, nmd]
              have nD : DB q a f l v (L + 1) d := by
                refine ⟨Or.inr ⟨i, hi, eB_sym hb hi ⟨⟨s, h4, en⟩, i1⟩, hD.1⟩, fun j hj z => ?_⟩
                rcases hF d hd with ⟨k', g1, g2, g3⟩ | ⟨g1, -⟩
                · rw [w2] at g3
                  have := (nI_eq (a := 999999) (by decide) (by omega)).mp g3
                  omega
                · exact g1 (rW_le z (by omega))
              have hF2 : FP (up M 11 d (nI (L + 1))) q a f l v L i (s + 1) := fun c hc => by
                by_cases u : c = d
                · subst u
                  exact Or.inl ⟨L + 1, Nat.le_refl _, nD, up_ss _ _ _ _⟩
                · rw [up_sn _ _ _ u]
                  rcases hF c hc with g | ⟨g1, g2, g3, g4⟩
                  · exact Or.inl g
                  · refine Or.inr ⟨g1, g2, g3, fun t ht y z => ?_⟩
                    by_cases e : t = s
                    · subst e
                      rw [en] at z
                      exact absurd (Option.some.inj z).symm u
                    · exact g4 t (by omega) y z
              obtain ⟨M', r1, r2, r3⟩ := ih (s + 1) (up M 11 d (nI (L + 1))) (by omega) (by omega) (hp.ag (um_ag (by omega))) hF2
              exact ⟨M', r1, fun r hr => by rw [r2 r hr, up_n _ _ _ hr], r3⟩
            · simp only [↓reduceIte, i2, bnd]
              exact ih (s + 1) M (by omega) (by omega) hp (FP_s hF fun c z y _ => by
                rw [en] at z
                obtain rfl := Option.some.inj z
                exact i1 y)
          · rw [if_neg w2]
            exact ih (s + 1) M (by omega) (by omega) hp (FP_s hF fun c z _ y => by
              rw [en] at z
              obtain rfl := Option.some.inj z
              exact w2 y)
      · rw [if_neg w]
        refine ⟨M, rfl, fun _ _ => rfl, FP_o hF fun z => w ?_⟩
        rcases hF i hi with ⟨k', g1, g2, g3⟩ | ⟨g1, -⟩
        · rw [g3, rD_un z g2]
        · exact absurd z.1 g1
theorem exf {M M' : Mem} (h : ∀ r, r ≠ 11 → M' r = M r) : AgM M M' := ⟨fun k a b => h k (by omega), fun j _ => by rw [h 0 (by decide)]⟩
theorem ff_p {q : Nat → Nat → Nat} (hb : Bd q) {a f l v L : Nat} (hf : f ≤ l) (hl : l < 12) (hv : v ≤ 999) (hL : L < 30) (kc : Mem → Option Mem) : ∀ k i : Nat, ∀ M : Mem, i ≤ q 0 0 * q 0 1 → q 0 0 * q 0 1 - i < k → PM M q → FP M q a f l v L i 0 → ∃ M', f_X12_findFar_l52 kc NN (nI f) (nI l) (nI v) (nI L) k M (nI i) = kc M' ∧ (∀ r, r ≠ 11 → M' r = M r) ∧ FV M' q a f l v (L + 1) := by
  have hn := hb.n30
  intro k
  induction k with
  | zero => intro i M _ h; omega
  | succ k ih =>
    intro i M h1 h2 hp hF
    rw [f_X12_findFar_l52, al_m hp, bnd]
    by_cases e : i = q 0 0 * q 0 1
    · rw [if_pos (by rw [e]; exact Int32.le_refl _)]
      rw [e] at hF
      exact ⟨M, rfl, fun _ _ => rfl, FP_V hb hF⟩
    · have hi : i < q 0 0 * q 0 1 := by omega
      have e1 : ¬ nI (q 0 0 * q 0 1) ≤ nI i := nI_ge hi (by omega)
      rw [if_neg e1]
      obtain ⟨M1, r1, r2, r3⟩ := ff_s hb (a := a) hf hl hv hL hi (fun M17 => f_X12_findFar_l52 kc NN (nI f) (nI l) (nI v) (nI L) k M17 (nI i + 1)) NN 0 M (by decide) (by decide) hp hF
      have r1' : f_X12_findFar_l64 (fun M17 => f_X12_findFar_l52 kc NN (nI f) (nI l) (nI v) (nI L) k M17 (nI i + 1)) NN (nI f) (nI l) (nI v) (nI L) (nI i) NN M 0 = f_X12_findFar_l52 kc NN (nI f) (nI l) (nI v) (nI L) k M1 (nI i + 1) := r1
      rw [r1', nI1]
      obtain ⟨M2, s1, s2, s3⟩ := ih (i + 1) M1 (by omega) (by omega) (hp.ag (exf r2)) r3
      exact ⟨M2, s1, fun r hr => (s2 r hr).trans (r2 r hr), s3⟩
theorem ff_q {q : Nat → Nat → Nat} (hb : Bd q) {a f l v : Nat} (hf : f ≤ l) (hl : l < 12) (hv : v ≤ 999) : ∀ k L : Nat, ∀ M : Mem, L ≤ q 0 0 * q 0 1 → q 0 0 * q 0 1 - L < k → PM M q → FV M q a f l v L → ∃ M', f_X12_findFar_l40 NN (nI f) (nI l) (nI v) k M (nI L) = some M' ∧ (∀ r, r ≠ 11 → M' r = M r) ∧ DV M' 11 (nI 999999) q a f l v := by
  have hn := hb.n30
  intro k
  induction k with
  | zero => intro L M _ h; omega
  | succ k ih =>
    intro L M h1 h2 hp hF
    rw [f_X12_findFar_l40, al_m hp, bnd]
    by_cases e : L = q 0 0 * q 0 1
    · rw [if_pos (by rw [e]; exact Int32.le_refl _)]
      refine ⟨M, rfl, fun _ _ => rfl, fun c hc => ?_⟩
      rcases hF c hc with ⟨k', g1, g2, g3⟩ | ⟨g1, g2⟩
      · exact Or.inl ⟨k', by omega, g2, g3⟩
      · exact Or.inr ⟨fun j z => g1 (by rw [e]; exact rW_st hc z), g2⟩
    · have hi : L < q 0 0 * q 0 1 := by omega
      have e1 : ¬ nI (q 0 0 * q 0 1) ≤ nI L := nI_ge hi (by omega)
      rw [if_neg e1]
      obtain ⟨M1, r1, r2, r3⟩ := ff_p hb (a := a) hf hl hv (show L < 30 by omega) (fun M18 => f_X12_findFar_l40 NN (nI f) (nI l) (nI v) k M18 (nI L + 1)) NN 0 M (Nat.zero_le _) (show _ < 1000 by omega) hp (FV_P hF)
      have r1' : f_X12_findFar_l52 (fun M18 => f_X12_findFar_l40 NN (nI f) (nI l) (nI v) k M18 (nI L + 1)) NN (nI f) (nI l) (nI v) (nI L) NN M 0 = f_X12_findFar_l40 NN (nI f) (nI l) (nI v) k M1 (nI L + 1) := r1
      rw [r1', nI1]
      obtain ⟨M2, s1, s2, s3⟩ := ih (L + 1) M1 (by omega) (by omega) (hp.ag (exf r2)) r3
      exact ⟨M2, s1, fun r hr => (s2 r hr).trans (r2 r hr), s3⟩
theorem ff_i {q : Nat → Nat → Nat} (hb : Bd q) {a f l v : Nat} (ha : a < q 0 0 * q 0 1) (hf : f ≤ l) (hl : l < 12) (hv : v ≤ 999) : ∀ k i : Nat, ∀ M : Mem, i ≤ q 0 0 * q 0 1 → q 0 0 * q 0 1 - i < k → PM M q → (∀ c, c < i → M 11 c = nI (nU (fun _ => 999999) a 0 c)) → ∃ M', f_X12_findFar_l3 NN (nI a) (nI f) (nI l) (nI v) k M (nI i) = some M' ∧ (∀ r, r ≠ 11 → M' r = M r) ∧ DV M' 11 (nI 999999) q a f l v := by
  have hn := hb.n30
  intro k
  induction k with
  | zero => intro i M _ h; omega
  | succ k ih =>
    intro i M h1 h2 hp hV
    rw [f_X12_findFar_l3, al_m hp, bnd]
    by_cases e : i = q 0 0 * q 0 1
    · rw [if_pos (by rw [e]; exact Int32.le_refl _)]
      refine ff_q hb hf hl hv NN 0 M (Nat.zero_le _) (show _ < 1000 by omega) hp (fun c hc => ?_)
      have y := hV c (by omega)
      by_cases w : c = a
      · subst w
        rw [nU_s] at y
        exact Or.inl ⟨0, Nat.le_refl _, ⟨rfl, fun j hj => absurd hj (by omega)⟩, y⟩
      · rw [nU_n _ _ w] at y
        exact Or.inr ⟨fun z => w z, y⟩
    · have hi : i < q 0 0 * q 0 1 := by omega
      have e1 : ¬ nI (q 0 0 * q 0 1) ≤ nI i := nI_ge hi (by omega)
      have nx : ∀ x : Nat, x = nU (fun _ => 999999) a 0 i → ∃ M', f_X12_findFar_l3 NN (nI a) (nI f) (nI l) (nI v) k (up M 11 i (nI x)) (nI (i + 1)) = some M' ∧ (∀ r, r ≠ 11 → M' r = M r) ∧ DV M' 11 (nI 999999) q a f l v := by
        intro x hx
        obtain ⟨M', r1, r2, r3⟩ := ih (i + 1) (up M 11 i (nI x)) (by omega) (by omega) (hp.ag (um_ag (by omega))) (fun c hci => by
          by_cases w : c = i
          · subst w; rw [up_ss, hx]
          · rw [up_sn _ _ _ w]; exact hV c (by omega))
        exact ⟨M', r1, fun r hr => by rw [r2 r hr, up_n _ _ _ hr], r3⟩
      simp only [↓reduceIte, e1, if_pos (inbT (show i < 30 by omega) (by decide)), nI_clamp (show i < 2 ^ 31 by omega), nmd, nI1, nI_eq (show i < 2 ^ 31 by omega) (show a < 2 ^ 31 by omega)]
      by_cases w : i = a
      · rw [if_pos w]; exact nx 0 (by rw [w, nU_s])
      · rw [if_neg w]; exact nx 999999 (by rw [nU_n _ _ w])
theorem ff_m {M : Mem} {q : Nat → Nat → Nat} (hb : Bd q) (hp : PM M q) {a f l v : Nat} (ha : a < q 0 0 * q 0 1) (hf : f ≤ l) (hl : l < 12) (hv : v ≤ 999) : ∃ M', f_X12_findFar NN M (nI a) (nI f) (nI l) (nI v) = some M' ∧ (∀ r, r ≠ 11 → M' r = M r) ∧ DV M' 11 (nI 999999) q a f l v := by
  have hn := hb.n30
  exact ff_i hb ha hf hl hv NN 0 M (Nat.zero_le _) (show _ < 1000 by omega) hp (fun c h => absurd h (by omega))
