/-- at the edge -/
def ed (q : Nat → Nat → Nat) (c : Nat) : Prop := c / q 0 1 = 0 ∨ c / q 0 1 = q 0 0 - 1 ∨ c % q 0 1 = 0 ∨ c % q 0 1 = q 0 1 - 1
def sW (q : Nat → Nat → Nat) (h : Nat → Nat) (t c : Nat) : Prop := ed q c ∧ h c ≤ t
def eW (q : Nat → Nat → Nat) (h : Nat → Nat) (t c d : Nat) : Prop := nb q c d ∧ ¬ ed q c ∧ h c ≤ t
theorem dm_le {q : Nat → Nat → Nat} (hb : Bd q) {c : Nat} (hc : c < q 0 0 * q 0 1) : c / q 0 1 < 30 ∧ c % q 0 1 < 30 ∧ q 0 0 ≤ 5 ∧ q 0 1 ≤ 6 ∧ 0 < q 0 0 ∧ 0 < q 0 1 := by
  obtain ⟨h1, h2, h3, h4⟩ := hb.w0 hc
  obtain ⟨p1, p2, p3, p4⟩ := hb.pos hc
  exact ⟨Nat.lt_of_lt_of_le h2 (by omega), Nat.lt_of_lt_of_le h3 (by omega), p2, p4, by omega, h1⟩
theorem ed_if {q : Nat → Nat → Nat} {c : Nat} {α : Type} (x y : α) {P1 P2 P3 P4 : Prop} [Decidable P1] [Decidable P2] [Decidable P3] [Decidable P4] (h1 : P1 ↔ c / q 0 1 = 0) (h2 : P2 ↔ c / q 0 1 = q 0 0 - 1) (h3 : P3 ↔ c % q 0 1 = 0) (h4 : P4 ↔ c % q 0 1 = q 0 1 - 1) : (ed q c ∧ (if P1 then x else if P2 then x else if P3 then x else if P4 then x else y) = x) ∨ (¬ ed q c ∧ (if P1 then x else if P2 then x else if P3 then x else if P4 then x else y) = y) := by
  unfold ed
  by_cases a1 : P1
  · left; rw [if_pos a1]; exact ⟨Or.inl (h1.mp a1), rfl⟩
  · by_cases a2 : P2
    · left; rw [if_neg a1, if_pos a2]; exact ⟨Or.inr (Or.inl (h2.mp a2)), rfl⟩
    · by_cases a3 : P3
      · left; rw [if_neg a1, if_neg a2, if_pos a3]; exact ⟨Or.inr (Or.inr (Or.inl (h3.mp a3))), rfl⟩
      · by_cases a4 : P4
        · left; rw [if_neg a1, if_neg a2, if_neg a3, if_pos a4]; exact ⟨Or.inr (Or.inr (Or.inr (h4.mp a4))), rfl⟩
        · right; rw [if_neg a1, if_neg a2, if_neg a3, if_neg a4]
          refine ⟨?_, rfl⟩
          rintro (z | z | z | z)
          · exact a1 (h1.mpr z)
          · exact a2 (h2.mpr z)
          · exact a3 (h3.mpr z)
          · exact a4 (h4.mpr z)
theorem eq0 {n : Nat} (h : n < 2147483648) : nI n = 0 ↔ n = 0 := nI_eq (b := 0) h (by decide)
theorem ed_c {M : Mem} {q : Nat → Nat → Nat} (hb : Bd q) (hp : PC M q) {c : Nat} (hc : c < q 0 0 * q 0 1) : (ed q c ∧ f_X3_isAtEdge M (nI c) = some 1) ∨ (¬ ed q c ∧ f_X3_isAtEdge M (nI c) = some 0) := by
  have hn := hb.n30
  obtain ⟨l1, l2, l3, l4, l5, l6⟩ := dm_le hb hc
  obtain ⟨-, -, -, a4, a5⟩ := hp.2.2.1 c hc
  unfold f_X3_isAtEdge
  simp only [if_pos (inbT (show c < 30 by omega) (by decide)), nI_clamp (show c < 2 ^ 31 by omega), a4, a5, hp.1, hp.2.1, s1 l5, s1 l6]
  exact ed_if (some 1) (some 0) (eq0 (Nat.lt_trans l1 (by decide))) (nI_eq (Nat.lt_trans l1 (by decide)) (by omega)) (eq0 (Nat.lt_trans l2 (by decide))) (nI_eq (Nat.lt_trans l2 (by decide)) (by omega))
theorem ed_m {M : Mem} {q : Nat → Nat → Nat} (hb : Bd q) (hp : PM M q) {c : Nat} (hc : c < q 0 0 * q 0 1) : (ed q c ∧ f_X12_isEdge M (nI c) = some 1) ∨ (¬ ed q c ∧ f_X12_isEdge M (nI c) = some 0) := by
  have hn := hb.n30
  obtain ⟨l1, l2, l3, l4, l5, l6⟩ := dm_le hb hc
  unfold f_X12_isEdge
  simp only [hp.1, hp.2.1, if_pos (nz l6 (by omega)), pk_div (show c < 2 ^ 31 by omega) l6 (show q 0 1 < 2 ^ 31 by omega), remI (show c < 2147483648 by omega) l6 (by omega), s1 l5, s1 l6]
  exact ed_if (some 1) (some 0) (eq0 (Nat.lt_trans l1 (by decide))) (nI_eq (Nat.lt_trans l1 (by decide)) (by omega)) (eq0 (Nat.lt_trans l2 (by decide))) (nI_eq (Nat.lt_trans l2 (by decide)) (by omega))
theorem lw_l {M : Mem} {q : Nat → Nat → Nat} (hb : Bd q) (hp : PC M q) {v : Nat → Nat} (hV : ∀ c, c < q 0 0 * q 0 1 → M 36 c = nI (v c)) (hv : ∀ c, c < q 0 0 * q 0 1 → v c ≤ 2147483647) {c : Nat} (hc : c < q 0 0 * q 0 1) (N : Nat) : ∀ k s z : Nat, s ≤ 4 → 4 - s < k → z ≤ 2147483647 → ∃ z', f_X9_lowestBeside_l5 N M (nI c) k (nI z) (nI s) = some (nI z') ∧ z' ≤ z ∧ (z' = z ∨ ∃ d, d < q 0 0 * q 0 1 ∧ z' = v d) ∧ ∀ t, z' ≤ t ↔ z ≤ t ∨ ∃ i, s ≤ i ∧ i < 4 ∧ ∃ d, nbo q c i = some d ∧ v d ≤ t := by
  have hn := hb.n30
  intro k
  induction k with
  | zero => intro s z _ h; omega
  | succ k ih =>
    intro s z h1 h2 hz
    rw [f_X9_lowestBeside_l5]
    by_cases e : s = 4
    · subst e
      rw [if_pos (by decide)]
      refine ⟨z, rfl, Nat.le_refl _, Or.inl rfl, fun t => ⟨Or.inl, fun y => ?_⟩⟩
      rcases y with y | ⟨i, a, b, _⟩
      · exact y
      · omega
    · have e1 : ¬ (4 : Int32) ≤ nI s := nI_ge (a := s) (b := 4) (by omega) (by omega)
      have h4 : s < 4 := by omega
      simp only [↓reduceIte, e1, nb_c hb hp hc h4, bnd, nI1]
      cases en : nbo q c s with
      | none =>
        simp only [oI, ↓reduceIte]
        obtain ⟨z', r1, r2, rd, r3⟩ := ih (s + 1) z (by omega) (by omega) hz
        refine ⟨z', r1, r2, rd, fun t => ?_⟩
        rw [r3, sd_s h4]
        constructor
        · rintro (y | y)
          · exact Or.inl y
          · exact Or.inr (Or.inr y)
        · rintro (y | ⟨d, y, _⟩ | y)
          · exact Or.inl y
          · rw [en] at y; cases y
          · exact Or.inr y
      | some d =>
        have hd := (nbo_rel hb hc h4 en).1
        have l2 := hv d hd
        simp only [oI, ↓reduceIte, ne9 (show d < 2147483648 by omega), if_pos (inbT (show d < 30 by omega) (by decide)), nI_clamp (show d < 2 ^ 31 by omega), hV d hd, nmd, mnI (show z < 2147483648 by omega) (show v d < 2147483648 by omega)]
        obtain ⟨z', r1, r2, rd, r3⟩ := ih (s + 1) (min z (v d)) (by omega) (by omega) (by omega)
        refine ⟨z', r1, by omega, ?_, fun t => ?_⟩
        · rcases rd with rd | rd
          · by_cases w : z ≤ v d
            · left; omega
            · right; exact ⟨d, hd, by omega⟩
          · exact Or.inr rd
        rw [r3, sd_s h4]
        constructor
        · rintro (y | y)
          · by_cases w : z ≤ t
            · exact Or.inl w
            · exact Or.inr (Or.inl ⟨d, en, by omega⟩)
          · exact Or.inr (Or.inr y)
        · rintro (y | ⟨d', y, w2⟩ | y)
          · exact Or.inl (by omega)
          · rw [en] at y
            obtain rfl := Option.some.inj y
            exact Or.inl (by omega)
          · exact Or.inr y
def wI (q : Nat → Nat → Nat) (h : Nat → Nat) (B : Nat) (v : Nat → Nat) : Prop := (∀ c, c < q 0 0 * q 0 1 → v c ≤ 998 ∨ v c = B) ∧ ∀ c t, c < q 0 0 * q 0 1 → ¬ ed q c → t ≤ 998 → v c ≤ t → h c ≤ t ∧ ∃ d, d < q 0 0 * q 0 1 ∧ nb q c d ∧ v d ≤ t
theorem rX_ed {q : Nat → Nat → Nat} {h : Nat → Nat} {v : Nat → Nat} {i : Nat} (he : ed q i) : rX (q 0 0 * q 0 1) (eW q h) v i (v i) := ⟨Nat.le_refl _, fun t _ => ⟨Or.inl, fun y => by
  rcases y with y | ⟨d, _, w, _⟩
  · exact y
  · exact absurd he w.2.1⟩⟩
theorem rX_w {q : Nat → Nat → Nat} (hb : Bd q) {h : Nat → Nat} {B : Nat} {v : Nat → Nat} (hB : 998 < B) (hw : wI q h B v) {i z' : Nat} (hi : i < q 0 0 * q 0 1) (he : ¬ ed q i) (hh : h i ≤ 500) (h1 : z' ≤ B) (h2 : z' = B ∨ ∃ d, d < q 0 0 * q 0 1 ∧ z' = v d) (h3 : ∀ t, z' ≤ t ↔ B ≤ t ∨ ∃ d, d < q 0 0 * q 0 1 ∧ nb q i d ∧ v d ≤ t) : rX (q 0 0 * q 0 1) (eW q h) v i (max (h i) z') ∧ wI q h B (nU v i (max (h i) z')) := by
  have key : ∀ t, t ≤ 998 → (max (h i) z' ≤ t ↔ h i ≤ t ∧ ∃ d, d < q 0 0 * q 0 1 ∧ nb q i d ∧ v d ≤ t) := fun t ht => by
    have y := h3 t
    constructor
    · intro w
      refine ⟨by omega, ?_⟩
      rcases y.mp (by omega) with z | z
      · omega
      · exact z
    · rintro ⟨w1, w2⟩
      have := y.mpr (Or.inr w2)
      omega
  have le : max (h i) z' ≤ v i := by
    rcases hw.1 i hi with w | w
    · exact (key (v i) w).mpr (hw.2 i (v i) hi he w (Nat.le_refl _))
    · omega
  refine ⟨⟨le, fun t ht => ?_⟩, fun c hc => ?_, fun c t hc hce ht y => ?_⟩
  · rw [key t ht]
    constructor
    · rintro ⟨w1, d, w2, w3, w4⟩
      exact Or.inr ⟨d, w2, ⟨w3, he, w1⟩, w4⟩
    · rintro (w | ⟨d, w2, ⟨w3, _, w1⟩, w4⟩)
      · exact hw.2 i t hi he ht w
      · exact ⟨w1, d, w2, w3, w4⟩
  · by_cases w : c = i
    · subst w
      rw [nU_s]
      rcases h2 with w | ⟨d, w1, w2⟩
      · right; omega
      · rcases hw.1 d w1 with w3 | w3
        · left; omega
        · right; omega
    · rw [nU_n _ _ w]; exact hw.1 c hc
  · by_cases w : c = i
    · subst w
      rw [nU_s] at y
      obtain ⟨w1, d, w2, w3, w4⟩ := (key t ht).mp y
      have ne : d ≠ c := by
        obtain ⟨s, hs, w5⟩ := w3
        exact nbo_ne hb hc hs w5
      exact ⟨w1, d, w2, w3, by rw [nU_n _ _ ne]; exact w4⟩
    · rw [nU_n _ _ w] at y
      obtain ⟨w1, d, w2, w3, w4⟩ := hw.2 c t hc hce ht y
      refine ⟨w1, d, w2, w3, ?_⟩
      by_cases u : d = i
      · subst u; rw [nU_s]; omega
      · rw [nU_n _ _ u]; exact w4
def hR (M : Mem) (q : Nat → Nat → Nat) (h : Nat → Nat) : Prop := ∀ c, c < q 0 0 * q 0 1 → M 35 c = nI (h c) ∧ h c ≤ 500
theorem ex_ag {M M' : Mem} (h : ∀ r, r ≠ 36 → M' r = M r) : AgC M M' := fun k a b => h k (by omega)
theorem lw_p {q : Nat → Nat → Nat} (hb : Bd q) {h : Nat → Nat} {p B : Nat} (hI : (1000000 : Int32) = nI B) (hB : 998 < B) (hB2 : B ≤ 2147483647) (kc : Mem → Int32 → Option Mem) : ∀ k i x : Nat, ∀ M : Mem, ∀ v : Nat → Nat, i ≤ q 0 0 * q 0 1 → q 0 0 * q 0 1 - i < k → PC M q → hR M q h → (∀ c, c < q 0 0 * q 0 1 → M 36 c = nI (v c)) → wI q h B v → (x = 0 ∨ x = 1) → rSt (q 0 0 * q 0 1) (sW q h) (eW q h) v p i → (x = 0 → rFx (q 0 0 * q 0 1) (eW q h) v i) → ∃ M' v' x', f_X9_settle_l65 kc NN k M (nI x) (nI i) = kc M' (nI x') ∧ (∀ r, r ≠ 36 → M' r = M r) ∧ (∀ c, c < q 0 0 * q 0 1 → M' 36 c = nI (v' c)) ∧ wI q h B v' ∧ (x' = 0 ∨ x' = 1) ∧ rSt (q 0 0 * q 0 1) (sW q h) (eW q h) v' p (q 0 0 * q 0 1) ∧ (x' = 0 → rFx (q 0 0 * q 0 1) (eW q h) v' (q 0 0 * q 0 1)) := by
  have hn := hb.n30
  intro k
  induction k with
  | zero => intro i x M v _ h; omega
  | succ k ih =>
    intro i x M v h1 h2 hc hh hV hw hx hst hfx
    have hv : ∀ c, c < q 0 0 * q 0 1 → v c ≤ 2147483647 := fun c hcn => by
      rcases hw.1 c hcn with w | w <;> omega
    rw [f_X9_settle_l65, st_c hc, bnd]
    by_cases e : i = q 0 0 * q 0 1
    · rw [if_pos (by rw [e]; exact Int32.le_refl _)]
      rw [e] at hst hfx
      exact ⟨M, v, x, rfl, fun _ _ => rfl, hV, hw, hx, hst, hfx⟩
    · have hi : i < q 0 0 * q 0 1 := by omega
      have e1 : ¬ nI (q 0 0 * q 0 1) ≤ nI i := nI_ge hi (by omega)
      rw [if_neg e1]
      rcases ed_c hb hc hi with ⟨g1, g2⟩ | ⟨g1, g2⟩
      · simp only [↓reduceIte, g2, bnd, n10, nI1]
        have y := rSt_1 hst hi (rX_ed (h := h) g1)
        rw [nU_id] at y
        exact ih (i + 1) x M v (by omega) (by omega) hc hh hV hw hx y (fun w => (rFx_1 (hfx w) (rX_ed g1) (Nat.le_refl _)).2)
      · obtain ⟨f1, f2⟩ := hh i hi
        have o1 : i + 1 ≤ q 0 0 * q 0 1 := by omega
        have o2 : q 0 0 * q 0 1 - (i + 1) < k := by omega
        obtain ⟨z', r1, r2, r3, r4⟩ := lw_l hb hc hV hv hi NN NN 0 B (by decide) (by decide) hB2
        have r1' : f_X9_lowestBeside NN M (nI i) = some (nI z') := by
          unfold f_X9_lowestBeside
          rw [hI]; exact r1
        obtain ⟨z1, z2⟩ := rX_w hb hB hw hi g1 f2 r2 r3 (fun t => by rw [r4, sd_nb hb hi])
        have lz := z1.1
        have lv := hv i hi
        have nx : ∀ x1 : Nat, (x1 = 0 ∨ x1 = 1) → (x1 = 0 → rFx (q 0 0 * q 0 1) (eW q h) (nU v i (max (h i) z')) (i + 1)) → ∃ M' v' x', f_X9_settle_l65 kc NN k (up M 36 i (nI (max (h i) z'))) (nI x1) (nI (i + 1)) = kc M' (nI x') ∧ (∀ r, r ≠ 36 → M' r = M r) ∧ (∀ c, c < q 0 0 * q 0 1 → M' 36 c = nI (v' c)) ∧ wI q h B v' ∧ (x' = 0 ∨ x' = 1) ∧ rSt (q 0 0 * q 0 1) (sW q h) (eW q h) v' p (q 0 0 * q 0 1) ∧ (x' = 0 → rFx (q 0 0 * q 0 1) (eW q h) v' (q 0 0 * q 0 1)) := by
          intro x1 hx1 hf1
          obtain ⟨M', v', x', s1, s2, s3⟩ := ih (i + 1) x1 (up M 36 i (nI (max (h i) z'))) (nU v i (max (h i) z')) o1 o2 (hc.ag (u_ag (Or.inr ⟨by decide, by decide⟩))) (fun c hcn => by rw [up_n _ _ _ (by decide)]; exact hh c hcn) (V_up hV i _) z2 hx1 (rSt_1 hst hi z1) hf1
          exact ⟨M', v', x', s1, fun r hr => by rw [s2 r hr, up_n _ _ _ hr], s3⟩
        simp only [↓reduceIte, g2, bnd, if_pos (inbT (show i < 30 by omega) (by decide)), nI_clamp (show i < 2 ^ 31 by omega), r1', f1, mxI (show h i < 2147483648 by omega) (show z' < 2147483648 by omega), nmd, hV i hi, nI1, nI_leI (show v i < 2 ^ 31 by omega) (show max (h i) z' < 2 ^ 31 by omega)]
        rcases hx with rfl | rfl
        · simp only [↓reduceIte, show nI 0 = 0 from rfl]
          by_cases w : v i ≤ max (h i) z'
          · rw [if_pos w]
            exact nx 0 (Or.inl rfl) (fun _ => by
              obtain ⟨y1, y2⟩ := rFx_1 (hfx rfl) z1 w
              rw [y1]; exact y2)
          · rw [if_neg w]
            exact nx 1 (Or.inr rfl) (fun z => absurd z (by decide))
        · simp only [↓reduceIte, show ¬ nI 1 = 0 by decide]
          exact nx 1 (Or.inr rfl) (fun z => absurd z (by decide))
theorem lw_q {q : Nat → Nat → Nat} (hb : Bd q) {h : Nat → Nat} {B : Nat} (hI : (1000000 : Int32) = nI B) (hB : 998 < B) (hB2 : B ≤ 2147483647) : ∀ k p x : Nat, ∀ M : Mem, ∀ v : Nat → Nat, p ≤ 30 → 30 - p < k → PC M q → hR M q h → (∀ c, c < q 0 0 * q 0 1 → M 36 c = nI (v c)) → wI q h B v → (x = 0 ∨ x = 1) → rSt (q 0 0 * q 0 1) (sW q h) (eW q h) v p 0 → (x = 0 → rFx (q 0 0 * q 0 1) (eW q h) v (q 0 0 * q 0 1)) → ∃ M' v', f_X9_settle_l51 NN k M (nI x) (nI p) = some M' ∧ (∀ r, r ≠ 36 → M' r = M r) ∧ (∀ c, c < q 0 0 * q 0 1 → M' 36 c = nI (v' c)) ∧ rFn (q 0 0 * q 0 1) (sW q h) (eW q h) v' := by
  have hn := hb.n30
  intro k
  induction k with
  | zero => intro p x M v _ h; omega
  | succ k ih =>
    intro p x M v h1 h2 hc hh hV hw hx hst hfx
    rw [f_X9_settle_l51]
    rcases hx with rfl | rfl
    · rw [if_pos (show nI 0 = 0 from rfl)]
      exact ⟨M, v, rfl, fun _ _ => rfl, hV, rSt_f hst (hfx rfl)⟩
    · rw [if_neg (show ¬ nI 1 = 0 by decide)]
      by_cases e : p = 30
      · subst e
        rw [if_pos (by decide)]
        exact ⟨M, v, rfl, fun _ _ => rfl, hV, rSt_e hst hn⟩
      · have e30 : ¬ (30 : Int32) ≤ nI p := nI_ge (a := p) (b := 30) (by omega) (by omega)
        rw [if_neg e30]
        obtain ⟨M1, v1, x1, r1, r2, r3, r4, r5, r6, r7⟩ := lw_p hb (p := p) hI hB hB2 (fun M17 y1_17 => f_X9_settle_l51 NN k M17 y1_17 (nI p + 1)) NN 0 0 M v (Nat.zero_le _) (show _ < 1000 by omega) hc hh hV hw (Or.inl rfl) hst (fun _ c t h => absurd h (by omega))
        have r1' : f_X9_settle_l65 (fun M17 y1_17 => f_X9_settle_l51 NN k M17 y1_17 (nI p + 1)) NN NN M 0 0 = f_X9_settle_l51 NN k M1 (nI x1) (nI p + 1) := r1
        rw [r1', nI1]
        obtain ⟨M2, v2, s1, s2, s3⟩ := ih (p + 1) x1 M1 v1 (by omega) (by omega) (hc.ag (ex_ag r2)) (fun c hcn => by rw [r2 35 (by decide)]; exact hh c hcn) r3 r4 r5 (rSt_0 r6) r7
        exact ⟨M2, v2, s1, fun r hr => (s2 r hr).trans (r2 r hr), s3⟩
theorem w_0 {q : Nat → Nat → Nat} {h : Nat → Nat} {B : Nat} {v : Nat → Nat} (hB : 998 < B) (hv : ∀ c, c < q 0 0 * q 0 1 → (ed q c → v c = h c) ∧ (¬ ed q c → v c = B)) : rSt (q 0 0 * q 0 1) (sW q h) (eW q h) v 0 0 := by
  refine ⟨fun c t hc ht y => ⟨0, ?_⟩, fun c t hc ht y => ?_, fun c t h => absurd h (by omega)⟩
  · by_cases w : ed q c
    · exact ⟨w, by rw [← (hv c hc).1 w]; exact y⟩
    · rw [(hv c hc).2 w] at y; omega
  · have y' : ed q c ∧ h c ≤ t := y
    rw [(hv c hc).1 y'.1]; exact y'.2
theorem lw_i {q : Nat → Nat → Nat} (hb : Bd q) {h : Nat → Nat} {B : Nat} (hI : (1000000 : Int32) = nI B) (hB : 998 < B) (hB2 : B ≤ 2147483647) : ∀ k i : Nat, ∀ M : Mem, ∀ v : Nat → Nat, i ≤ q 0 0 * q 0 1 → q 0 0 * q 0 1 - i < k → PC M q → hR M q h → (∀ c, c < i → M 36 c = nI (v c)) → (∀ c, c < i → (ed q c → v c = h c) ∧ (¬ ed q c → v c = B)) → ∃ M' v', f_X9_settle_l2 NN k M (nI i) = some M' ∧ (∀ r, r ≠ 36 → M' r = M r) ∧ (∀ c, c < q 0 0 * q 0 1 → M' 36 c = nI (v' c)) ∧ rFn (q 0 0 * q 0 1) (sW q h) (eW q h) v' := by
  have hn := hb.n30
  intro k
  induction k with
  | zero => intro i M v _ h; omega
  | succ k ih =>
    intro i M v h1 h2 hc hh hV hv
    rw [f_X9_settle_l2, st_c hc, bnd]
    by_cases e : i = q 0 0 * q 0 1
    · rw [if_pos (by rw [e]; exact Int32.le_refl _)]
      rw [e] at hV hv
      exact lw_q hb hI hB hB2 NN 0 1 M v (by decide) (by decide) hc hh hV ⟨fun c hcn => by
        by_cases w : ed q c
        · rw [(hv c hcn).1 w]; have := (hh c hcn).2; left; omega
        · right; exact (hv c hcn).2 w, fun c t hcn hce ht y => by rw [(hv c hcn).2 hce] at y; omega⟩ (Or.inr rfl) (w_0 hB hv) (fun z => absurd z (by decide))
    · have hi : i < q 0 0 * q 0 1 := by omega
      have e1 : ¬ nI (q 0 0 * q 0 1) ≤ nI i := nI_ge hi (by omega)
      obtain ⟨f1, f2⟩ := hh i hi
      have nx : ∀ x : Nat, ((ed q i → x = h i) ∧ (¬ ed q i → x = B)) → ∃ M' v', f_X9_settle_l2 NN k (up M 36 i (nI x)) (nI (i + 1)) = some M' ∧ (∀ r, r ≠ 36 → M' r = M r) ∧ (∀ c, c < q 0 0 * q 0 1 → M' 36 c = nI (v' c)) ∧ rFn (q 0 0 * q 0 1) (sW q h) (eW q h) v' := by
        intro x hx
        obtain ⟨M', v', s1, s2, s3⟩ := ih (i + 1) (up M 36 i (nI x)) (nU v i x) (by omega) (by omega) (hc.ag (u_ag (by omega))) (fun c hcn => by rw [up_n _ _ _ (by decide)]; exact hh c hcn) (fun c hci => by
          by_cases w : c = i
          · subst w; rw [up_ss, nU_s]
          · rw [up_sn _ _ _ w, nU_n _ _ w]; exact hV c (by omega)) (fun c hci => by
          by_cases w : c = i
          · subst w; rw [nU_s]; exact hx
          · rw [nU_n _ _ w]; exact hv c (by omega))
        exact ⟨M', v', s1, fun r hr => by rw [s2 r hr, up_n _ _ _ hr], s3⟩
      rw [if_neg e1]
      rcases ed_c hb hc hi with ⟨g1, g2⟩ | ⟨g1, g2⟩
      · simp only [↓reduceIte, g2, bnd, n10, if_pos (inbT (show i < 30 by omega) (by decide)), nI_clamp (show i < 2 ^ 31 by omega), f1, nmd, nI1]
        exact nx (h i) ⟨fun _ => rfl, fun z => absurd g1 z⟩
      · simp only [↓reduceIte, g2, bnd, if_pos (inbT (show i < 30 by omega) (by decide)), nI_clamp (show i < 2 ^ 31 by omega), hI, nmd, nI1]
        exact nx B ⟨fun z => absurd z g1, fun _ => rfl⟩
theorem st_w {M : Mem} {q : Nat → Nat → Nat} (hb : Bd q) {h : Nat → Nat} (hc : PC M q) (hh : hR M q h) : ∃ M' v', f_X9_settle NN M = some M' ∧ (∀ r, r ≠ 36 → M' r = M r) ∧ (∀ c, c < q 0 0 * q 0 1 → M' 36 c = nI (v' c)) ∧ rFn (q 0 0 * q 0 1) (sW q h) (eW q h) v' := by
  have hn := hb.n30
  exact lw_i hb bigI (by decide) (by decide) NN 0 M (fun _ => 0) (Nat.zero_le _) (show _ < 1000 by omega) hc hh (fun c h => absurd h (by omega)) (fun c h => absurd h (by omega))
