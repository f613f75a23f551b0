theorem fw_s {q : Nat → Nat → Nat} (hb : Bd q) {m c : Nat} (hm : m < 12) (hc : c < q 0 0 * q 0 1) (kc : Mem → Option Mem) (N : Nat) : ∀ k s : Nat, ∀ M : Mem, ∀ v : Nat → Nat, s ≤ 4 → 4 - s < k → PM M q → (∀ c, c < q 0 0 * q 0 1 → M 12 c = nI (v c)) → (∀ c, c < q 0 0 * q 0 1 → v c ≤ 999999) → ∃ M' z, f_X12_findWater_l64 kc N (nI m) (nI c) k M (nI s) = kc M' ∧ (∀ r, r ≠ 12 → M' r = M r) ∧ (∀ d, d < q 0 0 * q 0 1 → M' 12 d = nI (nU v c z d)) ∧ z ≤ v c ∧ ∀ t, z ≤ t ↔ v c ≤ t ∨ ∃ i, s ≤ i ∧ i < 4 ∧ ∃ d, nbo q c i = some d ∧ (¬ ed q c ∧ hN q c m ≤ t) ∧ v d ≤ t := by
  have hn := hb.n30
  intro k
  induction k with
  | zero => intro s M v _ h; omega
  | succ k ih =>
    intro s M v h1 h2 hp hV hv
    rw [f_X12_findWater_l64]
    by_cases e : s = 4
    · subst e
      rw [if_pos (by decide)]
      refine ⟨M, v c, rfl, fun _ _ => rfl, fun d hd => by rw [nU_id]; exact hV d hd, Nat.le_refl _, fun t => ⟨Or.inl, fun y => ?_⟩⟩
      rcases y with y | ⟨i, a, b, _⟩
      · exact y
      · omega
    · have e1 : ¬ (4 : Int32) ≤ nI s := nI_ge (a := s) (b := 4) (by omega) (by omega)
      have h4 : s < 4 := by omega
      simp only [↓reduceIte, e1, nb_m hb hp hc h4, bnd, nI1]
      cases en : nbo q c s with
      | none =>
        simp only [oI, ↓reduceIte]
        obtain ⟨M', z, r1, r2, r3, r4, r5⟩ := ih (s + 1) M v (by omega) (by omega) hp hV hv
        refine ⟨M', z, r1, r2, r3, r4, fun t => ?_⟩
        rw [r5, sd_s h4]
        constructor
        · rintro (y | y)
          · exact Or.inl y
          · exact Or.inr (Or.inr y)
        · rintro (y | ⟨d, y, _⟩ | y)
          · exact Or.inl y
          · rw [en] at y; cases y
          · exact Or.inr y
      | some d =>
        have hd := (nbo_rel hb hc h4 en).1
        have hdc := nbo_ne hb hc h4 en
        have l2 := hv d hd
        have l3 := hv c hc
        have a1 := hN_le hb hc hm
        simp only [oI, ↓reduceIte, ne9 (show d < 2147483648 by omega)]
        rcases ed_m hb hp hc with ⟨g1, g2⟩ | ⟨g1, g2⟩
        · simp only [↓reduceIte, g2, bnd, n10]
          obtain ⟨M', z, r1, r2, r3, r4, r5⟩ := ih (s + 1) M v (by omega) (by omega) hp hV hv
          refine ⟨M', z, r1, r2, r3, r4, fun t => ?_⟩
          rw [r5, sd_s h4]
          constructor
          · rintro (y | y)
            · exact Or.inl y
            · exact Or.inr (Or.inr y)
          · rintro (y | ⟨d, _, y, _⟩ | y)
            · exact Or.inl y
            · exact absurd g1 y.1
            · exact Or.inr y
        · simp only [↓reduceIte, g2, hO_m hb hp hc hm, bnd, if_pos (inbT (show d < 30 by omega) (by decide)), if_pos (inbT (show c < 30 by omega) (by decide)), nI_clamp (show d < 2 ^ 31 by omega), nI_clamp (show c < 2 ^ 31 by omega), hV d hd, hV c hc, nmd, nI_leI (show v d < 2 ^ 31 by omega) (show hN q c m < 2 ^ 31 by omega), nI_leI (show v c < 2 ^ 31 by omega) (show hN q c m < 2 ^ 31 by omega), nI_leI (show v c < 2 ^ 31 by omega) (show v d < 2 ^ 31 by omega)]
          have nx : ∀ x : Nat, x = min (v c) (max (v d) (hN q c m)) → ∃ M' z, f_X12_findWater_l64 kc N (nI m) (nI c) k (up M 12 c (nI x)) (nI (s + 1)) = kc M' ∧ (∀ r, r ≠ 12 → M' r = M r) ∧ (∀ d, d < q 0 0 * q 0 1 → M' 12 d = nI (nU v c z d)) ∧ z ≤ v c ∧ ∀ t, z ≤ t ↔ v c ≤ t ∨ ∃ i, s ≤ i ∧ i < 4 ∧ ∃ d, nbo q c i = some d ∧ (¬ ed q c ∧ hN q c m ≤ t) ∧ v d ≤ t := by
            intro x hx
            obtain ⟨M', z, r1, r2, r3, r4, r5⟩ := ih (s + 1) (up M 12 c (nI x)) (nU v c x) (by omega) (by omega) (hp.ag (um_ag (by omega))) (V_up hV c x) (nU_le hv (by omega))
            rw [nU_s] at r4
            refine ⟨M', z, r1, fun r hr => by rw [r2 r hr, up_n _ _ _ hr], fun d' hd' => ?_, by omega, fun t => ?_⟩
            · rw [r3 d' hd']
              by_cases w : d' = c
              · subst w; rw [nU_s, nU_s]
              · rw [nU_n _ _ w, nU_n _ _ w, nU_n _ _ w]
            · rw [r5, sd_s h4, nU_s]
              constructor
              · rintro (y | ⟨i, b1, b2, d', b3, b4, b5⟩)
                · by_cases w : v c ≤ t
                  · exact Or.inl w
                  · exact Or.inr (Or.inl ⟨d, en, ⟨g1, by omega⟩, by omega⟩)
                · rw [nU_n _ _ (nbo_ne hb hc b2 b3)] at b5
                  exact Or.inr (Or.inr ⟨i, b1, b2, d', b3, b4, b5⟩)
              · rintro (y | ⟨d', y, w1, w2⟩ | ⟨i, b1, b2, d', b3, b4, b5⟩)
                · exact Or.inl (by omega)
                · rw [en] at y
                  obtain rfl := Option.some.inj y
                  have w3 := w1.2
                  exact Or.inl (by omega)
                · exact Or.inr ⟨i, b1, b2, d', b3, b4, by rw [nU_n _ _ (nbo_ne hb hc b2 b3)]; exact b5⟩
          by_cases w1 : v d ≤ hN q c m
          · rw [if_pos w1]
            by_cases w2 : v c ≤ hN q c m
            · rw [if_pos w2]; exact nx (v c) (by omega)
            · rw [if_neg w2]; exact nx (hN q c m) (by omega)
          · rw [if_neg w1]
            by_cases w2 : v c ≤ v d
            · rw [if_pos w2]; exact nx (v c) (by omega)
            · rw [if_neg w2]; exact nx (v d) (by omega)
def hF (q : Nat → Nat → Nat) (m : Nat) : Nat → Nat := fun c => hN q c m
theorem exm {M M' : Mem} (h : ∀ r, r ≠ 12 → M' r = M r) : AgM M M' := ⟨fun k a b => h k (by omega), fun j _ => by rw [h 0 (by decide)]⟩
theorem fw_p {q : Nat → Nat → Nat} (hb : Bd q) {m p : Nat} (hm : m < 12) (kc : Mem → Option Mem) : ∀ k i : Nat, ∀ M : Mem, ∀ v : Nat → Nat, i ≤ q 0 0 * q 0 1 → q 0 0 * q 0 1 - i < k → PM M q → (∀ c, c < q 0 0 * q 0 1 → M 12 c = nI (v c)) → (∀ c, c < q 0 0 * q 0 1 → v c ≤ 999999) → rSt (q 0 0 * q 0 1) (sW q (hF q m)) (eW q (hF q m)) v p i → ∃ M' v', f_X12_findWater_l53 kc NN (nI m) k M (nI i) = kc M' ∧ (∀ r, r ≠ 12 → M' r = M r) ∧ (∀ c, c < q 0 0 * q 0 1 → M' 12 c = nI (v' c)) ∧ (∀ c, c < q 0 0 * q 0 1 → v' c ≤ 999999) ∧ rSt (q 0 0 * q 0 1) (sW q (hF q m)) (eW q (hF q m)) v' p (q 0 0 * q 0 1) := by
  have hn := hb.n30
  intro k
  induction k with
  | zero => intro i M v _ h; omega
  | succ k ih =>
    intro i M v h1 h2 hp hV hv hst
    rw [f_X12_findWater_l53, al_m hp, bnd]
    by_cases e : i = q 0 0 * q 0 1
    · rw [if_pos (by rw [e]; exact Int32.le_refl _)]
      rw [e] at hst
      exact ⟨M, v, rfl, fun _ _ => rfl, hV, hv, hst⟩
    · have hi : i < q 0 0 * q 0 1 := by omega
      have e1 : ¬ nI (q 0 0 * q 0 1) ≤ nI i := nI_ge hi (by omega)
      rw [if_neg e1]
      obtain ⟨M1, z, r1, r2, r3, r4, r5⟩ := fw_s hb hm hi (fun M25 => f_X12_findWater_l53 kc NN (nI m) k M25 (nI i + 1)) NN NN 0 M v (by decide) (by decide) hp hV hv
      have r1' : f_X12_findWater_l64 (fun M25 => f_X12_findWater_l53 kc NN (nI m) k M25 (nI i + 1)) NN (nI m) (nI i) NN M 0 = f_X12_findWater_l53 kc NN (nI m) k M1 (nI i + 1) := r1
      rw [r1', nI1]
      have x : rX (q 0 0 * q 0 1) (eW q (hF q m)) v i z := ⟨r4, fun t _ => by
        rw [r5, sd_nb hb hi]
        constructor
        · rintro (y | ⟨d, a, b, c1, c2⟩)
          · exact Or.inl y
          · exact Or.inr ⟨d, a, ⟨b, c1⟩, c2⟩
        · rintro (y | ⟨d, a, ⟨b, c1⟩, c2⟩)
          · exact Or.inl y
          · exact Or.inr ⟨d, a, b, c1, c2⟩⟩
      obtain ⟨M2, v2, s1, s2, s3⟩ := ih (i + 1) M1 (nU v i z) (by omega) (by omega) (hp.ag (exm r2)) r3 (nU_le hv (Nat.le_trans r4 (hv i hi))) (rSt_1 hst hi x)
      exact ⟨M2, v2, s1, fun r hr => (s2 r hr).trans (r2 r hr), s3⟩
theorem fw_q {q : Nat → Nat → Nat} (hb : Bd q) {m : Nat} (hm : m < 12) : ∀ k p : Nat, ∀ M : Mem, ∀ v : Nat → Nat, p ≤ q 0 0 * q 0 1 → q 0 0 * q 0 1 - p < k → PM M q → (∀ c, c < q 0 0 * q 0 1 → M 12 c = nI (v c)) → (∀ c, c < q 0 0 * q 0 1 → v c ≤ 999999) → rSt (q 0 0 * q 0 1) (sW q (hF q m)) (eW q (hF q m)) v p 0 → ∃ M' v', f_X12_findWater_l43 NN (nI m) k M (nI p) = some M' ∧ (∀ r, r ≠ 12 → M' r = M r) ∧ (∀ c, c < q 0 0 * q 0 1 → M' 12 c = nI (v' c)) ∧ rFn (q 0 0 * q 0 1) (sW q (hF q m)) (eW q (hF q m)) v' := by
  have hn := hb.n30
  intro k
  induction k with
  | zero => intro p M v _ h; omega
  | succ k ih =>
    intro p M v h1 h2 hp hV hv hst
    rw [f_X12_findWater_l43, al_m hp, bnd]
    by_cases e : p = q 0 0 * q 0 1
    · rw [if_pos (by rw [e]; exact Int32.le_refl _)]
      exact ⟨M, v, rfl, fun _ _ => rfl, hV, rSt_e hst (by omega)⟩
    · have hi : p < q 0 0 * q 0 1 := by omega
      have e1 : ¬ nI (q 0 0 * q 0 1) ≤ nI p := nI_ge hi (by omega)
      rw [if_neg e1]
      obtain ⟨M1, v1, r1, r2, r3, r4, r5⟩ := fw_p hb (p := p) hm (fun M26 => f_X12_findWater_l43 NN (nI m) k M26 (nI p + 1)) NN 0 M v (Nat.zero_le _) (show _ < 1000 by omega) hp hV hv hst
      have r1' : f_X12_findWater_l53 (fun M26 => f_X12_findWater_l43 NN (nI m) k M26 (nI p + 1)) NN (nI m) NN M 0 = f_X12_findWater_l43 NN (nI m) k M1 (nI p + 1) := r1
      rw [r1', nI1]
      obtain ⟨M2, v2, s1, s2, s3⟩ := ih (p + 1) M1 v1 (by omega) (by omega) (hp.ag (exm r2)) r3 r4 (rSt_0 r5)
      exact ⟨M2, v2, s1, fun r hr => (s2 r hr).trans (r2 r hr), s3⟩
theorem fw_i {q : Nat → Nat → Nat} (hb : Bd q) {m : Nat} (hm : m < 12) : ∀ k i : Nat, ∀ M : Mem, ∀ v : Nat → Nat, i ≤ q 0 0 * q 0 1 → q 0 0 * q 0 1 - i < k → PM M q → (∀ c, c < i → M 12 c = nI (v c)) → (∀ c, c < i → (ed q c → v c = hF q m c) ∧ (¬ ed q c → v c = 999999)) → ∃ M' v', f_X12_findWater_l2 NN (nI m) k M (nI i) = some M' ∧ (∀ r, r ≠ 12 → M' r = M r) ∧ (∀ c, c < q 0 0 * q 0 1 → M' 12 c = nI (v' c)) ∧ rFn (q 0 0 * q 0 1) (sW q (hF q m)) (eW q (hF q m)) v' := by
  have hn := hb.n30
  intro k
  induction k with
  | zero => intro i M v _ h; omega
  | succ k ih =>
    intro i M v h1 h2 hp hV hv
    rw [f_X12_findWater_l2, al_m hp, bnd]
    by_cases e : i = q 0 0 * q 0 1
    · rw [if_pos (by rw [e]; exact Int32.le_refl _)]
      rw [e] at hV hv
      exact fw_q hb hm NN 0 M v (Nat.zero_le _) (show _ < 1000 by omega) hp hV (fun c hcn => by
        by_cases w : ed q c
        · rw [(hv c hcn).1 w]
          have := hN_le hb hcn hm
          show hN q c m ≤ 999999
          omega
        · rw [(hv c hcn).2 w]; exact Nat.le_refl _) (w_0 (by decide) hv)
    · have hi : i < q 0 0 * q 0 1 := by omega
      have e1 : ¬ nI (q 0 0 * q 0 1) ≤ nI i := nI_ge hi (by omega)
      have nx : ∀ x : Nat, ((ed q i → x = hF q m i) ∧ (¬ ed q i → x = 999999)) → ∃ M' v', f_X12_findWater_l2 NN (nI m) k (up M 12 i (nI x)) (nI (i + 1)) = some M' ∧ (∀ r, r ≠ 12 → M' r = M r) ∧ (∀ c, c < q 0 0 * q 0 1 → M' 12 c = nI (v' c)) ∧ rFn (q 0 0 * q 0 1) (sW q (hF q m)) (eW q (hF q m)) v' := by
        intro x hx
        obtain ⟨M', v', s1, s2, s3⟩ := ih (i + 1) (up M 12 i (nI x)) (nU v i x) (by omega) (by omega) (hp.ag (um_ag (by omega))) (fun c hci => by
          by_cases w : c = i
          · subst w; rw [up_ss, nU_s]
          · rw [up_sn _ _ _ w, nU_n _ _ w]; exact hV c (by omega)) (fun c hci => by
          by_cases w : c = i
          · subst w; rw [nU_s]; exact hx
          · rw [nU_n _ _ w]; exact hv c (by omega))
        exact ⟨M', v', s1, fun r hr => by rw [s2 r hr, up_n _ _ _ hr], s3⟩
      rw [if_neg e1]
      rcases ed_m hb hp hi with ⟨g1, g2⟩ | ⟨g1, g2⟩
      · simp only [↓reduceIte, g2, bnd, n10, hO_m hb hp hi hm, if_pos (inbT (show i < 30 by omega) (by decide)), nI_clamp (show i < 2 ^ 31 by omega), nmd, nI1]
        exact nx (hN q i m) ⟨fun _ => rfl, fun z => absurd g1 z⟩
      · simp only [↓reduceIte, g2, bnd, if_pos (inbT (show i < 30 by omega) (by decide)), nI_clamp (show i < 2 ^ 31 by omega), nmd, nI1]
        exact nx 999999 ⟨fun z => absurd z g1, fun _ => rfl⟩
theorem fw_m {M : Mem} {q : Nat → Nat → Nat} (hb : Bd q) {m : Nat} (hm : m < 12) (hp : PM M q) : ∃ M' v', f_X12_findWater NN M (nI m) = some M' ∧ (∀ r, r ≠ 12 → M' r = M r) ∧ (∀ c, c < q 0 0 * q 0 1 → M' 12 c = nI (v' c)) ∧ rFn (q 0 0 * q 0 1) (sW q (hF q m)) (eW q (hF q m)) v' := by
  have hn := hb.n30
  exact fw_i hb hm NN 0 M (fun _ => 0) (Nat.zero_le _) (show _ < 1000 by omega) hp (fun c h => absurd h (by omega)) (fun c h => absurd h (by omega))
/-- water runs off somewhere -/
theorem cn_W {q : Nat → Nat → Nat} (hb : Bd q) {h : Nat → Nat} (hh : ∀ c, c < q 0 0 * q 0 1 → h c ≤ 500) : ∀ k c, c < k → c < q 0 0 * q 0 1 → ∃ j, rW (q 0 0 * q 0 1) (sW q h 500) (eW q h 500) j c := by
  intro k
  induction k with
  | zero => intro c h; omega
  | succ k ih =>
    intro c h1 hc
    by_cases e : ed q c
    · exact ⟨0, e, hh c hc⟩
    · have h0 : 0 < c := Nat.pos_of_ne_zero fun z => e (by subst z; exact Or.inl (Nat.zero_div _))
      obtain ⟨d, d1, d2⟩ := nb_dn hb hc h0
      obtain ⟨j, w⟩ := ih d (by omega) (by omega)
      exact ⟨j + 1, Or.inr ⟨d, by omega, ⟨d2, e, hh c hc⟩, w⟩⟩
theorem wt_eq {q : Nat → Nat → Nat} (hb : Bd q) {h v v' : Nat → Nat} (hh : ∀ c, c < q 0 0 * q 0 1 → h c ≤ 500) (h1 : rFn (q 0 0 * q 0 1) (sW q h) (eW q h) v) (h2 : rFn (q 0 0 * q 0 1) (sW q h) (eW q h) v') : ∀ c, c < q 0 0 * q 0 1 → v c = v' c := fun c hc => rFn_eq h1 h2 hc (t := 500) (by decide) ((h1 c 500 hc (by decide)).mpr (cn_W hb hh (c + 1) c (by omega) hc))
theorem HR_hR {M : Mem} {q : Nat → Nat → Nat} (hb : Bd q) {m : Nat} (hm : m < 12) (h : HR M 35 q m) : hR M q (hF q m) := fun c hc => ⟨h c hc, hN_le hb hc hm⟩
theorem sim_depth {Mc Mm : Mem} (h : Sim Mc Mm) (x1 : Int32) (x2 : Int32) : ∃ (r : Int32) (Mc' : Mem) (Mm' : Mem), f_X11_depth NN Mc x1 x2 = some (r, Mc') ∧ f_X12_depth NN Mm x1 x2 = some (r, Mm') ∧ Sim Mc' Mm' := by
  have hS := h
  obtain ⟨⟨q, hb, h9, hc, hm⟩, -⟩ := h
  have hn := hb.n30
  unfold f_X11_depth f_X12_depth
  rcases has_cs hb hc hm x1 with ⟨c, hcn, rfl, e1, e2⟩ | ⟨e1, e2⟩
  · simp only [↓reduceIte, e1, e2, bnd, n10]
    rcases mo_cs x2 with ⟨m, hm12, rfl, g1, g2⟩ | ⟨g1, g2⟩
    · simp only [↓reduceIte, g1, g2, bnd, n10]
      unfold f_X9_measure
      obtain ⟨M1, a1, a2, a3, a4⟩ := wh hb hc hm12 (r := 35) (by omega)
      obtain ⟨M2, v, b1, b2, b3, b4⟩ := st_w hb (hc.ag a2) (HR_hR hb hm12 a3)
      obtain ⟨M3, u, c1, c2, c3, c4⟩ := fw_m hb hm12 hm
      have ev := wt_eq hb (fun c hc => hN_le hb hc hm12) b4 c4 c hcn
      unfold f_X9_depthAt
      simp only [a1, bnd, b1, c1, if_pos (inbT (show c < 30 by omega) (by decide)), nI_clamp (show c < 2 ^ 31 by omega), hO_m hb (hm.ag (exm c2)) hcn hm12, b3 c hcn, c3 c hcn, b2 35 (by decide), a3 c hcn, ev]
      exact ⟨_, _, _, rfl, rfl, hS.ag (a2.tr (ex_ag b2)) (exm c2)⟩
    · rw [g1, g2]; exact ⟨_, _, _, rfl, rfl, hS⟩
  · rw [e1, e2]; exact ⟨_, _, _, rfl, rfl, hS⟩
/-- how much stands -/
def sm (v h : Nat → Nat) : Nat → Int32
  | 0 => 0
  | i + 1 => sm v h i + (nI (v i) - nI (h i))
theorem sm_eq {v v' h : Nat → Nat} : ∀ n, (∀ c, c < n → v c = v' c) → sm v h n = sm v' h n
  | 0, _ => rfl
  | n + 1, e => by unfold sm; rw [sm_eq n (fun c hc => e c (by omega)), e n (by omega)]
def isP (q : Nat → Nat → Nat) (h : Nat → Nat) (r : Int32) : Prop := ∃ v, rFn (q 0 0 * q 0 1) (sW q h) (eW q h) v ∧ r = sm v h (q 0 0 * q 0 1)
theorem isP_un {q : Nat → Nat → Nat} (hb : Bd q) {h : Nat → Nat} (hh : ∀ c, c < q 0 0 * q 0 1 → h c ≤ 500) {r r' : Int32} (a : isP q h r) (b : isP q h r') : r = r' := by
  obtain ⟨v, a1, a2⟩ := a
  obtain ⟨v', b1, b2⟩ := b
  rw [a2, b2]
  exact sm_eq _ (wt_eq hb hh a1 b1)
theorem ad_l {M : Mem} {q : Nat → Nat → Nat} (hb : Bd q) (hc : PC M q) {v h : Nat → Nat} (hh : hR M q h) (hV : ∀ c, c < q 0 0 * q 0 1 → M 36 c = nI (v c)) (N : Nat) : ∀ k i : Nat, i ≤ q 0 0 * q 0 1 → q 0 0 * q 0 1 - i < k → f_X9_allDepths_l8 N M k (sm v h i) (nI i) = some (sm v h (q 0 0 * q 0 1), M) := by
  have hn := hb.n30
  intro k
  induction k with
  | zero => intro i _ h; omega
  | succ k ih =>
    intro i h1 h2
    rw [f_X9_allDepths_l8, st_c hc, bnd]
    by_cases e : i = q 0 0 * q 0 1
    · rw [if_pos (by rw [e]; exact Int32.le_refl _), e]
    · have hi : i < q 0 0 * q 0 1 := by omega
      have e1 : ¬ nI (q 0 0 * q 0 1) ≤ nI i := nI_ge hi (by omega)
      unfold f_X9_depthAt
      simp only [↓reduceIte, e1, if_pos (inbT (show i < 30 by omega) (by decide)), nI_clamp (show i < 2 ^ 31 by omega), bnd, nmd, hV i hi, (hh i hi).1, nI1]
      exact ih (i + 1) (by omega) (by omega)
theorem ad_c {M : Mem} {q : Nat → Nat → Nat} (hb : Bd q) (hc : PC M q) {h : Nat → Nat} (hh : hR M q h) : ∃ r M', f_X9_allDepths NN M = some (r, M') ∧ (∀ r, r ≠ 36 → M' r = M r) ∧ isP q h r := by
  have hn := hb.n30
  obtain ⟨M2, v, b1, b2, b3, b4⟩ := st_w hb hc hh
  unfold f_X9_allDepths
  rw [b1, bnd]
  have y := ad_l hb (hc.ag (ex_ag b2)) (h := h) (fun c hcn => by rw [b2 35 (by decide)]; exact hh c hcn) b3 NN NN 0 (Nat.zero_le _) (show _ < 1000 by omega)
  have y' : f_X9_allDepths_l8 NN M2 NN 0 0 = some (sm v h (q 0 0 * q 0 1), M2) := y
  exact ⟨_, _, y', b2, v, b4, rfl⟩
theorem po_l {M : Mem} {q : Nat → Nat → Nat} (hb : Bd q) (hp : PM M q) {m : Nat} (hm : m < 12) {v : Nat → Nat} (hV : ∀ c, c < q 0 0 * q 0 1 → M 12 c = nI (v c)) (N : Nat) : ∀ k i : Nat, i ≤ q 0 0 * q 0 1 → q 0 0 * q 0 1 - i < k → f_X12_poolOf_l9 N M (nI m) k (sm v (hF q m) i) (nI i) = some (sm v (hF q m) (q 0 0 * q 0 1), M) := by
  have hn := hb.n30
  intro k
  induction k with
  | zero => intro i _ h; omega
  | succ k ih =>
    intro i h1 h2
    rw [f_X12_poolOf_l9, al_m hp, bnd]
    by_cases e : i = q 0 0 * q 0 1
    · rw [if_pos (by rw [e]; exact Int32.le_refl _), e]
    · have hi : i < q 0 0 * q 0 1 := by omega
      have e1 : ¬ nI (q 0 0 * q 0 1) ≤ nI i := nI_ge hi (by omega)
      simp only [↓reduceIte, e1, if_pos (inbT (show i < 30 by omega) (by decide)), nI_clamp (show i < 2 ^ 31 by omega), bnd, nmd, hV i hi, hO_m hb hp hi hm, nI1]
      exact ih (i + 1) (by omega) (by omega)
theorem po_m {M : Mem} {q : Nat → Nat → Nat} (hb : Bd q) (hp : PM M q) {m : Nat} (hm : m < 12) : ∃ r M', f_X12_poolOf NN M (nI m) = some (r, M') ∧ (∀ r, r ≠ 12 → M' r = M r) ∧ isP q (hF q m) r := by
  have hn := hb.n30
  obtain ⟨M2, v, b1, b2, b3, b4⟩ := fw_m hb hm hp
  unfold f_X12_poolOf
  rw [b1, bnd]
  have y := po_l hb (hp.ag (exm b2)) hm b3 NN NN 0 (Nat.zero_le _) (show _ < 1000 by omega)
  have y' : f_X12_poolOf_l9 NN M2 (nI m) NN 0 0 = some (sm v (hF q m) (q 0 0 * q 0 1), M2) := y
  exact ⟨_, _, y', b2, v, b4, rfl⟩
theorem sim_pool {Mc Mm : Mem} (h : Sim Mc Mm) (x1 : Int32) : ∃ (r : Int32) (Mc' : Mem) (Mm' : Mem), f_X11_pool NN Mc x1 = some (r, Mc') ∧ f_X12_pool NN Mm x1 = some (r, Mm') ∧ Sim Mc' Mm' := by
  have hS := h
  obtain ⟨⟨q, hb, h9, hc, hm⟩, -⟩ := h
  have hn := hb.n30
  unfold f_X11_pool f_X12_pool
  rcases rf_cs hb hc hm x1 with ⟨m, hm12, rfl, hpos, r1, r2, r3, r4, r5⟩ | ⟨r1, r2, r3, r4⟩ | ⟨r1, r2, r3⟩
  · simp only [↓reduceIte, r1, r3, r4, r5, bnd, n10]
    unfold f_X9_measure
    obtain ⟨M1, a1, a2, a3, a4⟩ := wh hb hc hm12 (r := 35) (by omega)
    obtain ⟨r, M2, b1, b2, b3⟩ := ad_c hb (hc.ag a2) (HR_hR hb hm12 a3)
    obtain ⟨r', M3, c1, c2, c3⟩ := po_m hb hm hm12
    have er := isP_un hb (fun c hc => hN_le hb hc hm12) b3 c3
    simp only [a1, bnd, b1, c1, er]
    exact ⟨_, _, _, rfl, rfl, hS.ag (a2.tr (ex_ag b2)) (exm c2)⟩
  · simp only [↓reduceIte, r1, r3, r4, bnd, n10, show ¬ (-3 : Int32) = 0 by decide]
    exact ⟨_, _, _, rfl, rfl, hS⟩
  · simp only [↓reduceIte, r1, r3, bnd, show ¬ (-1 : Int32) = 0 by decide]
    exact ⟨_, _, _, rfl, rfl, hS⟩
