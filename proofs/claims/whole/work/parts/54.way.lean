theorem dv_iff {M : Mem} {r : Nat} {X : Int32} {q : Nat → Nat → Nat} {a f l v : Nat} (h : DV M r X q a f l v) (hX : ∀ k, k ≤ 30 → ¬ X = nI k) {c κ : Nat} (hc : c < q 0 0 * q 0 1) (hκ : κ ≤ 30) : M r c = nI κ ↔ DB q a f l v κ c := by
  rcases h c hc with ⟨k, g1, g2, g3⟩ | ⟨g1, g2⟩
  · rw [g3, nI_eq (by omega) (by omega)]
    exact ⟨fun z => by subst z; exact g2, fun z => rD_un g2 z⟩
  · rw [g2]
    exact ⟨fun z => absurd z (hX κ hκ), fun z => absurd z.1 (g1 κ)⟩
theorem x9 : ∀ k, k ≤ 30 → ¬ (-9 : Int32) = nI k := fun k hk z => ne9 (by omega) z.symm
theorem x99 : ∀ k, k ≤ 30 → ¬ nI 999999 = nI k := fun k hk z => by
  have := (nI_eq (by decide) (by omega)).mp z
  omega
theorem nw_l {Mc Mm : Mem} {q : Nat → Nat → Nat} (hb : Bd q) (hc : PC Mc q) (hm : PM Mm q) {a m v κ c : Nat} (hm12 : m < 12) (hv : v ≤ 999) (hS : SR Mc q m (m + 1 - m)) (hC : DV Mc 31 (-9) q a m m v) (hM : DV Mm 11 (nI 999999) q a m m v) (hcn : c < q 0 0 * q 0 1) (hκ : κ + 1 ≤ 30) (hD : DB q a m m v (κ + 1) c) (kc : Int32 → Option (Int32 × Mem)) (N : Nat) : ∀ k s : Nat, s ≤ 4 → 4 - s < k → (∃ i, s ≤ i ∧ i < 4 ∧ ∃ d, nbo q c i = some d ∧ DB q a m m v κ d ∧ okT q c d m m v) → ∃ t d, t < 4 ∧ nbo q c t = some d ∧ DB q a m m v κ d ∧ f_X10_nextOnWay_l2 N Mc (nI c) (nI v) k (nI s) = some (nI d) ∧ f_X12_way_l109 kc NN Mm (nI m) (nI v) (nI c) k (nI s) = kc (nI t) := by
  have hn := hb.n30
  have c31 : Mc 31 c = nI (κ + 1) := (dv_iff hC x9 hcn hκ).mpr hD
  have c11 : Mm 11 c = nI (κ + 1) := (dv_iff hM x99 hcn hκ).mpr hD
  have dn : nI (κ + 1) - 1 = nI κ := by rw [s1 (show 0 < κ + 1 by omega)]; rfl
  intro k
  induction k with
  | zero => intro s _ h; omega
  | succ k ih =>
    intro s h1 h2 hex
    have h4 : s < 4 := by
      obtain ⟨i, g1, g2, _⟩ := hex
      omega
    have e1 : ¬ (4 : Int32) ≤ nI s := nI_ge (a := s) (b := 4) (by omega) (by omega)
    rw [f_X10_nextOnWay_l2, f_X12_way_l109]
    simp only [↓reduceIte, e1, nb_c hb hc hcn h4, nb_m hb hm hcn h4, bnd, nI1]
    have on : (∀ d, nbo q c s = some d → DB q a m m v κ d → okT q c d m m v → False) → ∃ t d, t < 4 ∧ nbo q c t = some d ∧ DB q a m m v κ d ∧ f_X10_nextOnWay_l2 N Mc (nI c) (nI v) k (nI (s + 1)) = some (nI d) ∧ f_X12_way_l109 kc NN Mm (nI m) (nI v) (nI c) k (nI (s + 1)) = kc (nI t) := fun z => by
      refine ih (s + 1) (by omega) (by omega) ?_
      rcases (sd_s h4).mp hex with ⟨d, y1, y2, y3⟩ | y
      · exact absurd (z d y1 y2 y3) id
      · exact y
    cases en : nbo q c s with
    | none =>
      simp only [oI, ↓reduceIte]
      exact on fun d z => by rw [en] at z; cases z
    | some d =>
      have hd := (nbo_rel hb hcn h4 en).1
      have sa := sa_c hb hS hcn h4 en
      have l5 := mD_le hb hcn hd (f := m) (m + 1 - m) (by omega)
      have ok := mD_ok q c d v (Nat.le_refl m)
      have i31 := dv_iff hC x9 hd (show κ ≤ 30 by omega)
      have i11 := dv_iff hM x99 hd (show κ ≤ 30 by omega)
      rw [show oI (some d) = nI d from rfl]
      simp only [↓reduceIte, ne9 (show d < 2147483648 by omega), if_pos (inbT (show d < 30 by omega) (by decide)), if_pos (inbT (show c < 30 by omega) (by decide)), nI_clamp (show d < 2 ^ 31 by omega), nI_clamp (show c < 2 ^ 31 by omega), c31, c11, dn, sa, bnd]
      by_cases w : DB q a m m v κ d
      · rw [if_pos (i31.mpr w), if_pos (i11.mpr w)]
        rcases iS_m hb hm hcn hd (Nat.le_refl m) hm12 hv with ⟨i1, i2⟩ | ⟨i1, i2⟩
        · have nl : ¬ nI v < nI (mD q c d m (m + 1 - m)) := nI_nlt (ok.mpr i1) (by omega)
          simp only [↓reduceIte, nl, i2, bnd, n10]
          exact ⟨s, d, h4, en, w, rfl, rfl⟩
        · have nl : nI v < nI (mD q c d m (m + 1 - m)) := nI_lt (Nat.lt_of_not_le fun z => i1 (ok.mp z)) (by omega)
          simp only [↓reduceIte, nl, i2, bnd]
          exact on fun d' z _ y => by
            rw [en] at z
            obtain rfl := Option.some.inj z
            exact i1 y
      · rw [if_neg (fun z => w (i31.mp z)), if_neg (fun z => w (i11.mp z))]
        exact on fun d' z y _ => by
          rw [en] at z
          obtain rfl := Option.some.inj z
          exact w y
theorem nw_d {Mc Mm : Mem} {q : Nat → Nat → Nat} (hb : Bd q) (hc : PC Mc q) (hm : PM Mm q) {a m v y : Nat} (hm12 : m < 12) (hv : v ≤ 999) (hy : y ≤ 30) (hS : SR Mc q m (m + 1 - m)) (hC : DV Mc 31 (-9) q a m m v) (hM : DV Mm 11 (nI 999999) q a m m v) : ∀ k j c κ : Nat, c < q 0 0 * q 0 1 → j ≤ y → y - j < k → y - j ≤ κ → κ ≤ 30 → DB q a m m v κ c → ∃ r, f_X10_stoneBehind_l19 NN Mc (nI v) (nI y) k (nI c) (nI j) = some r ∧ f_X12_way_l99 NN Mm (nI m) (nI v) (nI y) k (nI c) (nI j) = some (r, Mm) := by
  have hn := hb.n30
  intro k
  induction k with
  | zero => intro j c κ _ _ h; omega
  | succ k ih =>
    intro j c κ hcn h1 h2 h3 hκ hD
    rw [f_X10_stoneBehind_l19, f_X12_way_l99]
    by_cases e : j = y
    · subst e
      rw [if_pos (Int32.le_refl _), if_pos (Int32.le_refl _)]
      exact ⟨_, rfl, rfl⟩
    · have e1 : ¬ nI y ≤ nI j := nI_ge (by omega) (by omega)
      rw [if_neg e1, if_neg e1]
      obtain ⟨κ, rfl⟩ : ∃ i, κ = i + 1 := ⟨κ - 1, by omega⟩
      obtain ⟨d0, g1, g2, g3⟩ := rD_pre hD
      obtain ⟨⟨t0, ht, g4⟩, g5⟩ := g2
      obtain ⟨t, d, t4, n1, n2, n3, n4⟩ := nw_l hb hc hm hm12 hv hS hC hM hcn hκ hD (fun y8_25 => (f_X12_beside Mm (nI c) y8_25).bind fun r26 => f_X12_way_l99 NN Mm (nI m) (nI v) (nI y) k r26 (nI j + 1)) NN NN 0 (by decide) (by decide) ⟨t0, Nat.zero_le _, ht, d0, g4, g3, g5⟩
      have n3' : f_X10_nextOnWay NN Mc (nI c) (nI v) = some (nI d) := n3
      have n4' : f_X12_way_l109 (fun y8_25 => (f_X12_beside Mm (nI c) y8_25).bind fun r26 => f_X12_way_l99 NN Mm (nI m) (nI v) (nI y) k r26 (nI j + 1)) NN Mm (nI m) (nI v) (nI c) NN 0 = (f_X12_beside Mm (nI c) (nI t)).bind fun r26 => f_X12_way_l99 NN Mm (nI m) (nI v) (nI y) k r26 (nI j + 1) := n4
      rw [n3', n4', nb_m hb hm hcn t4, n1, bnd, bnd, nI1]
      exact ih (j + 1) d κ (nbo_rel hb hcn t4 n1).1 (by omega) (by omega) (by omega) (by omega) n2
theorem sim_way {Mc Mm : Mem} (h : Sim Mc Mm) (x1 : Int32) (x2 : Int32) (x3 : Int32) (x4 : Int32) (x5 : Int32) : ∃ (r : Int32) (Mc' : Mem) (Mm' : Mem), f_X11_way NN Mc x1 x2 x3 x4 x5 = some (r, Mc') ∧ f_X12_way NN Mm x1 x2 x3 x4 x5 = some (r, Mm') ∧ Sim Mc' Mm' := by
  have hS := h
  obtain ⟨⟨q, hb, h9, hc, hm⟩, -⟩ := h
  have hn := hb.n30
  unfold f_X11_way f_X12_way
  rcases has_cs hb hc hm x1 with ⟨c, hcn, rfl, e1, e2⟩ | ⟨e1, e2⟩
  · simp only [↓reduceIte, e1, e2, bnd, n10]
    rcases has_cs hb hc hm x2 with ⟨a, ha, rfl, d1, d2⟩ | ⟨d1, d2⟩
    · simp only [↓reduceIte, d1, d2, bnd, n10]
      rcases mo_cs x3 with ⟨m, hm12, rfl, g1, g2⟩ | ⟨g1, g2⟩
      · simp only [↓reduceIte, g1, g2, bnd, n10]
        by_cases w : (-1 : Int32) ≤ x5
        · simp only [↓reduceIte, w]
          rcases ap_cs x4 with ⟨v, hv, rfl, k1, k2⟩ | ⟨k1, k2⟩
          · simp only [↓reduceIte, k1, k2, bnd, n10]
            obtain ⟨M1, a1, a2, a3⟩ := me_c hb hc (Nat.le_refl m) hm12
            obtain ⟨M2, b1, b2, b3, b4⟩ := bq_c hb (hc.ag a2) ha (Nat.le_refl m) hm12 hv a3
            obtain ⟨M3, c1, c2, c3⟩ := ff_m hb hm ha (Nat.le_refl m) hm12 hv
            have sim := hS.ag (a2.tr b2) (exf c2)
            unfold f_X10_stoneBehind
            simp only [a1, b1, c1, bnd, if_pos (inbT (show c < 30 by omega) (by decide)), nI_clamp (show c < 2 ^ 31 by omega)]
            have big : (999999 : Int32) = nI 999999 := rfl
            rcases b4 c hcn with ⟨k, y1, y2, y3⟩ | ⟨y1, y2⟩
            · have y4 : M3 11 c = nI k := (dv_iff c3 x99 hcn y1).mpr y2
              have y5 : ¬ nI k = 999999 := fun z => x99 k y1 (by rw [← big]; exact z.symm)
              simp only [↓reduceIte, y3, y4, y5]
              by_cases w2 : x5 = -1
              · subst w2
                have y6 : (-1 : Int32) ≤ nI k := by
                  rw [Int32.le_iff_toInt_le, nI_toInt (by omega)]
                  have : (-1 : Int32).toInt = -1 := by decide
                  omega
                simp only [↓reduceIte, y6]
                exact ⟨_, _, _, rfl, rfl, sim⟩
              · simp only [↓reduceIte, w2]
                by_cases w3 : x5 ≤ nI k
                · simp only [↓reduceIte, w3]
                  have w4 : ¬ x5 < 0 := fun z => w2 (by
                    apply Int32.toInt_inj.mp
                    rw [Int32.lt_iff_toInt_lt] at z
                    rw [Int32.le_iff_toInt_le] at w
                    have e0 : (0 : Int32).toInt = 0 := by decide
                    have e1 : (-1 : Int32).toInt = -1 := by decide
                    omega)
                  obtain ⟨y, hy, rfl⟩ := nI_of2 (n := k) (nI_toInt (by omega)) w4 w3
                  obtain ⟨r, r1, r2⟩ := nw_d hb ((hc.ag a2).ag b2) (hm.ag (exf c2)) hm12 hv (show y ≤ 30 by omega) b3 b4 c3 NN 0 c k hcn (Nat.zero_le _) (show _ < 1000 by omega) (by omega) y1 y2
                  have r1' : f_X10_stoneBehind_l19 NN M2 (nI v) (nI y) NN (nI c) 0 = some r := r1
                  have r2' : f_X12_way_l99 NN M3 (nI m) (nI v) (nI y) NN (nI c) 0 = some (r, M3) := r2
                  rw [r1', r2', bnd]
                  exact ⟨_, _, _, rfl, rfl, sim⟩
                · simp only [↓reduceIte, w3, bnd]
                  exact ⟨_, _, _, rfl, rfl, sim⟩
            · have y4 : M3 11 c = 999999 := by
                rcases c3 c hcn with ⟨k, z1, z2, z3⟩ | ⟨z1, z2⟩
                · exact absurd z2.1 (y1 k)
                · exact z2
              simp only [↓reduceIte, y2, y4]
              by_cases w2 : x5 = -1
              · simp only [↓reduceIte, w2]
                exact ⟨_, _, _, rfl, rfl, sim⟩
              · have w3 : ¬ x5 ≤ -9 := fun z => by
                  rw [Int32.le_iff_toInt_le] at z w
                  have e0 : (-9 : Int32).toInt = -9 := by decide
                  have e1 : (-1 : Int32).toInt = -1 := by decide
                  omega
                simp only [↓reduceIte, w2, w3, bnd]
                exact ⟨_, _, _, rfl, rfl, sim⟩
          · rw [k1, k2]; exact ⟨_, _, _, rfl, rfl, hS⟩
        · simp only [↓reduceIte, w]
          exact ⟨_, _, _, rfl, rfl, hS⟩
      · rw [g1, g2]; exact ⟨_, _, _, rfl, rfl, hS⟩
    · rw [d1, d2]; exact ⟨_, _, _, rfl, rfl, hS⟩
  · rw [e1, e2]; exact ⟨_, _, _, rfl, rfl, hS⟩
theorem sim_holds {Mc Mm : Mem} (h : Sim Mc Mm) (x1 : Int32) (x2 : Int32) (x3 : Int32) (x4 : Int32) (x5 : Int32) : ∃ (r : Int32) (Mc' : Mem) (Mm' : Mem), f_X11_holds NN Mc x1 x2 x3 x4 x5 = some (r, Mc') ∧ f_X12_holds NN Mm x1 x2 x3 x4 x5 = some (r, Mm') ∧ Sim Mc' Mm' := by
  have hS := h
  obtain ⟨⟨q, hb, h9, hc, hm⟩, -⟩ := h
  have hn := hb.n30
  unfold f_X11_holds f_X12_holds
  rcases has_cs hb hc hm x1 with ⟨c, hcn, rfl, e1, e2⟩ | ⟨e1, e2⟩
  · simp only [↓reduceIte, e1, e2, bnd, n10]
    rcases has_cs hb hc hm x2 with ⟨a, ha, rfl, d1, d2⟩ | ⟨d1, d2⟩
    · simp only [↓reduceIte, d1, d2, bnd, n10]
      rcases mo_cs x3 with ⟨f, hf12, rfl, g1, g2⟩ | ⟨g1, g2⟩
      · simp only [↓reduceIte, g1, g2, bnd, n10]
        rcases mo_cs x4 with ⟨l, hl12, rfl, i1, i2⟩ | ⟨i1, i2⟩
        · simp only [↓reduceIte, i1, i2, bnd, n10, nI_leI (show f < 2 ^ 31 by omega) (show l < 2 ^ 31 by omega)]
          by_cases w : f ≤ l
          · simp only [↓reduceIte, w]
            rcases ap_cs x5 with ⟨v, hv, rfl, k1, k2⟩ | ⟨k1, k2⟩
            · simp only [↓reduceIte, k1, k2, bnd, n10]
              obtain ⟨M1, a1, a2, a3⟩ := me_c hb hc w hl12
              obtain ⟨M2, b1, b2, b3, b4⟩ := bq_c hb (hc.ag a2) ha w hl12 hv a3
              obtain ⟨M3, c1, c2, c3⟩ := ff_m hb hm ha w hl12 hv
              have sim := hS.ag (a2.tr b2) (exf c2)
              simp only [a1, b1, c1, bnd, if_pos (inbT (show c < 30 by omega) (by decide)), nI_clamp (show c < 2 ^ 31 by omega)]
              have big : (999999 : Int32) = nI 999999 := rfl
              rcases b4 c hcn with ⟨k, y1, y2, y3⟩ | ⟨y1, y2⟩
              · have y4 : M3 11 c = nI k := (dv_iff c3 x99 hcn y1).mpr y2
                have y5 : ¬ nI k = 999999 := fun z => x99 k y1 (by rw [← big]; exact z.symm)
                simp only [↓reduceIte, y3, y4, y5]
                exact ⟨_, _, _, rfl, rfl, sim⟩
              · have y4 : M3 11 c = 999999 := by
                  rcases c3 c hcn with ⟨k, z1, z2, z3⟩ | ⟨z1, z2⟩
                  · exact absurd z2.1 (y1 k)
                  · exact z2
                simp only [↓reduceIte, y2, y4]
                exact ⟨_, _, _, rfl, rfl, sim⟩
            · rw [k1, k2]; exact ⟨_, _, _, rfl, rfl, hS⟩
          · simp only [↓reduceIte, w]
            exact ⟨_, _, _, rfl, rfl, hS⟩
        · rw [i1, i2]; exact ⟨_, _, _, rfl, rfl, hS⟩
      · rw [g1, g2]; exact ⟨_, _, _, rfl, rfl, hS⟩
    · rw [d1, d2]; exact ⟨_, _, _, rfl, rfl, hS⟩
  · rw [e1, e2]; exact ⟨_, _, _, rfl, rfl, hS⟩
