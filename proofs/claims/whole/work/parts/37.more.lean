theorem pr {α β : Type} {a a' : α} {b : β} (h : a = a') : some (a, b) = some (a', b) := by rw [h]
theorem rfl' {α : Type} {a b c : α} (h1 : a = c) (h2 : b = c) : a = b := h1.trans h2.symm
theorem SH.uc {Mc Mm : Mem} (h : SH Mc Mm) {k j : Nat} {v : Int32} (hk : k < 9 ∨ 16 < k) : SH (up Mc k j v) Mm := h.same (fun i hi => ⟨up_n _ _ _ (by omega), up_n _ _ _ (by omega)⟩) rfl rfl rfl
theorem SH.um {Mc Mm : Mem} (h : SH Mc Mm) {k j : Nat} {v : Int32} (hk : k = 0 ∨ 3 < k) : SH Mc (up Mm k j v) := h.same (fun i hi => ⟨rfl, rfl⟩) (up_n _ _ _ (by omega)) (up_n _ _ _ (by omega)) (up_n _ _ _ (by omega))
/-- readings -/
theorem sim_reading {Mc Mm : Mem} (h : Sim Mc Mm) (x1 : Int32) (x2 : Int32) (x3 : Int32) : ∃ (r : Int32) (Mc' : Mem) (Mm' : Mem), f_X11_reading Mc x1 x2 x3 = some (r, Mc') ∧ f_X12_reading Mm x1 x2 x3 = some (r, Mm') ∧ Sim Mc' Mm' := by
  obtain ⟨⟨q, hb, h9, hc, hm⟩, hf, ht, ⟨n, hn, n1, n2, n3⟩, hs⟩ := id h
  unfold f_X11_reading f_X12_reading
  rcases has_cs hb hc hm x1 with ⟨c, hcn, rfl, e1, e2⟩ | ⟨e1, e2⟩
  · simp only [↓reduceIte, e1, e2, bnd, if_neg n10]
    rcases mo_cs x2 with ⟨m, hmn, rfl, d1, d2⟩ | ⟨d1, d2⟩
    · simp only [↓reduceIte, d1, d2, bnd, if_neg n10]
      rcases ap_cs x3 with ⟨v, hv, rfl, g1, g2⟩ | ⟨g1, g2⟩
      · simp only [↓reduceIte, g1, g2, bnd, if_neg n10]
        unfold f_X5_isFull
        rw [n1, n2]
        by_cases h10 : n = 10
        · subst h10
          simp only [↓reduceIte, if_neg (show ¬ nI 10 < 10 by decide), if_pos (show nI 10 = 10 by decide), bnd, if_neg n10]
          exact ⟨_, _, _, rfl, rfl, h⟩
        · have l1 : nI n < 10 := nI_lt (a := n) (b := 10) (by omega) (by omega)
          have l2 : ¬ nI n = 10 := fun z => by
            have := (nI_eq (a := n) (b := 10) (by omega) (by omega)).mp z
            omega
          have hi : inb (nI n) 10 := inbT (by omega) (by omega)
          unfold f_X5_take
          have k1 : up Mc 38 n (nI c) 7 4 = nI n := n1
          have k2 : up (up Mc 38 n (nI c)) 39 n (nI m) 7 4 = nI n := n1
          have k3 : up (up (up Mc 38 n (nI c)) 39 n (nI m)) 40 n (nI v) 7 4 = nI n := n1
          have j1 : up Mm 15 n (nI c) 0 21 = nI n := n2
          have j2 : up (up Mm 15 n (nI c)) 16 n (nI m) 0 21 = nI n := n2
          have j3 : up (up (up Mm 15 n (nI c)) 16 n (nI m)) 17 n (nI v) 0 21 = nI n := n2
          simp only [↓reduceIte, if_pos l1, if_neg l2, bnd, if_pos z00, n1, n2, if_pos hi, nmd, nI_clamp (n := n) (show n < 2 ^ 31 by omega), k1, k2, k3, j1, j2, j3]
          refine ⟨_, _, _, rfl, pr (by rw [up_ss, up_ss]), ?_⟩
          · refine ⟨⟨q, hb, h9, hc, hm⟩, hf, ht, ⟨n + 1, by omega, ?_, ?_, fun i hi => ?_⟩, ((((((((hs.uc (Or.inr (by decide))).uc (Or.inr (by decide))).uc (Or.inr (by decide))).uc (Or.inl (by decide))).um (Or.inr (by decide))).um (Or.inr (by decide))).um (Or.inr (by decide))).um (Or.inl (by decide)))⟩
            · rw [up_ss, nI1]
            · rw [up_ss, nI1]
            · by_cases e : i = n
              · subst e
                exact ⟨rfl' (up_ss Mc 38 i (nI c)) (up_ss Mm 15 i (nI c)), rfl' (up_ss (up Mc 38 i (nI c)) 39 i (nI m)) (up_ss (up Mm 15 i (nI c)) 16 i (nI m)), rfl' (up_ss (up (up Mc 38 i (nI c)) 39 i (nI m)) 40 i (nI v)) (up_ss (up (up Mm 15 i (nI c)) 16 i (nI m)) 17 i (nI v)), m, hmn, up_ss (up Mm 15 i (nI c)) 16 i (nI m)⟩
              · obtain ⟨a1, a2, a3, a4⟩ := n3 i (by omega)
                exact ⟨(up_sn _ _ _ e).trans (a1.trans (up_sn _ _ _ e).symm), (up_sn _ _ _ e).trans (a2.trans (up_sn _ _ _ e).symm), (up_sn _ _ _ e).trans (a3.trans (up_sn _ _ _ e).symm), by obtain ⟨m2, b1, b2⟩ := a4; exact ⟨m2, b1, (up_sn _ _ _ e).trans b2⟩⟩
      · rw [g1, g2]; exact ⟨_, _, _, rfl, rfl, h⟩
    · rw [d1, d2]; exact ⟨_, _, _, rfl, rfl, h⟩
  · rw [e1, e2]; exact ⟨_, _, _, rfl, rfl, h⟩
theorem sim_back {Mc Mm : Mem} (h : Sim Mc Mm) (x1 : Int32) : ∃ (r : Int32) (Mc' : Mem) (Mm' : Mem), f_X11_back Mc x1 = some (r, Mc') ∧ f_X12_back Mm x1 = some (r, Mm') ∧ Sim Mc' Mm' := by
  obtain ⟨⟨q, hb, h9, hc, hm⟩, hf, ht, ⟨n, hn, n1, n2, n3⟩, hs⟩ := id h
  unfold f_X11_back f_X12_back
  rw [n1, n2]
  rcases wi_n (x := x1) (hi := nI n) (n := n) (nI_toInt (by omega)) with ⟨v, hv, rfl, d1, d2⟩ | ⟨d1, d2⟩
  · unfold f_X5_takeBack
    simp only [↓reduceIte, d1, d2, bnd, if_neg n10, nmd, n1]
    rw [pk_sub hv]
    refine ⟨_, _, _, rfl, pr (by rw [up_ss, up_ss]), ?_⟩
    · refine ⟨⟨q, hb, h9, hc, hm⟩, hf, ht, ⟨n - v, by omega, up_ss _ _ _ _, up_ss _ _ _ _, fun i hi => n3 i (by omega)⟩, (hs.uc (Or.inl (by decide))).um (Or.inl (by decide))⟩
  · rw [d1, d2]; exact ⟨_, _, _, rfl, rfl, h⟩
theorem ki_one {Mc Mm : Mem} {q : Nat → Nat → Nat} (hb : Bd q) (hc : PC Mc q) (hm : PM Mm q) {n : Nat} (hn : n ≤ 10) (n1 : Mc 7 4 = nI n) (n2 : Mm 0 21 = nI n) (n3 : ∀ i, i < n → Mc 38 i = Mm 15 i ∧ Mc 39 i = Mm 16 i ∧ Mc 40 i = Mm 17 i ∧ ∃ m : Nat, m < 12 ∧ Mm 16 i = nI m) {c kd : Nat} (hcn : c < q 0 0 * q 0 1) (hk : kd ≤ 2) (N : Nat) : ∀ k i : Nat, i ≤ n → n - i < k → ∃ r, (r = 0 ∨ r = 1) ∧ f_X5_areAllSo_l2 N Mc (nI c) (nI kd) k (nI i) = some r ∧ f_X12_isKind_l2 N Mm (nI c) (nI kd) k (nI i) = some r := by
  intro k
  induction k with
  | zero => intro i _ h; omega
  | succ k ih =>
    intro i h1 h2
    rw [f_X5_areAllSo_l2, f_X12_isKind_l2, n1, n2]
    by_cases e : i = n
    · subst e
      simp only [↓reduceIte, if_pos (nI_le (Nat.le_refl i) (show i < 2 ^ 31 by omega))]
      exact ⟨1, Or.inr rfl, rfl, rfl⟩
    · have e1 : ¬ nI n ≤ nI i := nI_ge (by omega) (by omega)
      have hi : inb (nI i) 10 := inbT (by omega) (by omega)
      obtain ⟨a1, a2, a3, m, a4, a5⟩ := n3 i (by omega)
      have hcl : (nI i).toNatClampNeg = i := nI_clamp (by omega)
      simp only [↓reduceIte, if_neg e1, if_pos hi, hcl, a1, a2, a3, a5, hA_c hb hc hk hcn a4, hA_m hb hm hk hcn a4, bnd, nI1]
      by_cases e2 : Mm 15 i = nI c
      · simp only [↓reduceIte, if_pos e2]
        by_cases e3 : nI (hK q kd c m) = Mm 17 i
        · simp only [↓reduceIte, if_pos e3]; exact ih (i + 1) (by omega) (by omega)
        · simp only [↓reduceIte, if_neg e3]; exact ⟨0, Or.inl rfl, rfl, rfl⟩
      · simp only [↓reduceIte, if_neg e2]; exact ih (i + 1) (by omega) (by omega)
theorem ki_all {Mc Mm : Mem} {q : Nat → Nat → Nat} (hb : Bd q) (hc : PC Mc q) (hm : PM Mm q) {n : Nat} (hn : n ≤ 10) (n1 : Mc 7 4 = nI n) (n2 : Mm 0 21 = nI n) (n3 : ∀ i, i < n → Mc 38 i = Mm 15 i ∧ Mc 39 i = Mm 16 i ∧ Mc 40 i = Mm 17 i ∧ ∃ m : Nat, m < 12 ∧ Mm 16 i = nI m) {c : Nat} (hcn : c < q 0 0 * q 0 1) (N : Nat) (hN : 20 ≤ N) : ∀ k i : Nat, ∀ s : Int32, i ≤ 3 → 3 - i < k → ∃ r, f_X5_kindsOf_l4 N Mc (nI c) k s (nI i) = some r ∧ f_X12_kinds_l14 N Mm (nI c) k s (nI i) = some r := by
  intro k
  induction k with
  | zero => intro i _ _ h; omega
  | succ k ih =>
    intro i s h1 h2
    rw [f_X5_kindsOf_l4, f_X12_kinds_l14]
    by_cases e : i = 3
    · subst e
      simp only [↓reduceIte, if_pos (show (3 : Int32) ≤ nI 3 by decide)]
      exact ⟨s, rfl, rfl⟩
    · have e1 : ¬ (3 : Int32) ≤ nI i := nI_ge (a := i) (b := 3) (by omega) (by omega)
      obtain ⟨r, hr, r1, r2⟩ := ki_one hb hc hm hn n1 n2 n3 hcn (kd := i) (by omega) N N 0 (by omega) (by omega)
      have r1' : f_X5_areAllSo N Mc (nI c) (nI i) = some r := r1
      have r2' : f_X12_isKind N Mm (nI c) (nI i) = some r := r2
      simp only [↓reduceIte, if_neg e1, r1', r2', bnd, nmd, nI1]
      rcases hr with rfl | rfl
      · simp only [↓reduceIte, if_pos z00, Int32.or_zero]; exact ih (i + 1) _ (by omega) (by omega)
      · simp only [↓reduceIte, if_neg n10]; exact ih (i + 1) _ (by omega) (by omega)
theorem sim_kinds {Mc Mm : Mem} (h : Sim Mc Mm) (x1 : Int32) : ∃ (r : Int32), f_X11_kinds NN Mc x1 = some r ∧ f_X12_kinds NN Mm x1 = some r := by
  obtain ⟨⟨q, hb, h9, hc, hm⟩, hf, ht, ⟨n, hn, n1, n2, n3⟩, hs⟩ := id h
  unfold f_X11_kinds f_X12_kinds
  rcases has_cs hb hc hm x1 with ⟨c, hcn, rfl, e1, e2⟩ | ⟨e1, e2⟩
  · obtain ⟨r, r1, r2⟩ := ki_all hb hc hm hn n1 n2 n3 hcn NN (by decide) NN 0 0 (by decide) (by decide)
    have r1' : f_X5_kindsOf NN Mc (nI c) = some r := r1
    have r2' : f_X12_kinds_l14 NN Mm (nI c) NN 0 0 = some r := r2
    simp only [↓reduceIte, e1, e2, bnd, if_neg n10, r1', r2']
    exact ⟨_, rfl, rfl⟩
  · rw [e1, e2]; exact ⟨_, rfl, rfl⟩
/-- telling, treading, casts -/
theorem sim_tell {Mc Mm : Mem} (h : Sim Mc Mm) (x1 : Int32) : ∃ (r : Int32) (Mc' : Mem) (Mm' : Mem), f_X11_tell Mc x1 = some (r, Mc') ∧ f_X12_tell Mm x1 = some (r, Mm') ∧ Sim Mc' Mm' := by
  obtain ⟨⟨q, hb, h9, hc, hm⟩, hf, ht, hr, hs⟩ := id h
  have hn := hb.n30
  unfold f_X11_tell f_X12_tell
  rcases has_cs hb hc hm x1 with ⟨c, hcn, rfl, e1, e2⟩ | ⟨e1, e2⟩
  · have hi : inb (nI c) 30 := inbT (by omega) (by omega)
    obtain ⟨a1, a2, a3, -⟩ := hc.2.2.1 c hcn
    obtain ⟨b1, b2, b3⟩ := hm.2.2.1 c hcn
    have hk := (hb.2.1 c hcn).1
    have hcl : (nI c).toNatClampNeg = c := nI_clamp (by omega)
    have hi3 : inb (nI (q 1 c)) 3 := inbT (by omega) (by omega)
    have hcl3 : (nI (q 1 c)).toNatClampNeg = q 1 c := nI_clamp (by omega)
    simp only [↓reduceIte, f_X3_bodyOf, f_X7_telling, f_X7_stoneTelling, f_X0_telling, f_X1_telling, f_X8_leave, f_X12_begins, e1, e2, bnd, if_neg n10, if_pos hi, nmd, hcl, a1, a2, b1, b2, if_pos hi3, hcl3]
    rcases (show q 1 c = 0 ∨ q 1 c = 1 ∨ q 1 c = 2 by omega) with k0 | k0 | k0
    · rw [k0]
      simp only [↓reduceIte, if_pos (show (0 : Nat) = 0 from rfl), if_neg (show ¬ nI 0 = 1 by decide), if_neg (show ¬ nI 0 = 2 by decide)]
      refine ⟨_, _, _, rfl, rfl, ⟨q, hb, h9, hc, hm⟩, hf, ?_, hr, (hs.uc (Or.inl (by decide))).um (Or.inl (by decide))⟩
      simp only [up_ss, ht]
    · rw [k0]
      simp only [↓reduceIte, if_neg (show ¬ (1 : Nat) = 0 by decide), if_pos (show (1 : Nat) = 1 from rfl), if_pos (show nI 1 = 1 by decide)]
      refine ⟨_, _, _, rfl, rfl, ⟨q, hb, h9, hc, hm⟩, hf, ?_, hr, (((hs.uc (Or.inl (by decide))).uc (Or.inl (by decide))).um (Or.inl (by decide))).um (Or.inl (by decide))⟩
      simp only [up_ss, ht]
    · rw [k0]
      simp only [↓reduceIte, if_neg (show ¬ (2 : Nat) = 0 by decide), if_neg (show ¬ (2 : Nat) = 1 by decide), if_pos (show (2 : Nat) = 2 from rfl), if_neg (show ¬ nI 2 = 1 by decide), if_pos (show nI 2 = 2 by decide)]
      have e3 : nI (q 2 c) + 100 + nI (q 2 c) = 2 * nI (q 2 c) + 100 := by
        show nI (q 2 c) + nI 100 + nI (q 2 c) = nI 2 * nI (q 2 c) + nI 100
        rw [pk_mul, nI_add, nI_add, nI_add]; congr 1; omega
      refine ⟨2 * nI (q 2 c) + 100, _, _, pr e3, rfl, ⟨q, hb, h9, hc, hm⟩, hf, ?_, hr, (((((((hs.uc (Or.inl (by decide))).uc (Or.inl (by decide))).uc (Or.inl (by decide))).uc (Or.inl (by decide))).um (Or.inl (by decide))).um (Or.inl (by decide))).um (Or.inl (by decide))).um (Or.inl (by decide))⟩
      · simp only [up_ss, ht]
  · rw [e1, e2]; exact ⟨_, _, _, rfl, rfl, h⟩
theorem sim_tread {Mc Mm : Mem} (h : Sim Mc Mm) (x1 : Int32) : ∃ (r : Int32) (Mc' : Mem) (Mm' : Mem), f_X11_tread Mc x1 = some (r, Mc') ∧ f_X12_tread Mm x1 = some (r, Mm') ∧ Sim Mc' Mm' := by
  obtain ⟨⟨q, hb, h9, hc, hm⟩, hf, ht, hr, hs⟩ := id h
  have hn := hb.n30
  unfold f_X11_tread f_X12_tread
  rcases has_cs hb hc hm x1 with ⟨c, hcn, rfl, e1, e2⟩ | ⟨e1, e2⟩
  · have hi : inb (nI c) 30 := inbT (by omega) (by omega)
    obtain ⟨a1, a2, a3, -⟩ := hc.2.2.1 c hcn
    obtain ⟨b1, b2, b3⟩ := hm.2.2.1 c hcn
    have hk := (hb.2.1 c hcn).1
    have hcl : (nI c).toNatClampNeg = c := nI_clamp (by omega)
    have hi3 : inb (nI (q 1 c)) 3 := inbT (by omega) (by omega)
    have hcl3 : (nI (q 1 c)).toNatClampNeg = q 1 c := nI_clamp (by omega)
    have b4 : ∀ v, up Mm 0 1 v 4 c = nI (q 1 c) := fun v => b1
    simp only [↓reduceIte, f_X3_bodyOf, f_X12_begins, f_X7_trodden, f_X1_trodden, f_X8_leave, e1, e2, bnd, if_neg n10, if_pos hi, nmd, hcl, a1, b1, if_pos hi3, hcl3, b4]
    rcases (show q 1 c = 0 ∨ q 1 c = 1 ∨ q 1 c = 2 by omega) with k0 | k0 | k0
    · rw [k0]
      simp only [↓reduceIte, if_pos (show (0 : Nat) = 0 from rfl), if_neg (show ¬ nI 0 = 2 by decide)]
      refine ⟨_, _, _, rfl, rfl, ⟨q, hb, h9, hc, hm⟩, hf, ?_, hr, (hs.uc (Or.inl (by decide))).um (Or.inl (by decide))⟩
      simp only [up_ss, ht]
    · rw [k0]
      simp only [↓reduceIte, if_neg (show ¬ (1 : Nat) = 0 by decide), if_pos (show (1 : Nat) = 1 from rfl), if_neg (show ¬ nI 1 = 2 by decide)]
      refine ⟨_, _, _, rfl, rfl, ⟨q, hb, h9, hc, hm⟩, hf, ?_, hr, (hs.uc (Or.inl (by decide))).um (Or.inl (by decide))⟩
      simp only [up_ss, ht]
    · rw [k0]
      simp only [↓reduceIte, if_neg (show ¬ (2 : Nat) = 0 by decide), if_neg (show ¬ (2 : Nat) = 1 by decide), if_pos (show (2 : Nat) = 2 from rfl), if_pos (show nI 2 = 2 by decide)]
      refine ⟨_, _, _, rfl, rfl, ⟨q, hb, h9, hc, hm⟩, hf, ?_, hr, (hs.uc (Or.inl (by decide))).um (Or.inl (by decide))⟩
      simp only [up_ss, ht]
  · rw [e1, e2]; exact ⟨_, _, _, rfl, rfl, h⟩
theorem Sim.fault {Mc Mm : Mem} (h : Sim Mc Mm) (v : Int32) : Sim (up Mc 0 8 v) (up Mm 0 0 v) := by
  obtain ⟨⟨q, hb, h9, hc, hm⟩, hf, ht, hr, hs⟩ := h
  exact ⟨⟨q, hb, h9, hc, hm⟩, rfl' (up_ss _ _ _ _) (up_ss _ _ _ _), ht, hr, (hs.uc (Or.inl (by decide))).um (Or.inl (by decide))⟩
theorem sim_as {Mc Mm : Mem} (h : Sim Mc Mm) (x1 : Int32) (x2 : Int32) : ∃ (r : Int32) (Mc' : Mem) (Mm' : Mem), f_X11_as Mc x1 x2 = some (r, Mc') ∧ f_X12_as Mm x1 x2 = some (r, Mm') ∧ Sim Mc' Mm' := by
  unfold f_X11_as f_X12_as
  rw [nmd, nmd]
  have h := h.fault 0
  generalize up Mc 0 8 0 = Mc at h ⊢
  generalize up Mm 0 0 0 = Mm at h ⊢
  obtain ⟨⟨q, hb, h9, hc, hm⟩, hf, ht, hr, hs⟩ := id h
  have hn := hb.n30
  rcases has_cs hb hc hm x1 with ⟨c, hcn, rfl, e1, e2⟩ | ⟨e1, e2⟩
  · simp only [↓reduceIte, e1, e2, bnd, if_neg n10]
    rcases wi_n (x := x2) (hi := 2) (n := 2) (by decide) with ⟨v, hv, rfl, d1, d2⟩ | ⟨d1, d2⟩
    · have hi : inb (nI c) 30 := inbT (by omega) (by omega)
      have hcl : (nI c).toNatClampNeg = c := nI_clamp (by omega)
      have hk := (hb.2.1 c hcn).1
      simp only [↓reduceIte, d1, d2, bnd, if_neg n10, if_pos hi, hcl, (hc.2.2.1 c hcn).1, (hm.2.2.1 c hcn).1]
      by_cases hl : v ≤ q 1 c
      · simp only [↓reduceIte, if_pos (nI_le hl (show q 1 c < 2 ^ 31 by omega)), if_neg (nI_nlt hl (show q 1 c < 2 ^ 31 by omega))]
        exact ⟨_, _, _, rfl, rfl, h⟩
      · simp only [↓reduceIte, if_neg (nI_ge (show q 1 c < v by omega) (show v < 2 ^ 31 by omega)), if_pos (nI_lt (show q 1 c < v by omega) (show v < 2 ^ 31 by omega))]
        exact ⟨_, _, _, rfl, rfl, h.fault 2⟩
    · rw [d1, d2]; exact ⟨_, _, _, rfl, rfl, h⟩
  · rw [e1, e2]; exact ⟨_, _, _, rfl, rfl, h⟩
