/-- the three numbers that a search for places keeps -/
def sP (M : Mem) (a b t : Int32) : Mem := upA M 4 (upd (upd (upd (M 4) 3 a) 4 b) 5 t)
theorem sP_5 (M : Mem) (a b t : Int32) : sP M a b t 4 5 = t := by unfold sP; rw [upA_s]; exact upd_s _ _ _
theorem sP_4 (M : Mem) (a b t : Int32) : sP M a b t 4 4 = b := by unfold sP; rw [upA_s, upd_n _ _ (by decide)]; exact upd_s _ _ _
theorem sP_3 (M : Mem) (a b t : Int32) : sP M a b t 4 3 = a := by unfold sP; rw [upA_s, upd_n _ _ (by decide), upd_n _ _ (by decide)]; exact upd_s _ _ _
theorem sP_n (M : Mem) (a b t : Int32) {k : Nat} (h : k ≠ 4) : sP M a b t k = M k := upA_n _ _ h
theorem sP_up (M : Mem) (a b t x y z : Int32) : up (up (up (sP M a b t) 4 3 x) 4 4 y) 4 5 z = sP M x y z := by
  unfold sP
  rw [up_upA, up_upA, up_upA]
  congr 1
  funext j
  unfold upd
  by_cases h5 : j = 5
  · simp only [↓reduceIte, h5]
  · by_cases h4 : j = 4
    · subst h4; simp
    · by_cases h3 : j = 3
      · subst h3; simp
      · simp only [↓reduceIte, h5, h4, h3]
theorem sP_0 (M : Mem) (x y z : Int32) : up (up (up M 4 3 x) 4 4 y) 4 5 z = sP M x y z := by
  unfold sP up
  rw [upA_upA, upA_upA, upA_s, upA_s]
theorem sP_ag (M : Mem) (a b t : Int32) : AgC M (sP M a b t) := AgC.u (Or.inl rfl)
theorem sz_m {a b : Nat} (ha : a < 1000000) (hb : b < 1000000) : f_X12_size (nI a - nI b) = some (nI ((a - b) + (b - a))) := by
  have h := abI ha hb
  unfold f_X12_size
  unfold ab at h
  by_cases c : (0 : Int32) ≤ nI a - nI b
  · rw [if_pos c] at h ⊢; rw [h]
  · rw [if_neg c] at h ⊢
    rw [← h]
    congr 1
/-- two stalls that don't touch -/
def cr (q : Nat → Nat → Nat) (a b : Nat) : Prop := 1 < (a / q 0 1 - b / q 0 1) + (b / q 0 1 - a / q 0 1) ∨ 1 < (a % q 0 1 - b % q 0 1) + (b % q 0 1 - a % q 0 1)
theorem cr_1 {Mc Mm : Mem} {q : Nat → Nat → Nat} (hb : Bd q) (hc : PC Mc q) (hm : PM Mm q) {a b : Nat} (ha : a < q 0 0 * q 0 1) (hbn : b < q 0 0 * q 0 1) : (f_X4_areClear Mc (nI a) (nI b) = some 1 ∧ f_X12_areApart Mm (nI a) (nI b) = some 1) ∨ (f_X4_areClear Mc (nI a) (nI b) = some 0 ∧ f_X12_areApart Mm (nI a) (nI b) = some 0) := by
  have hn := hb.n30
  obtain ⟨h1, h2, h3, h4⟩ := hb.w0 ha
  obtain ⟨-, k2, k3, k4⟩ := hb.w0 hbn
  have h5 := hb.pos ha
  obtain ⟨-, -, -, a4, a5⟩ := hc.2.2.1 a ha
  obtain ⟨-, -, -, b4, b5⟩ := hc.2.2.1 b hbn
  unfold f_X4_areClear f_X12_areApart
  simp only [if_pos (inbT (show a < 30 by omega) (by decide)), if_pos (inbT (show b < 30 by omega) (by decide)), nI_clamp (show a < 2 ^ 31 by omega), nI_clamp (show b < 2 ^ 31 by omega), a4, a5, b4, b5, hm.2.1, if_pos (nz h1 (by omega)), pk_div (show a < 2 ^ 31 by omega) h1 (show q 0 1 < 2 ^ 31 by omega), remI (show a < 2147483648 by omega) h1 (by omega), pk_div (show b < 2 ^ 31 by omega) h1 (show q 0 1 < 2 ^ 31 by omega), remI (show b < 2147483648 by omega) h1 (by omega), abI (show a / q 0 1 < 1000000 by omega) (show b / q 0 1 < 1000000 by omega), abI (show a % q 0 1 < 1000000 by omega) (show b % q 0 1 < 1000000 by omega), sz_m (show a / q 0 1 < 1000000 by omega) (show b / q 0 1 < 1000000 by omega), sz_m (show a % q 0 1 < 1000000 by omega) (show b % q 0 1 < 1000000 by omega), bnd]
  by_cases c1 : (1 : Int32) < nI ((a / q 0 1 - b / q 0 1) + (b / q 0 1 - a / q 0 1))
  · left; simp only [↓reduceIte, c1]; exact ⟨trivial, trivial⟩
  · by_cases c2 : nI ((a % q 0 1 - b % q 0 1) + (b % q 0 1 - a % q 0 1)) ≤ 1
    · right; simp only [↓reduceIte, c1, c2]; exact ⟨trivial, trivial⟩
    · left; simp only [↓reduceIte, c1, c2]; exact ⟨trivial, trivial⟩
/-- the class's row of wedges -/
def WR (M : Mem) (q : Nat → Nat → Nat) (m : Nat) : Prop := ∀ c, c < q 0 0 * q 0 1 → (pl q c → M 34 c = nI (wg q m c)) ∧ (¬ pl q c → M 34 c = -9)
def iP (a t : Int32) : Prop := (a = -9 ∧ t = -9) ∨ ((∃ c : Nat, c < 30 ∧ a = nI c) ∧ ∃ v : Nat, v < 100000 ∧ t = nI v)
theorem tw_i {Mc Mm : Mem} {q : Nat → Nat → Nat} (hb : Bd q) (hc : PC Mc q) (hm : PM Mm q) {m : Nat} (hw : WR Mc q m) (hmn : m < 12) (N : Nat) {a : Nat} (ha : a < q 0 0 * q 0 1) : ∀ k c : Nat, ∀ x y t : Int32, iP x t → c ≤ q 0 0 * q 0 1 → q 0 0 * q 0 1 - c < k → ∃ x' y' t', iP x' t' ∧ (∀ kc, f_X4_findPair_l81 kc N (nI a) k (sP Mc x y t) (nI c) = kc (sP Mc x' y' t')) ∧ (∀ kc, f_X12_two_l60 kc N Mm (nI m) (nI a) k x y t (nI c) = kc x' y' t') := by
  have hn := hb.n30
  intro k
  induction k with
  | zero => intro c _ _ _ _ _ h; omega
  | succ k ih =>
    intro c x y t hi h3 h4
    have hs := hc.ag (sP_ag Mc x y t)
    have e34 : sP Mc x y t 34 = Mc 34 := sP_n _ _ _ _ (by decide)
    by_cases e : c = q 0 0 * q 0 1
    · subst e
      refine ⟨x, y, t, hi, fun kc => ?_, fun kc => ?_⟩
      · rw [f_X4_findPair_l81, st_c hs, bnd, if_pos (nI_le (Nat.le_refl (q 0 0 * q 0 1)) (show q 0 0 * q 0 1 < 2 ^ 31 by omega))]
      · rw [f_X12_two_l60, al_m hm, bnd, if_pos (nI_le (Nat.le_refl (q 0 0 * q 0 1)) (show q 0 0 * q 0 1 < 2 ^ 31 by omega))]
    · have e1 : ¬ nI (q 0 0 * q 0 1) ≤ nI c := nI_ge (by omega) (by omega)
      have hcn : c < q 0 0 * q 0 1 := by omega
      have cla : (nI a).toNatClampNeg = a := nI_clamp (by omega)
      have clc : (nI c).toNatClampNeg = c := nI_clamp (by omega)
      have ia : inb (nI a) 30 := inbT (by omega) (by decide)
      have ic : inb (nI c) 30 := inbT (by omega) (by decide)
      -- the way on, without a change
      have go := ih (c + 1) x y t hi (by omega) (by omega)
      rcases pl_1 hb hc hm ha with ⟨p1, p2, p3⟩ | ⟨p1, p2, p3⟩
      · have wa := (hw a ha).1 p1
        have la := wg_le hb hmn (pl_in hb ha p1)
        have na : ¬ nI (wg q m a) = (-9) := ne9 (by omega)
        rcases pl_1 hb hc hm hcn with ⟨r1, r2, r3⟩ | ⟨r1, r2, r3⟩
        · have wc := (hw c hcn).1 r1
          have lc := wg_le hb hmn (pl_in hb hcn r1)
          have nc : ¬ nI (wg q m c) = (-9) := ne9 (by omega)
          rcases cr_1 hb hs hm ha hcn with ⟨s1, s2⟩ | ⟨s1, s2⟩
          · -- a pair
            have go2 := ih (c + 1) (nI a) (nI c) (nI (wg q m a + wg q m c)) (Or.inr ⟨⟨a, by omega, rfl⟩, _, by omega, rfl⟩) (by omega) (by omega)
            have wm := wd_m hb hm hmn (pl_in hb ha p1)
            have wm2 := wd_m hb hm hmn (pl_in hb hcn r1)
            rcases hi with ⟨i1, i2⟩ | ⟨⟨c0, i1, i2⟩, v, i3, i4⟩
            · subst i1 i2
              obtain ⟨x', y', t', g1, g2, g3⟩ := go2
              refine ⟨x', y', t', g1, fun kc => ?_, fun kc => ?_⟩
              · rw [f_X4_findPair_l81]
                simp only [st_c hs, bnd, ↓reduceIte, e1, if_pos ia, if_pos ic, cla, clc, e34, wa, wc, na, nc, s1, n10, f_X4_takePair, sP_5, nmd, nI_add, sP_up, nI1]
                exact g2 kc
              · rw [f_X12_two_l60]
                simp only [al_m hm, bnd, ↓reduceIte, e1, p3, r3, s2, n10, wm, wm2, nmd, nI_add, nI1]
                exact g3 kc
            · have nx : ¬ nI c0 = (-9) := ne9 (by omega)
              have nt : ¬ nI v = (-9) := ne9 (by omega)
              subst i2 i4
              by_cases c9 : nI v ≤ nI (wg q m a + wg q m c)
              · obtain ⟨x', y', t', g1, g2, g3⟩ := go
                refine ⟨x', y', t', g1, fun kc => ?_, fun kc => ?_⟩
                · rw [f_X4_findPair_l81]
                  simp only [st_c hs, bnd, ↓reduceIte, e1, if_pos ia, if_pos ic, cla, clc, e34, wa, wc, na, nc, s1, n10, f_X4_takePair, sP_5, nt, nmd, nI_add, c9, nI1]
                  exact g2 kc
                · rw [f_X12_two_l60]
                  simp only [al_m hm, bnd, ↓reduceIte, e1, p3, r3, s2, n10, wm, wm2, nmd, nI_add, nx, c9, nI1]
                  exact g3 kc
              · obtain ⟨x', y', t', g1, g2, g3⟩ := go2
                refine ⟨x', y', t', g1, fun kc => ?_, fun kc => ?_⟩
                · rw [f_X4_findPair_l81]
                  simp only [st_c hs, bnd, ↓reduceIte, e1, if_pos ia, if_pos ic, cla, clc, e34, wa, wc, na, nc, s1, n10, f_X4_takePair, sP_5, nt, nmd, nI_add, c9, sP_up, nI1]
                  exact g2 kc
                · rw [f_X12_two_l60]
                  simp only [al_m hm, bnd, ↓reduceIte, e1, p3, r3, s2, n10, wm, wm2, nmd, nI_add, nx, c9, nI1]
                  exact g3 kc
          · obtain ⟨x', y', t', g1, g2, g3⟩ := go
            refine ⟨x', y', t', g1, fun kc => ?_, fun kc => ?_⟩
            · rw [f_X4_findPair_l81]
              simp only [st_c hs, bnd, ↓reduceIte, e1, if_pos ia, if_pos ic, cla, clc, e34, wa, wc, na, nc, s1, nI1]
              exact g2 kc
            · rw [f_X12_two_l60]
              simp only [al_m hm, bnd, ↓reduceIte, e1, p3, r3, s2, n10, nI1]
              exact g3 kc
        · have wc := (hw c hcn).2 r1
          obtain ⟨x', y', t', g1, g2, g3⟩ := go
          refine ⟨x', y', t', g1, fun kc => ?_, fun kc => ?_⟩
          · rw [f_X4_findPair_l81]
            simp only [st_c hs, bnd, ↓reduceIte, e1, if_pos ia, if_pos ic, cla, clc, e34, wa, wc, na, nI1]
            exact g2 kc
          · rw [f_X12_two_l60]
            simp only [al_m hm, bnd, ↓reduceIte, e1, p3, r3, n10, nI1]
            exact g3 kc
      · have wa := (hw a ha).2 p1
        obtain ⟨x', y', t', g1, g2, g3⟩ := ih (c + 1) x y t hi (by omega) (by omega)
        -- the reference goes out at once; so does the class, step by step
        have idle : ∀ kc, f_X4_findPair_l81 kc N (nI a) (k + 1) (sP Mc x y t) (nI c) = kc (sP Mc x y t) := by
          have gen : ∀ k c : Nat, c ≤ q 0 0 * q 0 1 → q 0 0 * q 0 1 - c < k → ∀ kc, f_X4_findPair_l81 kc N (nI a) k (sP Mc x y t) (nI c) = kc (sP Mc x y t) := by
            intro k
            induction k with
            | zero => intro c _ h; omega
            | succ k ih2 =>
              intro c h5 h6 kc
              rw [f_X4_findPair_l81]
              by_cases e9 : c = q 0 0 * q 0 1
              · subst e9
                simp only [st_c hs, bnd, ↓reduceIte, nI_le (Nat.le_refl (q 0 0 * q 0 1)) (show q 0 0 * q 0 1 < 2 ^ 31 by omega)]
              · have e8 : ¬ nI (q 0 0 * q 0 1) ≤ nI c := nI_ge (by omega) (by omega)
                simp only [st_c hs, bnd, ↓reduceIte, e8, if_pos ia, cla, e34, wa, nI1]
                exact ih2 (c + 1) (by omega) (by omega) kc
          exact gen (k + 1) c (by omega) (by omega)
        refine ⟨x, y, t, hi, idle, fun kc => ?_⟩
        rw [f_X12_two_l60]
        simp only [al_m hm, bnd, ↓reduceIte, e1, p3]
theorem tw_o {Mc Mm : Mem} {q : Nat → Nat → Nat} (hb : Bd q) (hc : PC Mc q) (hm : PM Mm q) {m : Nat} (hw : WR Mc q m) (hmn : m < 12) (N : Nat) (hN : 100 ≤ N) (x2 : Int32) : ∀ k a : Nat, ∀ x y t : Int32, iP x t → a ≤ q 0 0 * q 0 1 → q 0 0 * q 0 1 - a < k → ∃ x' y' t', f_X4_findPair_l66 N k (sP Mc x y t) (nI a) = some (sP Mc x' y' t') ∧ f_X12_two_l45 N Mm (nI m) x2 k x y t (nI a) = if x2 = 0 then some x' else if x2 = 1 then some y' else some t' := by
  have hn := hb.n30
  intro k
  induction k with
  | zero => intro a _ _ _ _ _ h; omega
  | succ k ih =>
    intro a x y t hi h3 h4
    have hs := hc.ag (sP_ag Mc x y t)
    rw [f_X4_findPair_l66, f_X12_two_l45, st_c hs, al_m hm, bnd, bnd]
    by_cases e : a = q 0 0 * q 0 1
    · subst e
      simp only [↓reduceIte, nI_le (Nat.le_refl (q 0 0 * q 0 1)) (show q 0 0 * q 0 1 < 2 ^ 31 by omega)]
      exact ⟨x, y, t, rfl, rfl⟩
    · have e1 : ¬ nI (q 0 0 * q 0 1) ≤ nI a := nI_ge (by omega) (by omega)
      obtain ⟨x', y', t', g1, g2, g3⟩ := tw_i hb hc hm hw hmn N (a := a) (by omega) N (a + 1) x y t hi (by omega) (by omega)
      simp only [↓reduceIte, e1, nmd, nI1, g2, g3]
      exact ih (a + 1) x' y' t' g1 (by omega) (by omega)
/-- the row of wedges is filled -/
theorem fw_l {M : Mem} {q : Nat → Nat → Nat} (hb : Bd q) (hc : PC M q) (Mm : Mem) (hm : PM Mm q) {m : Nat} (hr : HR M 33 q m) (hmn : m < 12) (N : Nat) : ∀ k c : Nat, ∀ f : Nat → Int32, (∀ d, d < c → d < q 0 0 * q 0 1 → (pl q d → f d = nI (wg q m d)) ∧ (¬ pl q d → f d = -9)) → c ≤ q 0 0 * q 0 1 → q 0 0 * q 0 1 - c < k → ∃ f', (∀ d, d < q 0 0 * q 0 1 → (pl q d → f' d = nI (wg q m d)) ∧ (¬ pl q d → f' d = -9)) ∧ f_X4_findPair_l20 N k (upA M 34 f) (nI c) = f_X4_findPair_l66 N N (upA M 34 f') 0 := by
  have hn := hb.n30
  intro k
  induction k with
  | zero => intro c _ _ _ h; omega
  | succ k ih =>
    intro c f hf h3 h4
    have hs := hc.ag (AgC.u (M := M) (k := 34) (f := f) (by decide))
    have hr' : HR (upA M 34 f) 33 q m := fun d hd => by rw [upA_n _ _ (by decide)]; exact hr d hd
    rw [f_X4_findPair_l20, st_c hs, bnd]
    by_cases e : c = q 0 0 * q 0 1
    · subst e
      rw [if_pos (nI_le (Nat.le_refl (q 0 0 * q 0 1)) (show q 0 0 * q 0 1 < 2 ^ 31 by omega))]
      exact ⟨f, fun d hd => hf d hd hd, rfl⟩
    · have e1 : ¬ nI (q 0 0 * q 0 1) ≤ nI c := nI_ge (by omega) (by omega)
      have hcn : c < q 0 0 * q 0 1 := by omega
      have clc : (nI c).toNatClampNeg = c := nI_clamp (by omega)
      have ic : inb (nI c) 30 := inbT (by omega) (by decide)
      rw [if_neg e1]
      rcases pl_1 hb hs hm hcn with ⟨p1, p2, p3⟩ | ⟨p1, p2, p3⟩
      · simp only [p2, bnd, n10, ↓reduceIte, wd_c hb hs hr' hmn (pl_in hb hcn p1), if_pos ic, nmd, clc, up_upA, nI1]
        refine ih (c + 1) _ (fun d hd hdn => ?_) (by omega) (by omega)
        by_cases ed : d = c
        · subst ed
          exact ⟨fun _ => upd_s _ _ _, fun z => absurd p1 z⟩
        · rw [upd_n _ _ ed]; exact hf d (by omega) hdn
      · simp only [p2, bnd, ↓reduceIte, if_pos ic, nmd, clc, up_upA, nI1]
        refine ih (c + 1) _ (fun d hd hdn => ?_) (by omega) (by omega)
        by_cases ed : d = c
        · subst ed
          exact ⟨fun z => absurd z p1, fun _ => upd_s _ _ _⟩
        · rw [upd_n _ _ ed]; exact hf d (by omega) hdn
theorem sim_two {Mc Mm : Mem} (h : Sim Mc Mm) (x1 : Int32) (x2 : Int32) : ∃ (r : Int32) (Mc' : Mem), f_X11_two NN Mc x1 x2 = some (r, Mc') ∧ f_X12_two NN Mm x1 x2 = some r ∧ Sim Mc' Mm := by
  obtain ⟨⟨q, hb, h9, hc, hm⟩, -⟩ := id h
  have hn := hb.n30
  unfold f_X11_two f_X12_two
  rcases wi_n (x := x2) (hi := 2) (n := 2) (by decide) with ⟨v, hv, rfl, d1, d2⟩ | ⟨d1, d2⟩
  · rcases rf_cs hb hc hm x1 with ⟨m, hmn, rfl, hpos, a1, a2, a3, a4, a5⟩ | ⟨a1, a2, a3, a4⟩ | ⟨a1, a2, a3⟩
    · obtain ⟨M', w1, w2, w3, w4⟩ := wh hb hc hmn (r := 33) (by decide)
      have w1' : f_X4_measure NN Mc (nI m) = some M' := by unfold f_X4_measure; rw [w1]; rfl
      have hc' := hc.ag w2
      have hcs := hc'.ag (sP_ag M' (-9) (-9) (-9))
      have hrs : HR (sP M' (-9) (-9) (-9)) 33 q m := fun d hd => by rw [sP_n _ _ _ _ (by decide)]; exact w3 d hd
      obtain ⟨f', g1, g2⟩ := fw_l hb hcs Mm hm hrs hmn NN NN 0 ((sP M' (-9) (-9) (-9)) 34) (fun d hd => absurd hd (by omega)) (Nat.zero_le _) (show _ < 1000 by omega)
      rw [upA_id] at g2
      have e3 : upA (sP M' (-9) (-9) (-9)) 34 f' = sP (upA M' 34 f') (-9) (-9) (-9) := by
        unfold sP
        funext c
        unfold upA
        by_cases c1 : c = 34
        · subst c1; rfl
        · by_cases c2 : c = 4
          · subst c2; rfl
          · simp only [↓reduceIte, c1, c2]
      have ag2 : AgC M' (upA M' 34 f') := AgC.u (by decide)
      obtain ⟨x', y', t', k1, k2⟩ := tw_o hb (hc'.ag ag2) hm (m := m) (fun c hcn => by rw [upA_s]; exact g1 c hcn) hmn NN (by decide) (nI v) NN 0 (-9) (-9) (-9) (Or.inl ⟨rfl, rfl⟩) (Nat.zero_le _) (show _ < 1000 by omega)
      have fp : f_X4_findPair NN M' = some (sP (upA M' 34 f') x' y' t') := by
        unfold f_X4_findPair
        simp only [nmd, sP_0]
        rw [show f_X4_findPair_l20 NN NN (sP M' (-9) (-9) (-9)) 0 = _ from g2, e3]
        exact k1
      have k2' : f_X12_two_l45 NN Mm (nI m) (nI v) NN (-9) (-9) (-9) 0 = _ := k2
      simp only [d1, d2, bnd, n10, ↓reduceIte, a1, a3, a4, a5, w1', fp, k2', sP_3, sP_4, sP_5]
      have key : Sim (sP (upA M' 34 f') x' y' t') Mm := h.ag ((w2.tr ag2).tr (sP_ag _ _ _ _)) AgM.rf
      rcases (show v = 0 ∨ v = 1 ∨ v = 2 by omega) with rfl | rfl | rfl
      · simp only [↓reduceIte, show ¬ nI 0 = 2 by decide, show nI 0 = 0 from rfl]
        exact ⟨_, _, rfl, rfl, key⟩
      · simp only [↓reduceIte, show ¬ nI 1 = 2 by decide, show ¬ nI 1 = 0 by decide, show nI 1 = 1 from rfl]
        exact ⟨_, _, rfl, rfl, key⟩
      · simp only [↓reduceIte, show nI 2 = 2 from rfl, show ¬ (2 : Int32) = 0 by decide, show ¬ (2 : Int32) = 1 by decide]
        exact ⟨_, _, rfl, rfl, key⟩
    · simp only [d1, d2, bnd, n10, ↓reduceIte, a1, a3, a4, show ¬ (-3 : Int32) = 0 by decide]
      exact ⟨_, _, rfl, rfl, h⟩
    · simp only [d1, d2, bnd, n10, ↓reduceIte, a1, a3, show ¬ (-1 : Int32) = 0 by decide]
      exact ⟨_, _, rfl, rfl, h⟩
  · rcases rf_cs hb hc hm x1 with ⟨m, hmn, rfl, hpos, a1, a2, a3, a4, a5⟩ | ⟨a1, a2, a3, a4⟩ | ⟨a1, a2, a3⟩
    · simp only [d1, d2, bnd, n10, ↓reduceIte, a2, a3, show ¬ (-2 : Int32) = 0 by decide]
      exact ⟨_, _, rfl, rfl, h⟩
    · simp only [d1, d2, bnd, n10, ↓reduceIte, a2, a3, show ¬ (-2 : Int32) = 0 by decide]
      exact ⟨_, _, rfl, rfl, h⟩
    · simp only [d1, d2, bnd, n10, ↓reduceIte, a2, a3, show ¬ (-1 : Int32) = 0 by decide]
      exact ⟨_, _, rfl, rfl, h⟩
