/-- heights written into a row -/
theorem wh_l {M : Mem} {q : Nat → Nat → Nat} (hb : Bd q) (hc : PC M q) {m r : Nat} (hm : m < 12) (hr : 28 ≤ r ∧ r ≤ 37) (N : Nat) (f : Nat → Int32) : ∀ j i : Nat, i ≤ q 0 0 * q 0 1 → q 0 0 * q 0 1 - i < j → f_X3_writeHeights_l2 N r (nI m) j (upA M r (fl (fun c => nI (hN q c m)) f i)) (nI i) = some (upA M r (fl (fun c => nI (hN q c m)) f (q 0 0 * q 0 1))) := by
  have hn := hb.n30
  intro j
  induction j with
  | zero => intro i _ h; omega
  | succ j ih =>
    intro i h1 h2
    have hc' := hc.ag (AgC.u (M := M) (k := r) (f := fl (fun c => nI (hN q c m)) f i) (Or.inr hr))
    rw [f_X3_writeHeights_l2, st_c hc', bnd]
    by_cases e : i = q 0 0 * q 0 1
    · subst e
      simp only [↓reduceIte, nI_le (Nat.le_refl (q 0 0 * q 0 1)) (show q 0 0 * q 0 1 < 2 ^ 31 by omega)]
    · have e1 : ¬ nI (q 0 0 * q 0 1) ≤ nI i := nI_ge (by omega) (by omega)
      simp only [↓reduceIte, e1, hO_c hb hc' (show i < q 0 0 * q 0 1 by omega) hm, bnd, if_pos (inbT (show i < 30 by omega) (by decide)), nmd, nI_clamp (show i < 2 ^ 31 by omega), up_upA, nI1]
      rw [show upd (fl (fun c => nI (hN q c m)) f i) i (nI (hN q i m)) = fl (fun c => nI (hN q c m)) f (i + 1) from fl_s _ _ _]
      exact ih (i + 1) (by omega) (by omega)
/-- a row that holds the heights of a month -/
def HR (M : Mem) (r : Nat) (q : Nat → Nat → Nat) (m : Nat) : Prop := ∀ c, c < q 0 0 * q 0 1 → M r c = nI (hN q c m)
theorem wh {M : Mem} {q : Nat → Nat → Nat} (hb : Bd q) (hc : PC M q) {m r : Nat} (hm : m < 12) (hr : 28 ≤ r ∧ r ≤ 37) : ∃ M', f_X3_writeHeights NN r M (nI m) = some M' ∧ AgC M M' ∧ HR M' r q m ∧ ∀ k, k ≠ r → M' k = M k := by
  have hn := hb.n30
  have h := wh_l hb hc hm hr NN (M r) NN 0 (Nat.zero_le _) (show _ < 1000 by omega)
  rw [fl_0, upA_id] at h
  exact ⟨_, h, AgC.u (Or.inr hr), fun c hcn => by rw [upA_s, fl_in hcn], fun k hk => upA_n _ _ hk⟩
/-- rows and columns -/
theorem Bd.w0 {q : Nat → Nat → Nat} (hb : Bd q) {c : Nat} (hc : c < q 0 0 * q 0 1) : 0 < q 0 1 ∧ c / q 0 1 < q 0 0 ∧ c % q 0 1 < q 0 1 ∧ c = q 0 1 * (c / q 0 1) + c % q 0 1 := by
  have h := hb.pos hc
  have hw : 0 < q 0 1 := by omega
  refine ⟨hw, ?_, Nat.mod_lt _ hw, (Nat.div_add_mod c (q 0 1)).symm⟩
  rw [Nat.div_lt_iff_lt_mul hw]; exact hc
def pl (q : Nat → Nat → Nat) (c : Nat) : Prop := c / q 0 1 + 1 < q 0 0 ∧ c % q 0 1 + 1 < q 0 1
theorem pl_in {q : Nat → Nat → Nat} (hb : Bd q) {c : Nat} (hc : c < q 0 0 * q 0 1) (h : pl q c) : c + q 0 1 + 1 < q 0 0 * q 0 1 := by
  obtain ⟨h1, h2, h3, h4⟩ := hb.w0 hc
  have h5 : q 0 1 * (c / q 0 1 + 2) ≤ q 0 1 * q 0 0 := Nat.mul_le_mul (Nat.le_refl _) (by have := h.1; omega)
  rw [Nat.mul_add, Nat.mul_comm (q 0 1) (q 0 0)] at h5
  have := h.2
  omega
theorem nz {w : Nat} (h : 0 < w) (h2 : w < 100) : ¬ nI w = 0 := nI_ne0 h (by omega)
theorem s1 {w : Nat} (h : 0 < w) : nI w - 1 = nI (w - 1) := pk_sub (a := w) (b := 1) h
theorem st_is {Mc Mm : Mem} {q : Nat → Nat → Nat} (hb : Bd q) (hc : PC Mc q) (hm : PM Mm q) {c : Nat} (h : c < q 0 0 * q 0 1) : f_X3_has Mc (nI c) = some 1 ∧ f_X12_isStone Mm (nI c) = some 1 := by
  have hn := hb.n30
  have e1 : ¬ nI (q 0 0 * q 0 1) ≤ nI c := nI_ge h (by omega)
  have e2 : ¬ nI c < 0 := nI_pos (by omega)
  unfold f_X3_has f_X12_isStone
  simp only [al_m hm, hc.1, hc.2.1, pk_mul, bnd, ↓reduceIte, e1, e2]
  exact ⟨trivial, trivial⟩
theorem pl_1 {Mc Mm : Mem} {q : Nat → Nat → Nat} (hb : Bd q) (hc : PC Mc q) (hm : PM Mm q) {c : Nat} (h : c < q 0 0 * q 0 1) : (pl q c ∧ f_X3_hasStall Mc (nI c) = some 1 ∧ f_X12_isPlace Mm (nI c) = some 1) ∨ (¬ pl q c ∧ f_X3_hasStall Mc (nI c) = some 0 ∧ f_X12_isPlace Mm (nI c) = some 0) := by
  have hn := hb.n30
  obtain ⟨h1, h2, h3, h4⟩ := hb.w0 h
  have h5 := hb.pos h
  obtain ⟨g1, g2⟩ := st_is hb hc hm h
  obtain ⟨-, -, -, a4, a5⟩ := hc.2.2.1 c h
  unfold f_X3_hasStall f_X12_isPlace
  simp only [g1, g2, bnd, n10, ↓reduceIte, if_pos (inbT (show c < 30 by omega) (by decide)), nI_clamp (show c < 2 ^ 31 by omega), a4, a5, hc.1, hc.2.1, hm.1, hm.2.1, if_pos (nz h1 (by omega)), pk_div (show c < 2 ^ 31 by omega) h1 (show q 0 1 < 2 ^ 31 by omega), remI (show c < 2147483648 by omega) h1 (by omega), s1 h1, s1 (show 0 < q 0 0 by omega)]
  by_cases c1 : c / q 0 1 + 1 < q 0 0
  · have e1 : ¬ nI (q 0 0 - 1) ≤ nI (c / q 0 1) := nI_ge (by omega) (by omega)
    by_cases c2 : c % q 0 1 + 1 < q 0 1
    · have e2 : ¬ nI (q 0 1 - 1) ≤ nI (c % q 0 1) := nI_ge (by omega) (by omega)
      left; simp only [↓reduceIte, e1, e2]; exact ⟨⟨c1, c2⟩, trivial, trivial⟩
    · have e2 : nI (q 0 1 - 1) ≤ nI (c % q 0 1) := nI_le (by omega) (by omega)
      right; simp only [↓reduceIte, e1, e2]; exact ⟨fun z => c2 z.2, trivial, trivial⟩
  · have e1 : nI (q 0 0 - 1) ≤ nI (c / q 0 1) := nI_le (by omega) (by omega)
    right; simp only [↓reduceIte, e1]; exact ⟨fun z => c1 z.1, trivial, trivial⟩
/-- wedges -/
def w4 (a b d e : Nat) : Nat := 4 * max (max a b) (max d e) - (a + b + d + e)
def wg (q : Nat → Nat → Nat) (m c : Nat) : Nat := w4 (hN q c m) (hN q (c + 1) m) (hN q (c + q 0 1) m) (hN q (c + q 0 1 + 1) m)
theorem sub4 {M a b d e : Nat} (h : M < 1000) (ha : a ≤ M) (hb : b ≤ M) (hd : d ≤ M) (he : e ≤ M) : ((((4 * nI M) - nI a) - nI b) - nI d) - nI e = nI (4 * M - (a + b + d + e)) := by
  show nI 4 * nI M - nI a - nI b - nI d - nI e = _
  rw [pk_mul, pk_sub (by omega), pk_sub (by omega), pk_sub (by omega), pk_sub (by omega)]
  congr 1; omega
theorem wg_le {q : Nat → Nat → Nat} (hb : Bd q) {c m : Nat} (hm : m < 12) (h : c + q 0 1 + 1 < q 0 0 * q 0 1) : wg q m c ≤ 2000 := by
  have a := hN_le hb (c := c) (show c < q 0 0 * q 0 1 by omega) hm
  have b := hN_le hb (c := c + 1) (show c + 1 < q 0 0 * q 0 1 by omega) hm
  have d := hN_le hb (c := c + q 0 1) (by omega) hm
  have e := hN_le hb (c := c + q 0 1 + 1) h hm
  unfold wg w4
  omega
theorem wd_m {Mm : Mem} {q : Nat → Nat → Nat} (hb : Bd q) (hm : PM Mm q) {c m : Nat} (hmn : m < 12) (h : c + q 0 1 + 1 < q 0 0 * q 0 1) : f_X12_wedgesOf Mm (nI c) (nI m) = some (nI (wg q m c)) := by
  have a := hN_le hb (c := c) (show c < q 0 0 * q 0 1 by omega) hmn
  have b := hN_le hb (c := c + 1) (show c + 1 < q 0 0 * q 0 1 by omega) hmn
  have d := hN_le hb (c := c + q 0 1) (by omega) hmn
  have e := hN_le hb (c := c + q 0 1 + 1) h hmn
  unfold f_X12_wedgesOf
  rw [hm.2.1, nI1, nI_add, nI1, hO_m hb hm (by omega) hmn, hO_m hb hm (by omega) hmn, hO_m hb hm (by omega) hmn, hO_m hb hm h hmn, bnd, bnd, bnd, bnd]
  unfold wg
  generalize hN q c m = a at a ⊢
  generalize hN q (c + 1) m = b at b ⊢
  generalize hN q (c + q 0 1) m = d at d ⊢
  generalize hN q (c + q 0 1 + 1) m = e at e ⊢
  have le : ∀ {x y : Nat}, x ≤ 500 → y ≤ 500 → (nI x ≤ nI y ↔ x ≤ y) := fun h1 h2 => nI_leI (by omega) (by omega)
  simp only [le a b, le d b, le e b, le e d, le d a, le e a]
  unfold w4
  split
  · split
    · split
      · rw [sub4 (by omega) (by omega) (by omega) (by omega) (by omega)]; congr 2; omega
      · rw [sub4 (by omega) (by omega) (by omega) (by omega) (by omega)]; congr 2; omega
    · split
      · rw [sub4 (by omega) (by omega) (by omega) (by omega) (by omega)]; congr 2; omega
      · rw [sub4 (by omega) (by omega) (by omega) (by omega) (by omega)]; congr 2; omega
  · split
    · split
      · rw [sub4 (by omega) (by omega) (by omega) (by omega) (by omega)]; congr 2; omega
      · rw [sub4 (by omega) (by omega) (by omega) (by omega) (by omega)]; congr 2; omega
    · split
      · rw [sub4 (by omega) (by omega) (by omega) (by omega) (by omega)]; congr 2; omega
      · rw [sub4 (by omega) (by omega) (by omega) (by omega) (by omega)]; congr 2; omega
theorem wd_c {M : Mem} {q : Nat → Nat → Nat} (hb : Bd q) (hc : PC M q) {c m : Nat} (hr : HR M 33 q m) (hmn : m < 12) (h : c + q 0 1 + 1 < q 0 0 * q 0 1) : f_X4_wedgesAt M (nI c) = some (nI (wg q m c)) := by
  have hn := hb.n30
  have a := hN_le hb (c := c) (show c < q 0 0 * q 0 1 by omega) hmn
  have b := hN_le hb (c := c + 1) (show c + 1 < q 0 0 * q 0 1 by omega) hmn
  have d := hN_le hb (c := c + q 0 1) (by omega) hmn
  have e := hN_le hb (c := c + q 0 1 + 1) h hmn
  unfold f_X4_wedgesAt
  rw [hc.2.1, nI_add, nI1, nmd, nI1]
  simp only [if_pos (inbT (show c < 30 by omega) (by decide)), if_pos (inbT (show c + 1 < 30 by omega) (by decide)), if_pos (inbT (show c + q 0 1 < 30 by omega) (by decide)), if_pos (inbT (show c + q 0 1 + 1 < 30 by omega) (by decide)), nI_clamp (show c < 2 ^ 31 by omega), nI_clamp (show c + 1 < 2 ^ 31 by omega), nI_clamp (show c + q 0 1 < 2 ^ 31 by omega), nI_clamp (show c + q 0 1 + 1 < 2 ^ 31 by omega), nmd, hr c (by omega), hr (c + 1) (by omega), hr (c + q 0 1) (by omega), hr (c + q 0 1 + 1) h]
  unfold wg w4
  rw [mxI (by omega) (by omega), mxI (by omega) (by omega), mxI (by omega) (by omega), nI_add, nI_add, nI_add]
  show some (nI 4 * nI _ - nI _) = _
  rw [pk_mul, pk_sub (by omega)]
theorem sim_wedges {Mc Mm : Mem} (h : Sim Mc Mm) (x1 : Int32) (x2 : Int32) : ∃ (r : Int32) (Mc' : Mem), f_X11_wedges NN Mc x1 x2 = some (r, Mc') ∧ f_X12_wedges Mm x1 x2 = some r ∧ Sim Mc' Mm := by
  obtain ⟨⟨q, hb, h9, hc, hm⟩, -⟩ := id h
  unfold f_X11_wedges f_X12_wedges
  have key : (∃ c : Nat, c < q 0 0 * q 0 1 ∧ x1 = nI c ∧ pl q c ∧ f_X3_hasStall Mc x1 = some 1 ∧ f_X12_isPlace Mm x1 = some 1) ∨ (f_X3_hasStall Mc x1 = some 0 ∧ f_X12_isPlace Mm x1 = some 0) := by
    rcases has_cs hb hc hm x1 with ⟨c, hcn, rfl, e1, e2⟩ | ⟨e1, e2⟩
    · rcases pl_1 hb hc hm hcn with ⟨p1, p2, p3⟩ | ⟨p1, p2, p3⟩
      · left; exact ⟨c, hcn, rfl, p1, p2, p3⟩
      · right; exact ⟨p2, p3⟩
    · right
      unfold f_X3_hasStall f_X12_isPlace
      rw [e1, e2]; exact ⟨rfl, rfl⟩
  rcases key with ⟨c, hcn, rfl, hp, e1, e2⟩ | ⟨e1, e2⟩
  · simp only [e1, e2, bnd, n10, ↓reduceIte]
    rcases mo_cs x2 with ⟨m, hmn, rfl, d1, d2⟩ | ⟨d1, d2⟩
    · obtain ⟨M', w1, w2, w3, w4⟩ := wh hb hc hmn (r := 33) (by decide)
      have w1' : f_X4_measure NN Mc (nI m) = some M' := by unfold f_X4_measure; rw [w1]; rfl
      simp only [d1, d2, bnd, n10, ↓reduceIte, w1', wd_c hb (hc.ag w2) w3 hmn (pl_in hb hcn hp), wd_m hb hm hmn (pl_in hb hcn hp)]
      exact ⟨_, _, rfl, rfl, h.ag w2 AgM.rf⟩
    · rw [d1, d2]; exact ⟨_, _, rfl, rfl, h⟩
  · rw [e1, e2]; exact ⟨_, _, rfl, rfl, h⟩
/-- refusals of calls on a whole square -/
theorem rf_cs {Mc Mm : Mem} {q : Nat → Nat → Nat} (hb : Bd q) (hc : PC Mc q) (hm : PM Mm q) (x : Int32) : (∃ m : Nat, m < 12 ∧ x = nI m ∧ 0 < q 0 0 * q 0 1 ∧ f_X11_refusalOf Mc x 1 = some 0 ∧ f_X11_refusalOf Mc x 0 = some (-2) ∧ f_X12_isMonth x = some 1 ∧ f_X12_all Mm = some (nI (q 0 0 * q 0 1)) ∧ ¬ nI (q 0 0 * q 0 1) = 0) ∨ (f_X11_refusalOf Mc x 1 = some (-3) ∧ f_X11_refusalOf Mc x 0 = some (-2) ∧ f_X12_isMonth x = some 1 ∧ f_X12_all Mm = some 0) ∨ (f_X11_refusalOf Mc x 1 = some (-1) ∧ f_X11_refusalOf Mc x 0 = some (-1) ∧ f_X12_isMonth x = some 0) := by
  have hn := hb.n30
  unfold f_X11_refusalOf f_X3_isBare
  rw [al_m hm, hc.2.1]
  rcases mo_cs x with ⟨m, hmn, rfl, d1, d2⟩ | ⟨d1, d2⟩
  · simp only [d1, d2, bnd, n10, ↓reduceIte]
    by_cases hz : q 0 1 = 0
    · right; left
      have z1 : nI (q 0 1) = 0 := by rw [hz]; rfl
      have z2 : q 0 0 * q 0 1 = 0 := hb.z.mpr hz
      simp only [z1, bnd, n10, ↓reduceIte]
      rw [z2]; exact ⟨trivial, trivial, trivial, rfl⟩
    · left
      have hz2 : ¬ q 0 0 * q 0 1 = 0 := fun z => hz (hb.z.mp z)
      have w6 : q 0 1 ≤ 6 := by rcases hb.1 with z | z <;> omega
      have z1 : ¬ nI (q 0 1) = 0 := nz (by omega) (by omega)
      simp only [z1, bnd, ↓reduceIte]
      exact ⟨m, hmn, rfl, by omega, trivial, trivial, trivial, trivial, nI_ne0 (by omega) (by omega)⟩
  · right; right
    rw [d1, d2]; exact ⟨rfl, rfl, rfl⟩
theorem bp_l {Mc Mm : Mem} {q : Nat → Nat → Nat} (hb : Bd q) (hc : PC Mc q) (hm : PM Mm q) {m : Nat} (hr : HR Mc 33 q m) (hmn : m < 12) (N : Nat) (x2 : Int32) : ∀ k b c : Nat, b < q 0 0 * q 0 1 → pl q b → c ≤ q 0 0 * q 0 1 → q 0 0 * q 0 1 - c < k → ∃ b', b' < q 0 0 * q 0 1 ∧ pl q b' ∧ f_X4_bestPlace_l4 N Mc k (nI b) (nI c) = some (nI b') ∧ f_X12_best_l36 N Mm (nI m) x2 k (nI b) (nI c) = if x2 = 0 then some (nI b') else some (nI (wg q m b')) := by
  have hn := hb.n30
  intro k
  induction k with
  | zero => intro b c _ _ _ h; omega
  | succ k ih =>
    intro b c h1 h2 h3 h4
    rw [f_X4_bestPlace_l4, f_X12_best_l36, st_c hc, al_m hm, bnd, bnd, wd_m hb hm hmn (pl_in hb h1 h2), wd_c hb hc hr hmn (pl_in hb h1 h2), bnd]
    by_cases e : c = q 0 0 * q 0 1
    · subst e
      simp only [↓reduceIte, nI_le (Nat.le_refl (q 0 0 * q 0 1)) (show q 0 0 * q 0 1 < 2 ^ 31 by omega)]
      exact ⟨b, h1, h2, rfl, rfl⟩
    · have e1 : ¬ nI (q 0 0 * q 0 1) ≤ nI c := nI_ge (by omega) (by omega)
      have hcn : c < q 0 0 * q 0 1 := by omega
      simp only [↓reduceIte, e1]
      rcases pl_1 hb hc hm hcn with ⟨p1, p2, p3⟩ | ⟨p1, p2, p3⟩
      · simp only [p2, p3, bnd, n10, ↓reduceIte, wd_m hb hm hmn (pl_in hb hcn p1), wd_c hb hc hr hmn (pl_in hb hcn p1), nI1]
        by_cases e2 : nI (wg q m b) ≤ nI (wg q m c)
        · simp only [↓reduceIte, e2]; exact ih b (c + 1) h1 h2 (by omega) (by omega)
        · simp only [↓reduceIte, e2]; exact ih c (c + 1) hcn p1 (by omega) (by omega)
      · simp only [p2, p3, bnd, ↓reduceIte, nI1]
        exact ih b (c + 1) h1 h2 (by omega) (by omega)
theorem pl_0 {q : Nat → Nat → Nat} (hb : Bd q) (h : 0 < q 0 0 * q 0 1) : pl q 0 := by
  have := hb.pos h
  unfold pl
  rw [Nat.zero_div, Nat.zero_mod]; omega
theorem sim_best {Mc Mm : Mem} (h : Sim Mc Mm) (x1 : Int32) (x2 : Int32) : ∃ (r : Int32) (Mc' : Mem), f_X11_best NN Mc x1 x2 = some (r, Mc') ∧ f_X12_best NN Mm x1 x2 = some r ∧ Sim Mc' Mm := by
  obtain ⟨⟨q, hb, h9, hc, hm⟩, -⟩ := id h
  have hn := hb.n30
  unfold f_X11_best f_X12_best
  rcases wi_n (x := x2) (hi := 1) (n := 1) (by decide) with ⟨v, hv, rfl, d1, d2⟩ | ⟨d1, d2⟩
  · rcases rf_cs hb hc hm x1 with ⟨m, hmn, rfl, hpos, a1, a2, a3, a4, a5⟩ | ⟨a1, a2, a3, a4⟩ | ⟨a1, a2, a3⟩
    · obtain ⟨M', w1, w2, w3, w4⟩ := wh hb hc hmn (r := 33) (by decide)
      have w1' : f_X4_measure NN Mc (nI m) = some M' := by unfold f_X4_measure; rw [w1]; rfl
      obtain ⟨b, b1, b2, b3, b4⟩ := bp_l hb (hc.ag w2) hm w3 hmn NN (nI v) NN 0 1 hpos (pl_0 hb hpos) (by omega) (show _ < 1000 by omega)
      have b3' : f_X4_bestPlace NN M' = some (nI b) := b3
      have b4' : f_X12_best_l36 NN Mm (nI m) (nI v) NN 0 1 = _ := b4
      simp only [d1, d2, bnd, n10, ↓reduceIte, a1, a3, a4, a5, w1', b3', b4', wd_c hb (hc.ag w2) w3 hmn (pl_in hb b1 b2)]
      by_cases hv0 : nI v = 0
      · simp only [↓reduceIte, hv0]; exact ⟨_, _, rfl, rfl, h.ag w2 AgM.rf⟩
      · simp only [↓reduceIte, hv0]; exact ⟨_, _, rfl, rfl, h.ag w2 AgM.rf⟩
    · simp only [d1, d2, bnd, n10, ↓reduceIte, a1, a3, a4, show ¬ (-3 : Int32) = 0 by decide]
      exact ⟨_, _, rfl, rfl, h⟩
    · simp only [d1, d2, bnd, n10, ↓reduceIte, a1, a3, show ¬ (-1 : Int32) = 0 by decide]
      exact ⟨_, _, rfl, rfl, h⟩
  · rcases rf_cs hb hc hm x1 with ⟨m, hmn, rfl, hpos, a1, a2, a3, a4, a5⟩ | ⟨a1, a2, a3, a4⟩ | ⟨a1, a2, a3⟩
    · simp only [d1, d2, bnd, n10, ↓reduceIte, a2, a3, show ¬ (-2 : Int32) = 0 by decide]
      exact ⟨_, _, rfl, rfl, h⟩
    · simp only [d1, d2, bnd, n10, ↓reduceIte, a2, a3, show ¬ (-2 : Int32) = 0 by decide]
      exact ⟨_, _, rfl, rfl, h⟩
    · simp only [d1, d2, bnd, n10, ↓reduceIte, a2, a3, show ¬ (-1 : Int32) = 0 by decide]
      exact ⟨_, _, rfl, rfl, h⟩
